theorem dL_book_0 : decode cL_book 0 = .ok (.aload_n 2, 1) := by decide +kernel
theorem dL_book_1 : decode cL_book 1 = .ok (.iconst 0, 1) := by decide +kernel
theorem dL_book_2 : decode cL_book 2 = .ok (.aload_n 0, 1) := by decide +kernel
theorem dL_book_3 : decode cL_book 3 = .ok (.iload_n 1, 1) := by decide +kernel
theorem dL_book_4 : decode cL_book 4 = .ok (.invokevirtual 7, 3) := by decide +kernel
theorem dL_book_7 : decode cL_book 7 = .ok (.i2l, 1) := by decide +kernel
theorem dL_book_8 : decode cL_book 8 = .ok (.lastore, 1) := by decide +kernel
theorem dL_book_9 : decode cL_book 9 = .ok (.goto 6, 3) := by decide +kernel
theorem dL_book_12 : decode cL_book 12 = .ok (.astore_n 3, 1) := by decide +kernel
theorem dL_book_13 : decode cL_book 13 = .ok (.iconst 1, 1) := by decide +kernel
theorem dL_book_14 : decode cL_book 14 = .ok (.ireturn, 1) := by decide +kernel
theorem dL_book_15 : decode cL_book 15 = .ok (.iconst 0, 1) := by decide +kernel
theorem dL_book_16 : decode cL_book 16 = .ok (.ireturn, 1) := by decide +kernel
theorem dL_count_0 : decode cL_count 0 = .ok (.aload_n 2, 1) := by decide +kernel
theorem dL_count_1 : decode cL_count 1 = .ok (.iconst 0, 1) := by decide +kernel
theorem dL_count_2 : decode cL_count 2 = .ok (.aload_n 0, 1) := by decide +kernel
theorem dL_count_3 : decode cL_count 3 = .ok (.iload_n 1, 1) := by decide +kernel
theorem dL_count_4 : decode cL_count 4 = .ok (.invokevirtual 15, 3) := by decide +kernel
theorem dL_count_7 : decode cL_count 7 = .ok (.i2l, 1) := by decide +kernel
theorem dL_count_8 : decode cL_count 8 = .ok (.lastore, 1) := by decide +kernel
theorem dL_count_9 : decode cL_count 9 = .ok (.goto 6, 3) := by decide +kernel
theorem dL_count_12 : decode cL_count 12 = .ok (.astore_n 3, 1) := by decide +kernel
theorem dL_count_13 : decode cL_count 13 = .ok (.iconst 1, 1) := by decide +kernel
theorem dL_count_14 : decode cL_count 14 = .ok (.ireturn, 1) := by decide +kernel
theorem dL_count_15 : decode cL_count 15 = .ok (.iconst 0, 1) := by decide +kernel
theorem dL_count_16 : decode cL_count 16 = .ok (.ireturn, 1) := by decide +kernel
theorem dL_word_0 : decode cL_word 0 = .ok (.aload_n 3, 1) := by decide +kernel
theorem dL_word_1 : decode cL_word 1 = .ok (.iconst 0, 1) := by decide +kernel
theorem dL_word_2 : decode cL_word 2 = .ok (.aload_n 0, 1) := by decide +kernel
theorem dL_word_3 : decode cL_word 3 = .ok (.iload_n 1, 1) := by decide +kernel
theorem dL_word_4 : decode cL_word 4 = .ok (.iload_n 2, 1) := by decide +kernel
theorem dL_word_5 : decode cL_word 5 = .ok (.invokevirtual 20, 3) := by decide +kernel
theorem dL_word_8 : decode cL_word 8 = .ok (.i2l, 1) := by decide +kernel
theorem dL_word_9 : decode cL_word 9 = .ok (.lastore, 1) := by decide +kernel
theorem dL_word_10 : decode cL_word 10 = .ok (.goto 7, 3) := by decide +kernel
theorem dL_word_13 : decode cL_word 13 = .ok (.astore 4, 2) := by decide +kernel
theorem dL_word_15 : decode cL_word 15 = .ok (.iconst 1, 1) := by decide +kernel
theorem dL_word_16 : decode cL_word 16 = .ok (.ireturn, 1) := by decide +kernel
theorem dL_word_17 : decode cL_word 17 = .ok (.iconst 0, 1) := by decide +kernel
theorem dL_word_18 : decode cL_word 18 = .ok (.ireturn, 1) := by decide +kernel
theorem dL_door_0 : decode cL_door 0 = .ok (.aload_n 3, 1) := by decide +kernel
theorem dL_door_1 : decode cL_door 1 = .ok (.iconst 0, 1) := by decide +kernel
theorem dL_door_2 : decode cL_door 2 = .ok (.aload_n 0, 1) := by decide +kernel
theorem dL_door_3 : decode cL_door 3 = .ok (.iload_n 1, 1) := by decide +kernel
theorem dL_door_4 : decode cL_door 4 = .ok (.iload_n 2, 1) := by decide +kernel
theorem dL_door_5 : decode cL_door 5 = .ok (.invokevirtual 24, 3) := by decide +kernel
theorem dL_door_8 : decode cL_door 8 = .ok (.i2l, 1) := by decide +kernel
theorem dL_door_9 : decode cL_door 9 = .ok (.lastore, 1) := by decide +kernel
theorem dL_door_10 : decode cL_door 10 = .ok (.goto 7, 3) := by decide +kernel
theorem dL_door_13 : decode cL_door 13 = .ok (.astore 4, 2) := by decide +kernel
theorem dL_door_15 : decode cL_door 15 = .ok (.iconst 1, 1) := by decide +kernel
theorem dL_door_16 : decode cL_door 16 = .ok (.ireturn, 1) := by decide +kernel
theorem dL_door_17 : decode cL_door 17 = .ok (.iconst 0, 1) := by decide +kernel
theorem dL_door_18 : decode cL_door 18 = .ok (.ireturn, 1) := by decide +kernel
theorem dL_hears_0 : decode cL_hears 0 = .ok (.aload_n 3, 1) := by decide +kernel
theorem dL_hears_1 : decode cL_hears 1 = .ok (.iconst 0, 1) := by decide +kernel
theorem dL_hears_2 : decode cL_hears 2 = .ok (.aload_n 0, 1) := by decide +kernel
theorem dL_hears_3 : decode cL_hears 3 = .ok (.iload_n 1, 1) := by decide +kernel
theorem dL_hears_4 : decode cL_hears 4 = .ok (.iload_n 2, 1) := by decide +kernel
theorem dL_hears_5 : decode cL_hears 5 = .ok (.invokevirtual 27, 3) := by decide +kernel
theorem dL_hears_8 : decode cL_hears 8 = .ok (.i2l, 1) := by decide +kernel
theorem dL_hears_9 : decode cL_hears 9 = .ok (.lastore, 1) := by decide +kernel
theorem dL_hears_10 : decode cL_hears 10 = .ok (.goto 11, 3) := by decide +kernel
theorem dL_hears_13 : decode cL_hears 13 = .ok (.astore 4, 2) := by decide +kernel
theorem dL_hears_15 : decode cL_hears 15 = .ok (.iconst 1, 1) := by decide +kernel
theorem dL_hears_16 : decode cL_hears 16 = .ok (.ireturn, 1) := by decide +kernel
theorem dL_hears_17 : decode cL_hears 17 = .ok (.astore 4, 2) := by decide +kernel
theorem dL_hears_19 : decode cL_hears 19 = .ok (.iconst 2, 1) := by decide +kernel
theorem dL_hears_20 : decode cL_hears 20 = .ok (.ireturn, 1) := by decide +kernel
theorem dL_hears_21 : decode cL_hears 21 = .ok (.iconst 0, 1) := by decide +kernel
theorem dL_hears_22 : decode cL_hears 22 = .ok (.ireturn, 1) := by decide +kernel
theorem dL_read_0 : decode cL_read 0 = .ok (.aload_n 3, 1) := by decide +kernel
theorem dL_read_1 : decode cL_read 1 = .ok (.iconst 0, 1) := by decide +kernel
theorem dL_read_2 : decode cL_read 2 = .ok (.aload_n 0, 1) := by decide +kernel
theorem dL_read_3 : decode cL_read 3 = .ok (.iload_n 1, 1) := by decide +kernel
theorem dL_read_4 : decode cL_read 4 = .ok (.iload_n 2, 1) := by decide +kernel
theorem dL_read_5 : decode cL_read 5 = .ok (.invokevirtual 30, 3) := by decide +kernel
theorem dL_read_8 : decode cL_read 8 = .ok (.lastore, 1) := by decide +kernel
theorem dL_read_9 : decode cL_read 9 = .ok (.goto 11, 3) := by decide +kernel
theorem dL_read_12 : decode cL_read 12 = .ok (.astore 4, 2) := by decide +kernel
theorem dL_read_14 : decode cL_read 14 = .ok (.iconst 1, 1) := by decide +kernel
theorem dL_read_15 : decode cL_read 15 = .ok (.ireturn, 1) := by decide +kernel
theorem dL_read_16 : decode cL_read 16 = .ok (.astore 4, 2) := by decide +kernel
theorem dL_read_18 : decode cL_read 18 = .ok (.iconst 2, 1) := by decide +kernel
theorem dL_read_19 : decode cL_read 19 = .ok (.ireturn, 1) := by decide +kernel
theorem dL_read_20 : decode cL_read 20 = .ok (.iconst 0, 1) := by decide +kernel
theorem dL_read_21 : decode cL_read 21 = .ok (.ireturn, 1) := by decide +kernel
theorem dL_reading_0 : decode cL_reading 0 = .ok (.aload_n 3, 1) := by decide +kernel
theorem dL_reading_1 : decode cL_reading 1 = .ok (.iconst 0, 1) := by decide +kernel
theorem dL_reading_2 : decode cL_reading 2 = .ok (.aload_n 0, 1) := by decide +kernel
theorem dL_reading_3 : decode cL_reading 3 = .ok (.iload_n 1, 1) := by decide +kernel
theorem dL_reading_4 : decode cL_reading 4 = .ok (.iload_n 2, 1) := by decide +kernel
theorem dL_reading_5 : decode cL_reading 5 = .ok (.invokevirtual 34, 3) := by decide +kernel
theorem dL_reading_8 : decode cL_reading 8 = .ok (.i2l, 1) := by decide +kernel
theorem dL_reading_9 : decode cL_reading 9 = .ok (.lastore, 1) := by decide +kernel
theorem dL_reading_10 : decode cL_reading 10 = .ok (.goto 11, 3) := by decide +kernel
theorem dL_reading_13 : decode cL_reading 13 = .ok (.astore 4, 2) := by decide +kernel
theorem dL_reading_15 : decode cL_reading 15 = .ok (.iconst 1, 1) := by decide +kernel
theorem dL_reading_16 : decode cL_reading 16 = .ok (.ireturn, 1) := by decide +kernel
theorem dL_reading_17 : decode cL_reading 17 = .ok (.astore 4, 2) := by decide +kernel
theorem dL_reading_19 : decode cL_reading 19 = .ok (.iconst 2, 1) := by decide +kernel
theorem dL_reading_20 : decode cL_reading 20 = .ok (.ireturn, 1) := by decide +kernel
theorem dL_reading_21 : decode cL_reading 21 = .ok (.iconst 0, 1) := by decide +kernel
theorem dL_reading_22 : decode cL_reading 22 = .ok (.ireturn, 1) := by decide +kernel
theorem dL_apart_0 : decode cL_apart 0 = .ok (.aload_n 3, 1) := by decide +kernel
theorem dL_apart_1 : decode cL_apart 1 = .ok (.iconst 0, 1) := by decide +kernel
theorem dL_apart_2 : decode cL_apart 2 = .ok (.aload_n 0, 1) := by decide +kernel
theorem dL_apart_3 : decode cL_apart 3 = .ok (.iload_n 1, 1) := by decide +kernel
theorem dL_apart_4 : decode cL_apart 4 = .ok (.iload_n 2, 1) := by decide +kernel
theorem dL_apart_5 : decode cL_apart 5 = .ok (.invokevirtual 37, 3) := by decide +kernel
theorem dL_apart_8 : decode cL_apart 8 = .ok (.i2l, 1) := by decide +kernel
theorem dL_apart_9 : decode cL_apart 9 = .ok (.lastore, 1) := by decide +kernel
theorem dL_apart_10 : decode cL_apart 10 = .ok (.goto 7, 3) := by decide +kernel
theorem dL_apart_13 : decode cL_apart 13 = .ok (.astore 4, 2) := by decide +kernel
theorem dL_apart_15 : decode cL_apart 15 = .ok (.iconst 1, 1) := by decide +kernel
theorem dL_apart_16 : decode cL_apart 16 = .ok (.ireturn, 1) := by decide +kernel
theorem dL_apart_17 : decode cL_apart 17 = .ok (.iconst 0, 1) := by decide +kernel
theorem dL_apart_18 : decode cL_apart 18 = .ok (.ireturn, 1) := by decide +kernel
theorem dL_nearest_0 : decode cL_nearest 0 = .ok (.aload_n 3, 1) := by decide +kernel
theorem dL_nearest_1 : decode cL_nearest 1 = .ok (.iconst 0, 1) := by decide +kernel
theorem dL_nearest_2 : decode cL_nearest 2 = .ok (.aload_n 0, 1) := by decide +kernel
theorem dL_nearest_3 : decode cL_nearest 3 = .ok (.iload_n 1, 1) := by decide +kernel
theorem dL_nearest_4 : decode cL_nearest 4 = .ok (.iload_n 2, 1) := by decide +kernel
theorem dL_nearest_5 : decode cL_nearest 5 = .ok (.invokevirtual 40, 3) := by decide +kernel
theorem dL_nearest_8 : decode cL_nearest 8 = .ok (.i2l, 1) := by decide +kernel
theorem dL_nearest_9 : decode cL_nearest 9 = .ok (.lastore, 1) := by decide +kernel
theorem dL_nearest_10 : decode cL_nearest 10 = .ok (.goto 11, 3) := by decide +kernel
theorem dL_nearest_13 : decode cL_nearest 13 = .ok (.astore 4, 2) := by decide +kernel
theorem dL_nearest_15 : decode cL_nearest 15 = .ok (.iconst 1, 1) := by decide +kernel
theorem dL_nearest_16 : decode cL_nearest 16 = .ok (.ireturn, 1) := by decide +kernel
theorem dL_nearest_17 : decode cL_nearest 17 = .ok (.astore 4, 2) := by decide +kernel
theorem dL_nearest_19 : decode cL_nearest 19 = .ok (.iconst 2, 1) := by decide +kernel
theorem dL_nearest_20 : decode cL_nearest 20 = .ok (.ireturn, 1) := by decide +kernel
theorem dL_nearest_21 : decode cL_nearest 21 = .ok (.iconst 0, 1) := by decide +kernel
theorem dL_nearest_22 : decode cL_nearest 22 = .ok (.ireturn, 1) := by decide +kernel
theorem dL_die_0 : decode cL_die 0 = .ok (.aload_n 2, 1) := by decide +kernel
theorem dL_die_1 : decode cL_die 1 = .ok (.iconst 0, 1) := by decide +kernel
theorem dL_die_2 : decode cL_die 2 = .ok (.aload_n 0, 1) := by decide +kernel
theorem dL_die_3 : decode cL_die 3 = .ok (.iload_n 1, 1) := by decide +kernel
theorem dL_die_4 : decode cL_die 4 = .ok (.invokevirtual 43, 3) := by decide +kernel
theorem dL_die_7 : decode cL_die 7 = .ok (.i2l, 1) := by decide +kernel
theorem dL_die_8 : decode cL_die 8 = .ok (.lastore, 1) := by decide +kernel
theorem dL_die_9 : decode cL_die 9 = .ok (.goto 6, 3) := by decide +kernel
theorem dL_die_12 : decode cL_die 12 = .ok (.astore_n 3, 1) := by decide +kernel
theorem dL_die_13 : decode cL_die 13 = .ok (.iconst 1, 1) := by decide +kernel
theorem dL_die_14 : decode cL_die 14 = .ok (.ireturn, 1) := by decide +kernel
theorem dL_die_15 : decode cL_die 15 = .ok (.iconst 0, 1) := by decide +kernel
theorem dL_die_16 : decode cL_die 16 = .ok (.ireturn, 1) := by decide +kernel
theorem dL_worth_0 : decode cL_worth 0 = .ok (.aload_n 3, 1) := by decide +kernel
theorem dL_worth_1 : decode cL_worth 1 = .ok (.iconst 0, 1) := by decide +kernel
theorem dL_worth_2 : decode cL_worth 2 = .ok (.aload_n 0, 1) := by decide +kernel
theorem dL_worth_3 : decode cL_worth 3 = .ok (.iload_n 1, 1) := by decide +kernel
theorem dL_worth_4 : decode cL_worth 4 = .ok (.iload_n 2, 1) := by decide +kernel
theorem dL_worth_5 : decode cL_worth 5 = .ok (.invokevirtual 46, 3) := by decide +kernel
theorem dL_worth_8 : decode cL_worth 8 = .ok (.i2l, 1) := by decide +kernel
theorem dL_worth_9 : decode cL_worth 9 = .ok (.lastore, 1) := by decide +kernel
theorem dL_worth_10 : decode cL_worth 10 = .ok (.goto 7, 3) := by decide +kernel
theorem dL_worth_13 : decode cL_worth 13 = .ok (.astore 4, 2) := by decide +kernel
theorem dL_worth_15 : decode cL_worth 15 = .ok (.iconst 1, 1) := by decide +kernel
theorem dL_worth_16 : decode cL_worth 16 = .ok (.ireturn, 1) := by decide +kernel
theorem dL_worth_17 : decode cL_worth 17 = .ok (.iconst 0, 1) := by decide +kernel
theorem dL_worth_18 : decode cL_worth 18 = .ok (.ireturn, 1) := by decide +kernel
theorem dL_part_0 : decode cL_part 0 = .ok (.aload_n 3, 1) := by decide +kernel
theorem dL_part_1 : decode cL_part 1 = .ok (.iconst 0, 1) := by decide +kernel
theorem dL_part_2 : decode cL_part 2 = .ok (.aload_n 0, 1) := by decide +kernel
theorem dL_part_3 : decode cL_part 3 = .ok (.iload_n 1, 1) := by decide +kernel
theorem dL_part_4 : decode cL_part 4 = .ok (.iload_n 2, 1) := by decide +kernel
theorem dL_part_5 : decode cL_part 5 = .ok (.invokevirtual 49, 3) := by decide +kernel
theorem dL_part_8 : decode cL_part 8 = .ok (.i2l, 1) := by decide +kernel
theorem dL_part_9 : decode cL_part 9 = .ok (.lastore, 1) := by decide +kernel
theorem dL_part_10 : decode cL_part 10 = .ok (.goto 7, 3) := by decide +kernel
theorem dL_part_13 : decode cL_part 13 = .ok (.astore 4, 2) := by decide +kernel
theorem dL_part_15 : decode cL_part 15 = .ok (.iconst 1, 1) := by decide +kernel
theorem dL_part_16 : decode cL_part 16 = .ok (.ireturn, 1) := by decide +kernel
theorem dL_part_17 : decode cL_part 17 = .ok (.iconst 0, 1) := by decide +kernel
theorem dL_part_18 : decode cL_part 18 = .ok (.ireturn, 1) := by decide +kernel
theorem dL_rain_0 : decode cL_rain 0 = .ok (.aload_n 3, 1) := by decide +kernel
theorem dL_rain_1 : decode cL_rain 1 = .ok (.iconst 0, 1) := by decide +kernel
theorem dL_rain_2 : decode cL_rain 2 = .ok (.aload_n 0, 1) := by decide +kernel
theorem dL_rain_3 : decode cL_rain 3 = .ok (.iload_n 1, 1) := by decide +kernel
theorem dL_rain_4 : decode cL_rain 4 = .ok (.iload_n 2, 1) := by decide +kernel
theorem dL_rain_5 : decode cL_rain 5 = .ok (.invokevirtual 52, 3) := by decide +kernel
theorem dL_rain_8 : decode cL_rain 8 = .ok (.ifCond .eq 7, 3) := by decide +kernel
theorem dL_rain_11 : decode cL_rain 11 = .ok (.lconst 1, 1) := by decide +kernel
theorem dL_rain_12 : decode cL_rain 12 = .ok (.goto 4, 3) := by decide +kernel
theorem dL_rain_15 : decode cL_rain 15 = .ok (.lconst 0, 1) := by decide +kernel
theorem dL_rain_16 : decode cL_rain 16 = .ok (.lastore, 1) := by decide +kernel
theorem dL_rain_17 : decode cL_rain 17 = .ok (.goto 7, 3) := by decide +kernel
theorem dL_rain_20 : decode cL_rain 20 = .ok (.astore 4, 2) := by decide +kernel
theorem dL_rain_22 : decode cL_rain 22 = .ok (.iconst 1, 1) := by decide +kernel
theorem dL_rain_23 : decode cL_rain 23 = .ok (.ireturn, 1) := by decide +kernel
theorem dL_rain_24 : decode cL_rain 24 = .ok (.iconst 0, 1) := by decide +kernel
theorem dL_rain_25 : decode cL_rain 25 = .ok (.ireturn, 1) := by decide +kernel
theorem dL_mend_0 : decode cL_mend 0 = .ok (.aload_n 2, 1) := by decide +kernel
theorem dL_mend_1 : decode cL_mend 1 = .ok (.iconst 0, 1) := by decide +kernel
theorem dL_mend_2 : decode cL_mend 2 = .ok (.aload_n 0, 1) := by decide +kernel
theorem dL_mend_3 : decode cL_mend 3 = .ok (.iload_n 1, 1) := by decide +kernel
theorem dL_mend_4 : decode cL_mend 4 = .ok (.invokevirtual 56, 3) := by decide +kernel
theorem dL_mend_7 : decode cL_mend 7 = .ok (.i2l, 1) := by decide +kernel
theorem dL_mend_8 : decode cL_mend 8 = .ok (.lastore, 1) := by decide +kernel
theorem dL_mend_9 : decode cL_mend 9 = .ok (.goto 6, 3) := by decide +kernel
theorem dL_mend_12 : decode cL_mend 12 = .ok (.astore_n 3, 1) := by decide +kernel
theorem dL_mend_13 : decode cL_mend 13 = .ok (.iconst 1, 1) := by decide +kernel
theorem dL_mend_14 : decode cL_mend 14 = .ok (.ireturn, 1) := by decide +kernel
theorem dL_mend_15 : decode cL_mend 15 = .ok (.iconst 0, 1) := by decide +kernel
theorem dL_mend_16 : decode cL_mend 16 = .ok (.ireturn, 1) := by decide +kernel
theorem dL_newWord_0 : decode cL_newWord 0 = .ok (.aload_n 2, 1) := by decide +kernel
theorem dL_newWord_1 : decode cL_newWord 1 = .ok (.iconst 0, 1) := by decide +kernel
theorem dL_newWord_2 : decode cL_newWord 2 = .ok (.aload_n 0, 1) := by decide +kernel
theorem dL_newWord_3 : decode cL_newWord 3 = .ok (.iload_n 1, 1) := by decide +kernel
theorem dL_newWord_4 : decode cL_newWord 4 = .ok (.invokevirtual 59, 3) := by decide +kernel
theorem dL_newWord_7 : decode cL_newWord 7 = .ok (.i2l, 1) := by decide +kernel
theorem dL_newWord_8 : decode cL_newWord 8 = .ok (.lastore, 1) := by decide +kernel
theorem dL_newWord_9 : decode cL_newWord 9 = .ok (.goto 6, 3) := by decide +kernel
theorem dL_newWord_12 : decode cL_newWord 12 = .ok (.astore_n 3, 1) := by decide +kernel
theorem dL_newWord_13 : decode cL_newWord 13 = .ok (.iconst 1, 1) := by decide +kernel
theorem dL_newWord_14 : decode cL_newWord 14 = .ok (.ireturn, 1) := by decide +kernel
theorem dL_newWord_15 : decode cL_newWord 15 = .ok (.iconst 0, 1) := by decide +kernel
theorem dL_newWord_16 : decode cL_newWord 16 = .ok (.ireturn, 1) := by decide +kernel
theorem dL_span_0 : decode cL_span 0 = .ok (.aload_n 3, 1) := by decide +kernel
theorem dL_span_1 : decode cL_span 1 = .ok (.iconst 0, 1) := by decide +kernel
theorem dL_span_2 : decode cL_span 2 = .ok (.aload_n 0, 1) := by decide +kernel
theorem dL_span_3 : decode cL_span 3 = .ok (.iload_n 1, 1) := by decide +kernel
theorem dL_span_4 : decode cL_span 4 = .ok (.iload_n 2, 1) := by decide +kernel
theorem dL_span_5 : decode cL_span 5 = .ok (.invokevirtual 62, 3) := by decide +kernel
theorem dL_span_8 : decode cL_span 8 = .ok (.i2l, 1) := by decide +kernel
theorem dL_span_9 : decode cL_span 9 = .ok (.lastore, 1) := by decide +kernel
theorem dL_span_10 : decode cL_span 10 = .ok (.goto 7, 3) := by decide +kernel
theorem dL_span_13 : decode cL_span 13 = .ok (.astore 4, 2) := by decide +kernel
theorem dL_span_15 : decode cL_span 15 = .ok (.iconst 1, 1) := by decide +kernel
theorem dL_span_16 : decode cL_span 16 = .ok (.ireturn, 1) := by decide +kernel
theorem dL_span_17 : decode cL_span 17 = .ok (.iconst 0, 1) := by decide +kernel
theorem dL_span_18 : decode cL_span 18 = .ok (.ireturn, 1) := by decide +kernel
theorem dL_closest_0 : decode cL_closest 0 = .ok (.aload_n 2, 1) := by decide +kernel
theorem dL_closest_1 : decode cL_closest 1 = .ok (.iconst 0, 1) := by decide +kernel
theorem dL_closest_2 : decode cL_closest 2 = .ok (.aload_n 0, 1) := by decide +kernel
theorem dL_closest_3 : decode cL_closest 3 = .ok (.iload_n 1, 1) := by decide +kernel
theorem dL_closest_4 : decode cL_closest 4 = .ok (.invokevirtual 65, 3) := by decide +kernel
theorem dL_closest_7 : decode cL_closest 7 = .ok (.i2l, 1) := by decide +kernel
theorem dL_closest_8 : decode cL_closest 8 = .ok (.lastore, 1) := by decide +kernel
theorem dL_closest_9 : decode cL_closest 9 = .ok (.goto 6, 3) := by decide +kernel
theorem dL_closest_12 : decode cL_closest 12 = .ok (.astore_n 3, 1) := by decide +kernel
theorem dL_closest_13 : decode cL_closest 13 = .ok (.iconst 1, 1) := by decide +kernel
theorem dL_closest_14 : decode cL_closest 14 = .ok (.ireturn, 1) := by decide +kernel
theorem dL_closest_15 : decode cL_closest 15 = .ok (.iconst 0, 1) := by decide +kernel
theorem dL_closest_16 : decode cL_closest 16 = .ok (.ireturn, 1) := by decide +kernel
theorem dL_said_0 : decode cL_said 0 = .ok (.aload_n 2, 1) := by decide +kernel
theorem dL_said_1 : decode cL_said 1 = .ok (.iconst 0, 1) := by decide +kernel
theorem dL_said_2 : decode cL_said 2 = .ok (.aload_n 0, 1) := by decide +kernel
theorem dL_said_3 : decode cL_said 3 = .ok (.iload_n 1, 1) := by decide +kernel
theorem dL_said_4 : decode cL_said 4 = .ok (.invokevirtual 68, 3) := by decide +kernel
theorem dL_said_7 : decode cL_said 7 = .ok (.i2l, 1) := by decide +kernel
theorem dL_said_8 : decode cL_said 8 = .ok (.lastore, 1) := by decide +kernel
theorem dL_said_9 : decode cL_said 9 = .ok (.goto 6, 3) := by decide +kernel
theorem dL_said_12 : decode cL_said 12 = .ok (.astore_n 3, 1) := by decide +kernel
theorem dL_said_13 : decode cL_said 13 = .ok (.iconst 1, 1) := by decide +kernel
theorem dL_said_14 : decode cL_said 14 = .ok (.ireturn, 1) := by decide +kernel
theorem dL_said_15 : decode cL_said 15 = .ok (.iconst 0, 1) := by decide +kernel
theorem dL_said_16 : decode cL_said 16 = .ok (.ireturn, 1) := by decide +kernel
theorem dL_howMany_0 : decode cL_howMany 0 = .ok (.aload_n 2, 1) := by decide +kernel
theorem dL_howMany_1 : decode cL_howMany 1 = .ok (.iconst 0, 1) := by decide +kernel
theorem dL_howMany_2 : decode cL_howMany 2 = .ok (.aload_n 0, 1) := by decide +kernel
theorem dL_howMany_3 : decode cL_howMany 3 = .ok (.iload_n 1, 1) := by decide +kernel
theorem dL_howMany_4 : decode cL_howMany 4 = .ok (.invokevirtual 71, 3) := by decide +kernel
theorem dL_howMany_7 : decode cL_howMany 7 = .ok (.lastore, 1) := by decide +kernel
theorem dL_howMany_8 : decode cL_howMany 8 = .ok (.goto 6, 3) := by decide +kernel
theorem dL_howMany_11 : decode cL_howMany 11 = .ok (.astore_n 3, 1) := by decide +kernel
theorem dL_howMany_12 : decode cL_howMany 12 = .ok (.iconst 1, 1) := by decide +kernel
theorem dL_howMany_13 : decode cL_howMany 13 = .ok (.ireturn, 1) := by decide +kernel
theorem dL_howMany_14 : decode cL_howMany 14 = .ok (.iconst 0, 1) := by decide +kernel
theorem dL_howMany_15 : decode cL_howMany 15 = .ok (.ireturn, 1) := by decide +kernel
theorem dL_hear_0 : decode cL_hear 0 = .ok (.aload_n 3, 1) := by decide +kernel
theorem dL_hear_1 : decode cL_hear 1 = .ok (.iconst 0, 1) := by decide +kernel
theorem dL_hear_2 : decode cL_hear 2 = .ok (.aload_n 0, 1) := by decide +kernel
theorem dL_hear_3 : decode cL_hear 3 = .ok (.iload_n 1, 1) := by decide +kernel
theorem dL_hear_4 : decode cL_hear 4 = .ok (.iload_n 2, 1) := by decide +kernel
theorem dL_hear_5 : decode cL_hear 5 = .ok (.invokevirtual 75, 3) := by decide +kernel
theorem dL_hear_8 : decode cL_hear 8 = .ok (.i2l, 1) := by decide +kernel
theorem dL_hear_9 : decode cL_hear 9 = .ok (.lastore, 1) := by decide +kernel
theorem dL_hear_10 : decode cL_hear 10 = .ok (.goto 7, 3) := by decide +kernel
theorem dL_hear_13 : decode cL_hear 13 = .ok (.astore 4, 2) := by decide +kernel
theorem dL_hear_15 : decode cL_hear 15 = .ok (.iconst 1, 1) := by decide +kernel
theorem dL_hear_16 : decode cL_hear 16 = .ok (.ireturn, 1) := by decide +kernel
theorem dL_hear_17 : decode cL_hear 17 = .ok (.iconst 0, 1) := by decide +kernel
theorem dL_hear_18 : decode cL_hear 18 = .ok (.ireturn, 1) := by decide +kernel
theorem dL_listen_0 : decode cL_listen 0 = .ok (.aload_n 2, 1) := by decide +kernel
theorem dL_listen_1 : decode cL_listen 1 = .ok (.iconst 0, 1) := by decide +kernel
theorem dL_listen_2 : decode cL_listen 2 = .ok (.aload_n 0, 1) := by decide +kernel
theorem dL_listen_3 : decode cL_listen 3 = .ok (.iload_n 1, 1) := by decide +kernel
theorem dL_listen_4 : decode cL_listen 4 = .ok (.invokevirtual 78, 3) := by decide +kernel
theorem dL_listen_7 : decode cL_listen 7 = .ok (.i2l, 1) := by decide +kernel
theorem dL_listen_8 : decode cL_listen 8 = .ok (.lastore, 1) := by decide +kernel
theorem dL_listen_9 : decode cL_listen 9 = .ok (.goto 6, 3) := by decide +kernel
theorem dL_listen_12 : decode cL_listen 12 = .ok (.astore_n 3, 1) := by decide +kernel
theorem dL_listen_13 : decode cL_listen 13 = .ok (.iconst 1, 1) := by decide +kernel
theorem dL_listen_14 : decode cL_listen 14 = .ok (.ireturn, 1) := by decide +kernel
theorem dL_listen_15 : decode cL_listen 15 = .ok (.iconst 0, 1) := by decide +kernel
theorem dL_listen_16 : decode cL_listen 16 = .ok (.ireturn, 1) := by decide +kernel
theorem dL_telegraph_0 : decode cL_telegraph 0 = .ok (.aload_n 3, 1) := by decide +kernel
theorem dL_telegraph_1 : decode cL_telegraph 1 = .ok (.iconst 0, 1) := by decide +kernel
theorem dL_telegraph_2 : decode cL_telegraph 2 = .ok (.aload_n 0, 1) := by decide +kernel
theorem dL_telegraph_3 : decode cL_telegraph 3 = .ok (.iload_n 1, 1) := by decide +kernel
theorem dL_telegraph_4 : decode cL_telegraph 4 = .ok (.iload_n 2, 1) := by decide +kernel
theorem dL_telegraph_5 : decode cL_telegraph 5 = .ok (.invokevirtual 81, 3) := by decide +kernel
theorem dL_telegraph_8 : decode cL_telegraph 8 = .ok (.i2l, 1) := by decide +kernel
theorem dL_telegraph_9 : decode cL_telegraph 9 = .ok (.lastore, 1) := by decide +kernel
theorem dL_telegraph_10 : decode cL_telegraph 10 = .ok (.goto 7, 3) := by decide +kernel
theorem dL_telegraph_13 : decode cL_telegraph 13 = .ok (.astore 4, 2) := by decide +kernel
theorem dL_telegraph_15 : decode cL_telegraph 15 = .ok (.iconst 1, 1) := by decide +kernel
theorem dL_telegraph_16 : decode cL_telegraph 16 = .ok (.ireturn, 1) := by decide +kernel
theorem dL_telegraph_17 : decode cL_telegraph 17 = .ok (.iconst 0, 1) := by decide +kernel
theorem dL_telegraph_18 : decode cL_telegraph 18 = .ok (.ireturn, 1) := by decide +kernel
theorem dL_game_0 : decode cL_game 0 = .ok (.aload 4, 2) := by decide +kernel
theorem dL_game_2 : decode cL_game 2 = .ok (.iconst 0, 1) := by decide +kernel
theorem dL_game_3 : decode cL_game 3 = .ok (.aload_n 0, 1) := by decide +kernel
theorem dL_game_4 : decode cL_game 4 = .ok (.iload_n 1, 1) := by decide +kernel
theorem dL_game_5 : decode cL_game 5 = .ok (.iload_n 2, 1) := by decide +kernel
theorem dL_game_6 : decode cL_game 6 = .ok (.iload_n 3, 1) := by decide +kernel
theorem dL_game_7 : decode cL_game 7 = .ok (.invokevirtual 84, 3) := by decide +kernel
theorem dL_game_10 : decode cL_game 10 = .ok (.i2l, 1) := by decide +kernel
theorem dL_game_11 : decode cL_game 11 = .ok (.lastore, 1) := by decide +kernel
theorem dL_game_12 : decode cL_game 12 = .ok (.goto 11, 3) := by decide +kernel
theorem dL_game_15 : decode cL_game 15 = .ok (.astore 5, 2) := by decide +kernel
theorem dL_game_17 : decode cL_game 17 = .ok (.iconst 1, 1) := by decide +kernel
theorem dL_game_18 : decode cL_game 18 = .ok (.ireturn, 1) := by decide +kernel
theorem dL_game_19 : decode cL_game 19 = .ok (.astore 5, 2) := by decide +kernel
theorem dL_game_21 : decode cL_game 21 = .ok (.iconst 2, 1) := by decide +kernel
theorem dL_game_22 : decode cL_game 22 = .ok (.ireturn, 1) := by decide +kernel
theorem dL_game_23 : decode cL_game 23 = .ok (.iconst 0, 1) := by decide +kernel
theorem dL_game_24 : decode cL_game 24 = .ok (.ireturn, 1) := by decide +kernel
theorem dL_frost_0 : decode cL_frost 0 = .ok (.aload 4, 2) := by decide +kernel
theorem dL_frost_2 : decode cL_frost 2 = .ok (.iconst 0, 1) := by decide +kernel
theorem dL_frost_3 : decode cL_frost 3 = .ok (.aload_n 0, 1) := by decide +kernel
theorem dL_frost_4 : decode cL_frost 4 = .ok (.iload_n 1, 1) := by decide +kernel
theorem dL_frost_5 : decode cL_frost 5 = .ok (.iload_n 2, 1) := by decide +kernel
theorem dL_frost_6 : decode cL_frost 6 = .ok (.iload_n 3, 1) := by decide +kernel
theorem dL_frost_7 : decode cL_frost 7 = .ok (.invokevirtual 88, 3) := by decide +kernel
theorem dL_frost_10 : decode cL_frost 10 = .ok (.i2l, 1) := by decide +kernel
theorem dL_frost_11 : decode cL_frost 11 = .ok (.lastore, 1) := by decide +kernel
theorem dL_frost_12 : decode cL_frost 12 = .ok (.goto 11, 3) := by decide +kernel
theorem dL_frost_15 : decode cL_frost 15 = .ok (.astore 5, 2) := by decide +kernel
theorem dL_frost_17 : decode cL_frost 17 = .ok (.iconst 1, 1) := by decide +kernel
theorem dL_frost_18 : decode cL_frost 18 = .ok (.ireturn, 1) := by decide +kernel
theorem dL_frost_19 : decode cL_frost 19 = .ok (.astore 5, 2) := by decide +kernel
theorem dL_frost_21 : decode cL_frost 21 = .ok (.iconst 2, 1) := by decide +kernel
theorem dL_frost_22 : decode cL_frost 22 = .ok (.ireturn, 1) := by decide +kernel
theorem dL_frost_23 : decode cL_frost 23 = .ok (.iconst 0, 1) := by decide +kernel
theorem dL_frost_24 : decode cL_frost 24 = .ok (.ireturn, 1) := by decide +kernel
def f_L_book (n : Nat) (a1 : Int32) (μ : kbM) : Option (Int32 × kbM) :=
  kbOr (f_KB_book n a1 μ) (fun r2 =>
    kbIf (r2.1 == false) <|
    some ((1, r2.2))) fun x1 =>
  some ((0, kbX x1.2 97 0 x1.1.toInt64))
theorem sp_L_book {l : Launch} (hl : l.stackTraces = false) (n : Nat) (a1 : Int32) (μ : kbM) {x : Int32 × kbM} (h : f_L_book n a1 μ = some x) : kbSW l ML_book [(0, 9, 12, 13)] 109 1 [.ref 0, .int a1, .ref 97] μ (kbQe (some (.int x.1)) x.2) := by
  refine kb_enterW 1 rfl rfl ?_
  suffices H : ∀ (Q : kbQt) (P : Int32 × kbM → Prop), (∀ z : Int32 × kbM, P z → Q (some (.int z.1)) z.2) → kbG (f_L_book n a1 μ) P → kbY l ML_book [⟨0, 9, 12, 13⟩] (kbRmX 109 1) 0 0 (kbFm 1 Q) 0 [some (.ref 0), some (.int a1), some (.ref 97), none] [] μ from H _ (fun z => z = x) (fun z e => by subst e; exact ⟨rfl, rfl⟩) ⟨x, h, rfl⟩
  clear h
  intro Q P hr h
  unfold f_L_book at h
  refine y_aload_n dL_book_0 rfl ?_
  refine y_iconst 0 dL_book_1 (by decide) ?_
  refine y_aload_n dL_book_2 rfl ?_
  refine y_iload_n dL_book_3 rfl ?_
  rcases kbG_or h with ⟨r2, hx0, h⟩ | ⟨x1, hx0, h⟩
  · obtain ⟨b, ν⟩ := r2
    obtain ⟨hb, h⟩ := kbG_if h
    cases b with
    | true =>
      cases hb
    | false =>
      refine y_invVX cvL_7 sh0 rfl (sp_KB_book hl n a1 μ hx0) rfl rfl (Nat.le_of_ble_eq_true rfl) ⟨(Nat.le_of_ble_eq_true rfl), (Nat.le_of_ble_eq_true rfl), (Nat.le_of_ble_eq_true rfl), (Nat.le_of_ble_eq_true rfl)⟩ dL_book_4 (fun r μ' e => ?_) (fun X μ' e => ?_)
      · obtain ⟨z, e, _⟩ := e; cases e
      · obtain ⟨z, e, rfl, rfl⟩ := e; cases e
        refine y_catch1 (Or.inr ⟨_, dL_book_12, rfl, rfl⟩) (Nat.le_of_ble_eq_true rfl) rfl rfl (by decide) clI caI ?_
        refine y_iconst 1 dL_book_13 (by decide) ?_
        exact w_iret rfl (Nat.le_of_ble_eq_true rfl) (Nat.le_of_ble_eq_true rfl) dL_book_14 (hr ((1, ν)) (kbG_some h))
  refine y_invVX cvL_7 sh0 rfl (sp_KB_book hl n a1 μ hx0) rfl rfl (Nat.le_of_ble_eq_true rfl) ⟨(Nat.le_of_ble_eq_true rfl), (Nat.le_of_ble_eq_true rfl), (Nat.le_of_ble_eq_true rfl), (Nat.le_of_ble_eq_true rfl)⟩ dL_book_4 (fun r μ' e => ?_) (fun X μ' e => ?_)
  · obtain ⟨z, e, rfl, rfl⟩ := e; cases e
    refine y_i2l dL_book_7 ?_
    have hin : vp_in 0 1 := kbIn_of (by decide)
    refine yq_last 0 (by decide) sh97 hin dL_book_8 ?_
    refine y_goto 15 dL_book_9 (by decide) ?_
    refine y_iconst 0 dL_book_15 (by decide) ?_
    exact w_iret rfl (Nat.le_of_ble_eq_true rfl) (Nat.le_of_ble_eq_true rfl) dL_book_16 (hr ((0, kbX x1.2 97 0 x1.1.toInt64)) (kbG_some h))
  · obtain ⟨z, e, _⟩ := e; cases e
def f_L_count (n : Nat) (a1 : Int32) (μ : kbM) : Option (Int32 × kbM) :=
  kbOr (f_KB_count n a1 μ) (fun r2 =>
    kbIf (r2.1 == true) <|
    some ((1, r2.2))) fun x1 =>
  some ((0, kbX x1.2 97 0 x1.1.toInt64))
theorem sp_L_count {l : Launch} (hl : l.stackTraces = false) (n : Nat) (a1 : Int32) (μ : kbM) {x : Int32 × kbM} (h : f_L_count n a1 μ = some x) : kbSW l ML_count [(0, 9, 12, 18)] 7 1 [.ref 0, .int a1, .ref 97] μ (kbQe (some (.int x.1)) x.2) := by
  refine kb_enterW 1 rfl rfl ?_
  suffices H : ∀ (Q : kbQt) (P : Int32 × kbM → Prop), (∀ z : Int32 × kbM, P z → Q (some (.int z.1)) z.2) → kbG (f_L_count n a1 μ) P → kbY l ML_count [⟨0, 9, 12, 18⟩] (kbRmX 7 1) 0 0 (kbFm 1 Q) 0 [some (.ref 0), some (.int a1), some (.ref 97), none] [] μ from H _ (fun z => z = x) (fun z e => by subst e; exact ⟨rfl, rfl⟩) ⟨x, h, rfl⟩
  clear h
  intro Q P hr h
  unfold f_L_count at h
  refine y_aload_n dL_count_0 rfl ?_
  refine y_iconst 0 dL_count_1 (by decide) ?_
  refine y_aload_n dL_count_2 rfl ?_
  refine y_iload_n dL_count_3 rfl ?_
  rcases kbG_or h with ⟨r2, hx0, h⟩ | ⟨x1, hx0, h⟩
  · obtain ⟨b, ν⟩ := r2
    obtain ⟨hb, h⟩ := kbG_if h
    cases b with
    | true =>
      refine y_invVX cvL_15 sh0 rfl (sp_KB_count hl n a1 μ hx0) rfl rfl (Nat.le_of_ble_eq_true rfl) ⟨(Nat.le_of_ble_eq_true rfl), (Nat.le_of_ble_eq_true rfl), (Nat.le_of_ble_eq_true rfl), (Nat.le_of_ble_eq_true rfl)⟩ dL_count_4 (fun r μ' e => ?_) (fun X μ' e => ?_)
      · obtain ⟨z, e, _⟩ := e; cases e
      · obtain ⟨z, e, rfl, rfl⟩ := e; cases e
        refine y_catch1 (Or.inr ⟨_, dL_count_12, rfl, rfl⟩) (Nat.le_of_ble_eq_true rfl) rfl rfl (by decide) clN caN ?_
        refine y_iconst 1 dL_count_13 (by decide) ?_
        exact w_iret rfl (Nat.le_of_ble_eq_true rfl) (Nat.le_of_ble_eq_true rfl) dL_count_14 (hr ((1, ν)) (kbG_some h))
    | false =>
      cases hb
  refine y_invVX cvL_15 sh0 rfl (sp_KB_count hl n a1 μ hx0) rfl rfl (Nat.le_of_ble_eq_true rfl) ⟨(Nat.le_of_ble_eq_true rfl), (Nat.le_of_ble_eq_true rfl), (Nat.le_of_ble_eq_true rfl), (Nat.le_of_ble_eq_true rfl)⟩ dL_count_4 (fun r μ' e => ?_) (fun X μ' e => ?_)
  · obtain ⟨z, e, rfl, rfl⟩ := e; cases e
    refine y_i2l dL_count_7 ?_
    have hin : vp_in 0 1 := kbIn_of (by decide)
    refine yq_last 0 (by decide) sh97 hin dL_count_8 ?_
    refine y_goto 15 dL_count_9 (by decide) ?_
    refine y_iconst 0 dL_count_15 (by decide) ?_
    exact w_iret rfl (Nat.le_of_ble_eq_true rfl) (Nat.le_of_ble_eq_true rfl) dL_count_16 (hr ((0, kbX x1.2 97 0 x1.1.toInt64)) (kbG_some h))
  · obtain ⟨z, e, _⟩ := e; cases e
def f_L_word (n : Nat) (a1 : Int32) (a2 : Int32) (μ : kbM) : Option (Int32 × kbM) :=
  kbOr (f_KB_word n a1 a2 μ) (fun r2 =>
    kbIf (r2.1 == true) <|
    some ((1, r2.2))) fun x1 =>
  some ((0, kbX x1.2 97 0 x1.1.toInt64))
theorem sp_L_word {l : Launch} (hl : l.stackTraces = false) (n : Nat) (a1 : Int32) (a2 : Int32) (μ : kbM) {x : Int32 × kbM} (h : f_L_word n a1 a2 μ = some x) : kbSW l ML_word [(0, 10, 13, 18)] 8 2 [.ref 0, .int a1, .int a2, .ref 97] μ (kbQe (some (.int x.1)) x.2) := by
  refine kb_enterW 1 rfl rfl ?_
  suffices H : ∀ (Q : kbQt) (P : Int32 × kbM → Prop), (∀ z : Int32 × kbM, P z → Q (some (.int z.1)) z.2) → kbG (f_L_word n a1 a2 μ) P → kbY l ML_word [⟨0, 10, 13, 18⟩] (kbRmX 8 2) 0 0 (kbFm 2 Q) 0 [some (.ref 0), some (.int a1), some (.int a2), some (.ref 97), none] [] μ from H _ (fun z => z = x) (fun z e => by subst e; exact ⟨rfl, rfl⟩) ⟨x, h, rfl⟩
  clear h
  intro Q P hr h
  unfold f_L_word at h
  refine y_aload_n dL_word_0 rfl ?_
  refine y_iconst 0 dL_word_1 (by decide) ?_
  refine y_aload_n dL_word_2 rfl ?_
  refine y_iload_n dL_word_3 rfl ?_
  refine y_iload_n dL_word_4 rfl ?_
  rcases kbG_or h with ⟨r2, hx0, h⟩ | ⟨x1, hx0, h⟩
  · obtain ⟨b, ν⟩ := r2
    obtain ⟨hb, h⟩ := kbG_if h
    cases b with
    | true =>
      refine y_invVX cvL_20 sh0 rfl (sp_KB_word hl n a1 a2 μ hx0) rfl rfl (Nat.le_of_ble_eq_true rfl) ⟨(Nat.le_of_ble_eq_true rfl), (Nat.le_of_ble_eq_true rfl), (Nat.le_of_ble_eq_true rfl), (Nat.le_of_ble_eq_true rfl)⟩ dL_word_5 (fun r μ' e => ?_) (fun X μ' e => ?_)
      · obtain ⟨z, e, _⟩ := e; cases e
      · obtain ⟨z, e, rfl, rfl⟩ := e; cases e
        refine y_catch1 (Or.inl ⟨dL_word_13, rfl⟩) (Nat.le_of_ble_eq_true rfl) rfl rfl (by decide) clN caN ?_
        refine y_iconst 1 dL_word_15 (by decide) ?_
        exact w_iret rfl (Nat.le_of_ble_eq_true rfl) (Nat.le_of_ble_eq_true rfl) dL_word_16 (hr ((1, ν)) (kbG_some h))
    | false =>
      cases hb
  refine y_invVX cvL_20 sh0 rfl (sp_KB_word hl n a1 a2 μ hx0) rfl rfl (Nat.le_of_ble_eq_true rfl) ⟨(Nat.le_of_ble_eq_true rfl), (Nat.le_of_ble_eq_true rfl), (Nat.le_of_ble_eq_true rfl), (Nat.le_of_ble_eq_true rfl)⟩ dL_word_5 (fun r μ' e => ?_) (fun X μ' e => ?_)
  · obtain ⟨z, e, rfl, rfl⟩ := e; cases e
    refine y_i2l dL_word_8 ?_
    have hin : vp_in 0 1 := kbIn_of (by decide)
    refine yq_last 0 (by decide) sh97 hin dL_word_9 ?_
    refine y_goto 17 dL_word_10 (by decide) ?_
    refine y_iconst 0 dL_word_17 (by decide) ?_
    exact w_iret rfl (Nat.le_of_ble_eq_true rfl) (Nat.le_of_ble_eq_true rfl) dL_word_18 (hr ((0, kbX x1.2 97 0 x1.1.toInt64)) (kbG_some h))
  · obtain ⟨z, e, _⟩ := e; cases e
def f_L_door (n : Nat) (a1 : Int32) (a2 : Int32) (μ : kbM) : Option (Int32 × kbM) :=
  kbOr (f_KB_door n a1 a2 μ) (fun r2 =>
    kbIf (r2.1 == true) <|
    some ((1, r2.2))) fun x1 =>
  some ((0, kbX x1.2 97 0 x1.1.toInt64))
theorem sp_L_door {l : Launch} (hl : l.stackTraces = false) (n : Nat) (a1 : Int32) (a2 : Int32) (μ : kbM) {x : Int32 × kbM} (h : f_L_door n a1 a2 μ = some x) : kbSW l ML_door [(0, 10, 13, 18)] 8 2 [.ref 0, .int a1, .int a2, .ref 97] μ (kbQe (some (.int x.1)) x.2) := by
  refine kb_enterW 1 rfl rfl ?_
  suffices H : ∀ (Q : kbQt) (P : Int32 × kbM → Prop), (∀ z : Int32 × kbM, P z → Q (some (.int z.1)) z.2) → kbG (f_L_door n a1 a2 μ) P → kbY l ML_door [⟨0, 10, 13, 18⟩] (kbRmX 8 2) 0 0 (kbFm 2 Q) 0 [some (.ref 0), some (.int a1), some (.int a2), some (.ref 97), none] [] μ from H _ (fun z => z = x) (fun z e => by subst e; exact ⟨rfl, rfl⟩) ⟨x, h, rfl⟩
  clear h
  intro Q P hr h
  unfold f_L_door at h
  refine y_aload_n dL_door_0 rfl ?_
  refine y_iconst 0 dL_door_1 (by decide) ?_
  refine y_aload_n dL_door_2 rfl ?_
  refine y_iload_n dL_door_3 rfl ?_
  refine y_iload_n dL_door_4 rfl ?_
  rcases kbG_or h with ⟨r2, hx0, h⟩ | ⟨x1, hx0, h⟩
  · obtain ⟨b, ν⟩ := r2
    obtain ⟨hb, h⟩ := kbG_if h
    cases b with
    | true =>
      refine y_invVX cvL_24 sh0 rfl (sp_KB_door hl n a1 a2 μ hx0) rfl rfl (Nat.le_of_ble_eq_true rfl) ⟨(Nat.le_of_ble_eq_true rfl), (Nat.le_of_ble_eq_true rfl), (Nat.le_of_ble_eq_true rfl), (Nat.le_of_ble_eq_true rfl)⟩ dL_door_5 (fun r μ' e => ?_) (fun X μ' e => ?_)
      · obtain ⟨z, e, _⟩ := e; cases e
      · obtain ⟨z, e, rfl, rfl⟩ := e; cases e
        refine y_catch1 (Or.inl ⟨dL_door_13, rfl⟩) (Nat.le_of_ble_eq_true rfl) rfl rfl (by decide) clN caN ?_
        refine y_iconst 1 dL_door_15 (by decide) ?_
        exact w_iret rfl (Nat.le_of_ble_eq_true rfl) (Nat.le_of_ble_eq_true rfl) dL_door_16 (hr ((1, ν)) (kbG_some h))
    | false =>
      cases hb
  refine y_invVX cvL_24 sh0 rfl (sp_KB_door hl n a1 a2 μ hx0) rfl rfl (Nat.le_of_ble_eq_true rfl) ⟨(Nat.le_of_ble_eq_true rfl), (Nat.le_of_ble_eq_true rfl), (Nat.le_of_ble_eq_true rfl), (Nat.le_of_ble_eq_true rfl)⟩ dL_door_5 (fun r μ' e => ?_) (fun X μ' e => ?_)
  · obtain ⟨z, e, rfl, rfl⟩ := e; cases e
    refine y_i2l dL_door_8 ?_
    have hin : vp_in 0 1 := kbIn_of (by decide)
    refine yq_last 0 (by decide) sh97 hin dL_door_9 ?_
    refine y_goto 17 dL_door_10 (by decide) ?_
    refine y_iconst 0 dL_door_17 (by decide) ?_
    exact w_iret rfl (Nat.le_of_ble_eq_true rfl) (Nat.le_of_ble_eq_true rfl) dL_door_18 (hr ((0, kbX x1.2 97 0 x1.1.toInt64)) (kbG_some h))
  · obtain ⟨z, e, _⟩ := e; cases e
def f_L_hears (n : Nat) (a1 : Int32) (a2 : Int32) (μ : kbM) : Option (Int32 × kbM) :=
  kbOr (f_KB_hears n a1 a2 μ) (fun r2 =>
    if r2.1 = true then
      some ((1, r2.2))
    else
      some ((2, r2.2))) fun x1 =>
  some ((0, kbX x1.2 97 0 x1.1.toInt64))
theorem sp_L_hears {l : Launch} (hl : l.stackTraces = false) (n : Nat) (a1 : Int32) (a2 : Int32) (μ : kbM) {x : Int32 × kbM} (h : f_L_hears n a1 a2 μ = some x) : kbSW l ML_hears [(0, 10, 13, 18), (0, 10, 17, 13)] 8 2 [.ref 0, .int a1, .int a2, .ref 97] μ (kbQe (some (.int x.1)) x.2) := by
  refine kb_enterW 1 rfl rfl ?_
  suffices H : ∀ (Q : kbQt) (P : Int32 × kbM → Prop), (∀ z : Int32 × kbM, P z → Q (some (.int z.1)) z.2) → kbG (f_L_hears n a1 a2 μ) P → kbY l ML_hears [⟨0, 10, 13, 18⟩, ⟨0, 10, 17, 13⟩] (kbRmX 8 2) 0 0 (kbFm 2 Q) 0 [some (.ref 0), some (.int a1), some (.int a2), some (.ref 97), none] [] μ from H _ (fun z => z = x) (fun z e => by subst e; exact ⟨rfl, rfl⟩) ⟨x, h, rfl⟩
  clear h
  intro Q P hr h
  unfold f_L_hears at h
  refine y_aload_n dL_hears_0 rfl ?_
  refine y_iconst 0 dL_hears_1 (by decide) ?_
  refine y_aload_n dL_hears_2 rfl ?_
  refine y_iload_n dL_hears_3 rfl ?_
  refine y_iload_n dL_hears_4 rfl ?_
  rcases kbG_or h with ⟨r2, hx0, h⟩ | ⟨x1, hx0, h⟩
  · obtain ⟨b, ν⟩ := r2
    cases b with
    | true =>
      replace h := kbG_t rfl h
      refine y_invVX cvL_27 sh0 rfl (sp_KB_hears hl n a1 a2 μ hx0) rfl rfl (Nat.le_of_ble_eq_true rfl) ⟨(Nat.le_of_ble_eq_true rfl), (Nat.le_of_ble_eq_true rfl), (Nat.le_of_ble_eq_true rfl), (Nat.le_of_ble_eq_true rfl)⟩ dL_hears_5 (fun r μ' e => ?_) (fun X μ' e => ?_)
      · obtain ⟨z, e, _⟩ := e; cases e
      · obtain ⟨z, e, rfl, rfl⟩ := e; cases e
        refine y_catch1 (Or.inl ⟨dL_hears_13, rfl⟩) (Nat.le_of_ble_eq_true rfl) rfl rfl (by decide) clN caN ?_
        refine y_iconst 1 dL_hears_15 (by decide) ?_
        exact w_iret rfl (Nat.le_of_ble_eq_true rfl) (Nat.le_of_ble_eq_true rfl) dL_hears_16 (hr ((1, ν)) (kbG_some h))
    | false =>
      replace h := kbG_f Bool.false_ne_true h
      refine y_invVX cvL_27 sh0 rfl (sp_KB_hears hl n a1 a2 μ hx0) rfl rfl (Nat.le_of_ble_eq_true rfl) ⟨(Nat.le_of_ble_eq_true rfl), (Nat.le_of_ble_eq_true rfl), (Nat.le_of_ble_eq_true rfl), (Nat.le_of_ble_eq_true rfl)⟩ dL_hears_5 (fun r μ' e => ?_) (fun X μ' e => ?_)
      · obtain ⟨z, e, _⟩ := e; cases e
      · obtain ⟨z, e, rfl, rfl⟩ := e; cases e
        refine y_catch2 (Or.inl ⟨dL_hears_17, rfl⟩) (Nat.le_of_ble_eq_true rfl) rfl rfl (by decide) clN cnI rfl (by decide) clI caI ?_
        refine y_iconst 2 dL_hears_19 (by decide) ?_
        exact w_iret rfl (Nat.le_of_ble_eq_true rfl) (Nat.le_of_ble_eq_true rfl) dL_hears_20 (hr ((2, ν)) (kbG_some h))
  refine y_invVX cvL_27 sh0 rfl (sp_KB_hears hl n a1 a2 μ hx0) rfl rfl (Nat.le_of_ble_eq_true rfl) ⟨(Nat.le_of_ble_eq_true rfl), (Nat.le_of_ble_eq_true rfl), (Nat.le_of_ble_eq_true rfl), (Nat.le_of_ble_eq_true rfl)⟩ dL_hears_5 (fun r μ' e => ?_) (fun X μ' e => ?_)
  · obtain ⟨z, e, rfl, rfl⟩ := e; cases e
    refine y_i2l dL_hears_8 ?_
    have hin : vp_in 0 1 := kbIn_of (by decide)
    refine yq_last 0 (by decide) sh97 hin dL_hears_9 ?_
    refine y_goto 21 dL_hears_10 (by decide) ?_
    refine y_iconst 0 dL_hears_21 (by decide) ?_
    exact w_iret rfl (Nat.le_of_ble_eq_true rfl) (Nat.le_of_ble_eq_true rfl) dL_hears_22 (hr ((0, kbX x1.2 97 0 x1.1.toInt64)) (kbG_some h))
  · obtain ⟨z, e, _⟩ := e; cases e
def f_L_read (n : Nat) (a1 : Int32) (a2 : Int32) (μ : kbM) : Option (Int32 × kbM) :=
  kbOr (f_KB_read n a1 a2 μ) (fun r2 =>
    if r2.1 = true then
      some ((1, r2.2))
    else
      some ((2, r2.2))) fun x1 =>
  some ((0, kbX x1.2 97 0 x1.1))
theorem sp_L_read {l : Launch} (hl : l.stackTraces = false) (n : Nat) (a1 : Int32) (a2 : Int32) (μ : kbM) {x : Int32 × kbM} (h : f_L_read n a1 a2 μ = some x) : kbSW l ML_read [(0, 9, 12, 18), (0, 9, 16, 13)] 8 2 [.ref 0, .int a1, .int a2, .ref 97] μ (kbQe (some (.int x.1)) x.2) := by
  refine kb_enterW 1 rfl rfl ?_
  suffices H : ∀ (Q : kbQt) (P : Int32 × kbM → Prop), (∀ z : Int32 × kbM, P z → Q (some (.int z.1)) z.2) → kbG (f_L_read n a1 a2 μ) P → kbY l ML_read [⟨0, 9, 12, 18⟩, ⟨0, 9, 16, 13⟩] (kbRmX 8 2) 0 0 (kbFm 2 Q) 0 [some (.ref 0), some (.int a1), some (.int a2), some (.ref 97), none] [] μ from H _ (fun z => z = x) (fun z e => by subst e; exact ⟨rfl, rfl⟩) ⟨x, h, rfl⟩
  clear h
  intro Q P hr h
  unfold f_L_read at h
  refine y_aload_n dL_read_0 rfl ?_
  refine y_iconst 0 dL_read_1 (by decide) ?_
  refine y_aload_n dL_read_2 rfl ?_
  refine y_iload_n dL_read_3 rfl ?_
  refine y_iload_n dL_read_4 rfl ?_
  rcases kbG_or h with ⟨r2, hx0, h⟩ | ⟨x1, hx0, h⟩
  · obtain ⟨b, ν⟩ := r2
    cases b with
    | true =>
      replace h := kbG_t rfl h
      refine y_invVX cvL_30 sh0 rfl (sp_KB_read hl n a1 a2 μ hx0) rfl rfl (Nat.le_of_ble_eq_true rfl) ⟨(Nat.le_of_ble_eq_true rfl), (Nat.le_of_ble_eq_true rfl), (Nat.le_of_ble_eq_true rfl), (Nat.le_of_ble_eq_true rfl)⟩ dL_read_5 (fun r μ' e => ?_) (fun X μ' e => ?_)
      · obtain ⟨z, e, _⟩ := e; cases e
      · obtain ⟨z, e, rfl, rfl⟩ := e; cases e
        refine y_catch1 (Or.inl ⟨dL_read_12, rfl⟩) (Nat.le_of_ble_eq_true rfl) rfl rfl (by decide) clN caN ?_
        refine y_iconst 1 dL_read_14 (by decide) ?_
        exact w_iret rfl (Nat.le_of_ble_eq_true rfl) (Nat.le_of_ble_eq_true rfl) dL_read_15 (hr ((1, ν)) (kbG_some h))
    | false =>
      replace h := kbG_f Bool.false_ne_true h
      refine y_invVX cvL_30 sh0 rfl (sp_KB_read hl n a1 a2 μ hx0) rfl rfl (Nat.le_of_ble_eq_true rfl) ⟨(Nat.le_of_ble_eq_true rfl), (Nat.le_of_ble_eq_true rfl), (Nat.le_of_ble_eq_true rfl), (Nat.le_of_ble_eq_true rfl)⟩ dL_read_5 (fun r μ' e => ?_) (fun X μ' e => ?_)
      · obtain ⟨z, e, _⟩ := e; cases e
      · obtain ⟨z, e, rfl, rfl⟩ := e; cases e
        refine y_catch2 (Or.inl ⟨dL_read_16, rfl⟩) (Nat.le_of_ble_eq_true rfl) rfl rfl (by decide) clN cnI rfl (by decide) clI caI ?_
        refine y_iconst 2 dL_read_18 (by decide) ?_
        exact w_iret rfl (Nat.le_of_ble_eq_true rfl) (Nat.le_of_ble_eq_true rfl) dL_read_19 (hr ((2, ν)) (kbG_some h))
  refine y_invVX cvL_30 sh0 rfl (sp_KB_read hl n a1 a2 μ hx0) rfl rfl (Nat.le_of_ble_eq_true rfl) ⟨(Nat.le_of_ble_eq_true rfl), (Nat.le_of_ble_eq_true rfl), (Nat.le_of_ble_eq_true rfl), (Nat.le_of_ble_eq_true rfl)⟩ dL_read_5 (fun r μ' e => ?_) (fun X μ' e => ?_)
  · obtain ⟨z, e, rfl, rfl⟩ := e; cases e
    have hin : vp_in 0 1 := kbIn_of (by decide)
    refine yq_last 0 (by decide) sh97 hin dL_read_8 ?_
    refine y_goto 20 dL_read_9 (by decide) ?_
    refine y_iconst 0 dL_read_20 (by decide) ?_
    exact w_iret rfl (Nat.le_of_ble_eq_true rfl) (Nat.le_of_ble_eq_true rfl) dL_read_21 (hr ((0, kbX x1.2 97 0 x1.1)) (kbG_some h))
  · obtain ⟨z, e, _⟩ := e; cases e
def f_L_reading (n : Nat) (a1 : Int32) (a2 : Int32) (μ : kbM) : Option (Int32 × kbM) :=
  kbOr (f_KB_reading n a1 a2 μ) (fun r2 =>
    if r2.1 = true then
      some ((2, r2.2))
    else
      some ((1, r2.2))) fun x1 =>
  some ((0, kbX x1.2 97 0 x1.1.toInt64))
theorem sp_L_reading {l : Launch} (hl : l.stackTraces = false) (n : Nat) (a1 : Int32) (a2 : Int32) (μ : kbM) {x : Int32 × kbM} (h : f_L_reading n a1 a2 μ = some x) : kbSW l ML_reading [(0, 10, 13, 13), (0, 10, 17, 18)] 8 2 [.ref 0, .int a1, .int a2, .ref 97] μ (kbQe (some (.int x.1)) x.2) := by
  refine kb_enterW 1 rfl rfl ?_
  suffices H : ∀ (Q : kbQt) (P : Int32 × kbM → Prop), (∀ z : Int32 × kbM, P z → Q (some (.int z.1)) z.2) → kbG (f_L_reading n a1 a2 μ) P → kbY l ML_reading [⟨0, 10, 13, 13⟩, ⟨0, 10, 17, 18⟩] (kbRmX 8 2) 0 0 (kbFm 2 Q) 0 [some (.ref 0), some (.int a1), some (.int a2), some (.ref 97), none] [] μ from H _ (fun z => z = x) (fun z e => by subst e; exact ⟨rfl, rfl⟩) ⟨x, h, rfl⟩
  clear h
  intro Q P hr h
  unfold f_L_reading at h
  refine y_aload_n dL_reading_0 rfl ?_
  refine y_iconst 0 dL_reading_1 (by decide) ?_
  refine y_aload_n dL_reading_2 rfl ?_
  refine y_iload_n dL_reading_3 rfl ?_
  refine y_iload_n dL_reading_4 rfl ?_
  rcases kbG_or h with ⟨r2, hx0, h⟩ | ⟨x1, hx0, h⟩
  · obtain ⟨b, ν⟩ := r2
    cases b with
    | true =>
      replace h := kbG_t rfl h
      refine y_invVX cvL_34 sh0 rfl (sp_KB_reading hl n a1 a2 μ hx0) rfl rfl (Nat.le_of_ble_eq_true rfl) ⟨(Nat.le_of_ble_eq_true rfl), (Nat.le_of_ble_eq_true rfl), (Nat.le_of_ble_eq_true rfl), (Nat.le_of_ble_eq_true rfl)⟩ dL_reading_5 (fun r μ' e => ?_) (fun X μ' e => ?_)
      · obtain ⟨z, e, _⟩ := e; cases e
      · obtain ⟨z, e, rfl, rfl⟩ := e; cases e
        refine y_catch2 (Or.inl ⟨dL_reading_17, rfl⟩) (Nat.le_of_ble_eq_true rfl) rfl rfl (by decide) clI cnN rfl (by decide) clN caN ?_
        refine y_iconst 2 dL_reading_19 (by decide) ?_
        exact w_iret rfl (Nat.le_of_ble_eq_true rfl) (Nat.le_of_ble_eq_true rfl) dL_reading_20 (hr ((2, ν)) (kbG_some h))
    | false =>
      replace h := kbG_f Bool.false_ne_true h
      refine y_invVX cvL_34 sh0 rfl (sp_KB_reading hl n a1 a2 μ hx0) rfl rfl (Nat.le_of_ble_eq_true rfl) ⟨(Nat.le_of_ble_eq_true rfl), (Nat.le_of_ble_eq_true rfl), (Nat.le_of_ble_eq_true rfl), (Nat.le_of_ble_eq_true rfl)⟩ dL_reading_5 (fun r μ' e => ?_) (fun X μ' e => ?_)
      · obtain ⟨z, e, _⟩ := e; cases e
      · obtain ⟨z, e, rfl, rfl⟩ := e; cases e
        refine y_catch1 (Or.inl ⟨dL_reading_13, rfl⟩) (Nat.le_of_ble_eq_true rfl) rfl rfl (by decide) clI caI ?_
        refine y_iconst 1 dL_reading_15 (by decide) ?_
        exact w_iret rfl (Nat.le_of_ble_eq_true rfl) (Nat.le_of_ble_eq_true rfl) dL_reading_16 (hr ((1, ν)) (kbG_some h))
  refine y_invVX cvL_34 sh0 rfl (sp_KB_reading hl n a1 a2 μ hx0) rfl rfl (Nat.le_of_ble_eq_true rfl) ⟨(Nat.le_of_ble_eq_true rfl), (Nat.le_of_ble_eq_true rfl), (Nat.le_of_ble_eq_true rfl), (Nat.le_of_ble_eq_true rfl)⟩ dL_reading_5 (fun r μ' e => ?_) (fun X μ' e => ?_)
  · obtain ⟨z, e, rfl, rfl⟩ := e; cases e
    refine y_i2l dL_reading_8 ?_
    have hin : vp_in 0 1 := kbIn_of (by decide)
    refine yq_last 0 (by decide) sh97 hin dL_reading_9 ?_
    refine y_goto 21 dL_reading_10 (by decide) ?_
    refine y_iconst 0 dL_reading_21 (by decide) ?_
    exact w_iret rfl (Nat.le_of_ble_eq_true rfl) (Nat.le_of_ble_eq_true rfl) dL_reading_22 (hr ((0, kbX x1.2 97 0 x1.1.toInt64)) (kbG_some h))
  · obtain ⟨z, e, _⟩ := e; cases e
def f_L_apart (n : Nat) (a1 : Int32) (a2 : Int32) (μ : kbM) : Option (Int32 × kbM) :=
  kbOr (f_KB_apart n a1 a2 μ) (fun r2 =>
    kbIf (r2.1 == false) <|
    some ((1, r2.2))) fun x1 =>
  some ((0, kbX x1.2 97 0 x1.1.toInt64))
theorem sp_L_apart {l : Launch} (hl : l.stackTraces = false) (n : Nat) (a1 : Int32) (a2 : Int32) (μ : kbM) {x : Int32 × kbM} (h : f_L_apart n a1 a2 μ = some x) : kbSW l ML_apart [(0, 10, 13, 13)] 8 2 [.ref 0, .int a1, .int a2, .ref 97] μ (kbQe (some (.int x.1)) x.2) := by
  refine kb_enterW 1 rfl rfl ?_
  suffices H : ∀ (Q : kbQt) (P : Int32 × kbM → Prop), (∀ z : Int32 × kbM, P z → Q (some (.int z.1)) z.2) → kbG (f_L_apart n a1 a2 μ) P → kbY l ML_apart [⟨0, 10, 13, 13⟩] (kbRmX 8 2) 0 0 (kbFm 2 Q) 0 [some (.ref 0), some (.int a1), some (.int a2), some (.ref 97), none] [] μ from H _ (fun z => z = x) (fun z e => by subst e; exact ⟨rfl, rfl⟩) ⟨x, h, rfl⟩
  clear h
  intro Q P hr h
  unfold f_L_apart at h
  refine y_aload_n dL_apart_0 rfl ?_
  refine y_iconst 0 dL_apart_1 (by decide) ?_
  refine y_aload_n dL_apart_2 rfl ?_
  refine y_iload_n dL_apart_3 rfl ?_
  refine y_iload_n dL_apart_4 rfl ?_
  rcases kbG_or h with ⟨r2, hx0, h⟩ | ⟨x1, hx0, h⟩
  · obtain ⟨b, ν⟩ := r2
    obtain ⟨hb, h⟩ := kbG_if h
    cases b with
    | true =>
      cases hb
    | false =>
      refine y_invVX cvL_37 sh0 rfl (sp_KB_apart hl n a1 a2 μ hx0) rfl rfl (Nat.le_of_ble_eq_true rfl) ⟨(Nat.le_of_ble_eq_true rfl), (Nat.le_of_ble_eq_true rfl), (Nat.le_of_ble_eq_true rfl), (Nat.le_of_ble_eq_true rfl)⟩ dL_apart_5 (fun r μ' e => ?_) (fun X μ' e => ?_)
      · obtain ⟨z, e, _⟩ := e; cases e
      · obtain ⟨z, e, rfl, rfl⟩ := e; cases e
        refine y_catch1 (Or.inl ⟨dL_apart_13, rfl⟩) (Nat.le_of_ble_eq_true rfl) rfl rfl (by decide) clI caI ?_
        refine y_iconst 1 dL_apart_15 (by decide) ?_
        exact w_iret rfl (Nat.le_of_ble_eq_true rfl) (Nat.le_of_ble_eq_true rfl) dL_apart_16 (hr ((1, ν)) (kbG_some h))
  refine y_invVX cvL_37 sh0 rfl (sp_KB_apart hl n a1 a2 μ hx0) rfl rfl (Nat.le_of_ble_eq_true rfl) ⟨(Nat.le_of_ble_eq_true rfl), (Nat.le_of_ble_eq_true rfl), (Nat.le_of_ble_eq_true rfl), (Nat.le_of_ble_eq_true rfl)⟩ dL_apart_5 (fun r μ' e => ?_) (fun X μ' e => ?_)
  · obtain ⟨z, e, rfl, rfl⟩ := e; cases e
    refine y_i2l dL_apart_8 ?_
    have hin : vp_in 0 1 := kbIn_of (by decide)
    refine yq_last 0 (by decide) sh97 hin dL_apart_9 ?_
    refine y_goto 17 dL_apart_10 (by decide) ?_
    refine y_iconst 0 dL_apart_17 (by decide) ?_
    exact w_iret rfl (Nat.le_of_ble_eq_true rfl) (Nat.le_of_ble_eq_true rfl) dL_apart_18 (hr ((0, kbX x1.2 97 0 x1.1.toInt64)) (kbG_some h))
  · obtain ⟨z, e, _⟩ := e; cases e
def f_L_nearest (n : Nat) (a1 : Int32) (a2 : Int32) (μ : kbM) : Option (Int32 × kbM) :=
  kbOr (f_KB_nearest n a1 a2 μ) (fun r2 =>
    if r2.1 = true then
      some ((1, r2.2))
    else
      some ((2, r2.2))) fun x1 =>
  some ((0, kbX x1.2 97 0 x1.1.toInt64))
theorem sp_L_nearest {l : Launch} (hl : l.stackTraces = false) (n : Nat) (a1 : Int32) (a2 : Int32) (μ : kbM) {x : Int32 × kbM} (h : f_L_nearest n a1 a2 μ = some x) : kbSW l ML_nearest [(0, 10, 13, 18), (0, 10, 17, 13)] 8 2 [.ref 0, .int a1, .int a2, .ref 97] μ (kbQe (some (.int x.1)) x.2) := by
  refine kb_enterW 1 rfl rfl ?_
  suffices H : ∀ (Q : kbQt) (P : Int32 × kbM → Prop), (∀ z : Int32 × kbM, P z → Q (some (.int z.1)) z.2) → kbG (f_L_nearest n a1 a2 μ) P → kbY l ML_nearest [⟨0, 10, 13, 18⟩, ⟨0, 10, 17, 13⟩] (kbRmX 8 2) 0 0 (kbFm 2 Q) 0 [some (.ref 0), some (.int a1), some (.int a2), some (.ref 97), none] [] μ from H _ (fun z => z = x) (fun z e => by subst e; exact ⟨rfl, rfl⟩) ⟨x, h, rfl⟩
  clear h
  intro Q P hr h
  unfold f_L_nearest at h
  refine y_aload_n dL_nearest_0 rfl ?_
  refine y_iconst 0 dL_nearest_1 (by decide) ?_
  refine y_aload_n dL_nearest_2 rfl ?_
  refine y_iload_n dL_nearest_3 rfl ?_
  refine y_iload_n dL_nearest_4 rfl ?_
  rcases kbG_or h with ⟨r2, hx0, h⟩ | ⟨x1, hx0, h⟩
  · obtain ⟨b, ν⟩ := r2
    cases b with
    | true =>
      replace h := kbG_t rfl h
      refine y_invVX cvL_40 sh0 rfl (sp_KB_nearest hl n a1 a2 μ hx0) rfl rfl (Nat.le_of_ble_eq_true rfl) ⟨(Nat.le_of_ble_eq_true rfl), (Nat.le_of_ble_eq_true rfl), (Nat.le_of_ble_eq_true rfl), (Nat.le_of_ble_eq_true rfl)⟩ dL_nearest_5 (fun r μ' e => ?_) (fun X μ' e => ?_)
      · obtain ⟨z, e, _⟩ := e; cases e
      · obtain ⟨z, e, rfl, rfl⟩ := e; cases e
        refine y_catch1 (Or.inl ⟨dL_nearest_13, rfl⟩) (Nat.le_of_ble_eq_true rfl) rfl rfl (by decide) clN caN ?_
        refine y_iconst 1 dL_nearest_15 (by decide) ?_
        exact w_iret rfl (Nat.le_of_ble_eq_true rfl) (Nat.le_of_ble_eq_true rfl) dL_nearest_16 (hr ((1, ν)) (kbG_some h))
    | false =>
      replace h := kbG_f Bool.false_ne_true h
      refine y_invVX cvL_40 sh0 rfl (sp_KB_nearest hl n a1 a2 μ hx0) rfl rfl (Nat.le_of_ble_eq_true rfl) ⟨(Nat.le_of_ble_eq_true rfl), (Nat.le_of_ble_eq_true rfl), (Nat.le_of_ble_eq_true rfl), (Nat.le_of_ble_eq_true rfl)⟩ dL_nearest_5 (fun r μ' e => ?_) (fun X μ' e => ?_)
      · obtain ⟨z, e, _⟩ := e; cases e
      · obtain ⟨z, e, rfl, rfl⟩ := e; cases e
        refine y_catch2 (Or.inl ⟨dL_nearest_17, rfl⟩) (Nat.le_of_ble_eq_true rfl) rfl rfl (by decide) clN cnI rfl (by decide) clI caI ?_
        refine y_iconst 2 dL_nearest_19 (by decide) ?_
        exact w_iret rfl (Nat.le_of_ble_eq_true rfl) (Nat.le_of_ble_eq_true rfl) dL_nearest_20 (hr ((2, ν)) (kbG_some h))
  refine y_invVX cvL_40 sh0 rfl (sp_KB_nearest hl n a1 a2 μ hx0) rfl rfl (Nat.le_of_ble_eq_true rfl) ⟨(Nat.le_of_ble_eq_true rfl), (Nat.le_of_ble_eq_true rfl), (Nat.le_of_ble_eq_true rfl), (Nat.le_of_ble_eq_true rfl)⟩ dL_nearest_5 (fun r μ' e => ?_) (fun X μ' e => ?_)
  · obtain ⟨z, e, rfl, rfl⟩ := e; cases e
    refine y_i2l dL_nearest_8 ?_
    have hin : vp_in 0 1 := kbIn_of (by decide)
    refine yq_last 0 (by decide) sh97 hin dL_nearest_9 ?_
    refine y_goto 21 dL_nearest_10 (by decide) ?_
    refine y_iconst 0 dL_nearest_21 (by decide) ?_
    exact w_iret rfl (Nat.le_of_ble_eq_true rfl) (Nat.le_of_ble_eq_true rfl) dL_nearest_22 (hr ((0, kbX x1.2 97 0 x1.1.toInt64)) (kbG_some h))
  · obtain ⟨z, e, _⟩ := e; cases e
def f_L_die (n : Nat) (a1 : Int32) (μ : kbM) : Option (Int32 × kbM) :=
  kbOr (f_KB_die n a1 μ) (fun r2 =>
    kbIf (r2.1 == true) <|
    some ((1, r2.2))) fun x1 =>
  some ((0, kbX x1.2 97 0 x1.1.toInt64))
theorem sp_L_die {l : Launch} (hl : l.stackTraces = false) (n : Nat) (a1 : Int32) (μ : kbM) {x : Int32 × kbM} (h : f_L_die n a1 μ = some x) : kbSW l ML_die [(0, 9, 12, 18)] 8 1 [.ref 0, .int a1, .ref 97] μ (kbQe (some (.int x.1)) x.2) := by
  refine kb_enterW 1 rfl rfl ?_
  suffices H : ∀ (Q : kbQt) (P : Int32 × kbM → Prop), (∀ z : Int32 × kbM, P z → Q (some (.int z.1)) z.2) → kbG (f_L_die n a1 μ) P → kbY l ML_die [⟨0, 9, 12, 18⟩] (kbRmX 8 1) 0 0 (kbFm 1 Q) 0 [some (.ref 0), some (.int a1), some (.ref 97), none] [] μ from H _ (fun z => z = x) (fun z e => by subst e; exact ⟨rfl, rfl⟩) ⟨x, h, rfl⟩
  clear h
  intro Q P hr h
  unfold f_L_die at h
  refine y_aload_n dL_die_0 rfl ?_
  refine y_iconst 0 dL_die_1 (by decide) ?_
  refine y_aload_n dL_die_2 rfl ?_
  refine y_iload_n dL_die_3 rfl ?_
  rcases kbG_or h with ⟨r2, hx0, h⟩ | ⟨x1, hx0, h⟩
  · obtain ⟨b, ν⟩ := r2
    obtain ⟨hb, h⟩ := kbG_if h
    cases b with
    | true =>
      refine y_invVX cvL_43 sh0 rfl (sp_KB_die hl n a1 μ hx0) rfl rfl (Nat.le_of_ble_eq_true rfl) ⟨(Nat.le_of_ble_eq_true rfl), (Nat.le_of_ble_eq_true rfl), (Nat.le_of_ble_eq_true rfl), (Nat.le_of_ble_eq_true rfl)⟩ dL_die_4 (fun r μ' e => ?_) (fun X μ' e => ?_)
      · obtain ⟨z, e, _⟩ := e; cases e
      · obtain ⟨z, e, rfl, rfl⟩ := e; cases e
        refine y_catch1 (Or.inr ⟨_, dL_die_12, rfl, rfl⟩) (Nat.le_of_ble_eq_true rfl) rfl rfl (by decide) clN caN ?_
        refine y_iconst 1 dL_die_13 (by decide) ?_
        exact w_iret rfl (Nat.le_of_ble_eq_true rfl) (Nat.le_of_ble_eq_true rfl) dL_die_14 (hr ((1, ν)) (kbG_some h))
    | false =>
      cases hb
  refine y_invVX cvL_43 sh0 rfl (sp_KB_die hl n a1 μ hx0) rfl rfl (Nat.le_of_ble_eq_true rfl) ⟨(Nat.le_of_ble_eq_true rfl), (Nat.le_of_ble_eq_true rfl), (Nat.le_of_ble_eq_true rfl), (Nat.le_of_ble_eq_true rfl)⟩ dL_die_4 (fun r μ' e => ?_) (fun X μ' e => ?_)
  · obtain ⟨z, e, rfl, rfl⟩ := e; cases e
    refine y_i2l dL_die_7 ?_
    have hin : vp_in 0 1 := kbIn_of (by decide)
    refine yq_last 0 (by decide) sh97 hin dL_die_8 ?_
    refine y_goto 15 dL_die_9 (by decide) ?_
    refine y_iconst 0 dL_die_15 (by decide) ?_
    exact w_iret rfl (Nat.le_of_ble_eq_true rfl) (Nat.le_of_ble_eq_true rfl) dL_die_16 (hr ((0, kbX x1.2 97 0 x1.1.toInt64)) (kbG_some h))
  · obtain ⟨z, e, _⟩ := e; cases e
def f_L_worth (n : Nat) (a1 : Int32) (a2 : Int32) (μ : kbM) : Option (Int32 × kbM) :=
  kbOr (f_KB_worth n a1 a2 μ) (fun r2 =>
    kbIf (r2.1 == true) <|
    some ((1, r2.2))) fun x1 =>
  some ((0, kbX x1.2 97 0 x1.1.toInt64))
theorem sp_L_worth {l : Launch} (hl : l.stackTraces = false) (n : Nat) (a1 : Int32) (a2 : Int32) (μ : kbM) {x : Int32 × kbM} (h : f_L_worth n a1 a2 μ = some x) : kbSW l ML_worth [(0, 10, 13, 18)] 8 1 [.ref 0, .int a1, .int a2, .ref 97] μ (kbQe (some (.int x.1)) x.2) := by
  refine kb_enterW 1 rfl rfl ?_
  suffices H : ∀ (Q : kbQt) (P : Int32 × kbM → Prop), (∀ z : Int32 × kbM, P z → Q (some (.int z.1)) z.2) → kbG (f_L_worth n a1 a2 μ) P → kbY l ML_worth [⟨0, 10, 13, 18⟩] (kbRmX 8 1) 0 0 (kbFm 1 Q) 0 [some (.ref 0), some (.int a1), some (.int a2), some (.ref 97), none] [] μ from H _ (fun z => z = x) (fun z e => by subst e; exact ⟨rfl, rfl⟩) ⟨x, h, rfl⟩
  clear h
  intro Q P hr h
  unfold f_L_worth at h
  refine y_aload_n dL_worth_0 rfl ?_
  refine y_iconst 0 dL_worth_1 (by decide) ?_
  refine y_aload_n dL_worth_2 rfl ?_
  refine y_iload_n dL_worth_3 rfl ?_
  refine y_iload_n dL_worth_4 rfl ?_
  rcases kbG_or h with ⟨r2, hx0, h⟩ | ⟨x1, hx0, h⟩
  · obtain ⟨b, ν⟩ := r2
    obtain ⟨hb, h⟩ := kbG_if h
    cases b with
    | true =>
      refine y_invVX cvL_46 sh0 rfl (sp_KB_worth hl n a1 a2 μ hx0) rfl rfl (Nat.le_of_ble_eq_true rfl) ⟨(Nat.le_of_ble_eq_true rfl), (Nat.le_of_ble_eq_true rfl), (Nat.le_of_ble_eq_true rfl), (Nat.le_of_ble_eq_true rfl)⟩ dL_worth_5 (fun r μ' e => ?_) (fun X μ' e => ?_)
      · obtain ⟨z, e, _⟩ := e; cases e
      · obtain ⟨z, e, rfl, rfl⟩ := e; cases e
        refine y_catch1 (Or.inl ⟨dL_worth_13, rfl⟩) (Nat.le_of_ble_eq_true rfl) rfl rfl (by decide) clN caN ?_
        refine y_iconst 1 dL_worth_15 (by decide) ?_
        exact w_iret rfl (Nat.le_of_ble_eq_true rfl) (Nat.le_of_ble_eq_true rfl) dL_worth_16 (hr ((1, ν)) (kbG_some h))
    | false =>
      cases hb
  refine y_invVX cvL_46 sh0 rfl (sp_KB_worth hl n a1 a2 μ hx0) rfl rfl (Nat.le_of_ble_eq_true rfl) ⟨(Nat.le_of_ble_eq_true rfl), (Nat.le_of_ble_eq_true rfl), (Nat.le_of_ble_eq_true rfl), (Nat.le_of_ble_eq_true rfl)⟩ dL_worth_5 (fun r μ' e => ?_) (fun X μ' e => ?_)
  · obtain ⟨z, e, rfl, rfl⟩ := e; cases e
    refine y_i2l dL_worth_8 ?_
    have hin : vp_in 0 1 := kbIn_of (by decide)
    refine yq_last 0 (by decide) sh97 hin dL_worth_9 ?_
    refine y_goto 17 dL_worth_10 (by decide) ?_
    refine y_iconst 0 dL_worth_17 (by decide) ?_
    exact w_iret rfl (Nat.le_of_ble_eq_true rfl) (Nat.le_of_ble_eq_true rfl) dL_worth_18 (hr ((0, kbX x1.2 97 0 x1.1.toInt64)) (kbG_some h))
  · obtain ⟨z, e, _⟩ := e; cases e
def f_L_part (n : Nat) (a1 : Int32) (a2 : Int32) (μ : kbM) : Option (Int32 × kbM) :=
  kbOr (f_KB_part n a1 a2 μ) (fun r2 =>
    kbIf (r2.1 == true) <|
    some ((1, r2.2))) fun x1 =>
  some ((0, kbX x1.2 97 0 x1.1.toInt64))
theorem sp_L_part {l : Launch} (hl : l.stackTraces = false) (n : Nat) (a1 : Int32) (a2 : Int32) (μ : kbM) {x : Int32 × kbM} (h : f_L_part n a1 a2 μ = some x) : kbSW l ML_part [(0, 10, 13, 18)] 8 1 [.ref 0, .int a1, .int a2, .ref 97] μ (kbQe (some (.int x.1)) x.2) := by
  refine kb_enterW 1 rfl rfl ?_
  suffices H : ∀ (Q : kbQt) (P : Int32 × kbM → Prop), (∀ z : Int32 × kbM, P z → Q (some (.int z.1)) z.2) → kbG (f_L_part n a1 a2 μ) P → kbY l ML_part [⟨0, 10, 13, 18⟩] (kbRmX 8 1) 0 0 (kbFm 1 Q) 0 [some (.ref 0), some (.int a1), some (.int a2), some (.ref 97), none] [] μ from H _ (fun z => z = x) (fun z e => by subst e; exact ⟨rfl, rfl⟩) ⟨x, h, rfl⟩
  clear h
  intro Q P hr h
  unfold f_L_part at h
  refine y_aload_n dL_part_0 rfl ?_
  refine y_iconst 0 dL_part_1 (by decide) ?_
  refine y_aload_n dL_part_2 rfl ?_
  refine y_iload_n dL_part_3 rfl ?_
  refine y_iload_n dL_part_4 rfl ?_
  rcases kbG_or h with ⟨r2, hx0, h⟩ | ⟨x1, hx0, h⟩
  · obtain ⟨b, ν⟩ := r2
    obtain ⟨hb, h⟩ := kbG_if h
    cases b with
    | true =>
      refine y_invVX cvL_49 sh0 rfl (sp_KB_part hl n a1 a2 μ hx0) rfl rfl (Nat.le_of_ble_eq_true rfl) ⟨(Nat.le_of_ble_eq_true rfl), (Nat.le_of_ble_eq_true rfl), (Nat.le_of_ble_eq_true rfl), (Nat.le_of_ble_eq_true rfl)⟩ dL_part_5 (fun r μ' e => ?_) (fun X μ' e => ?_)
      · obtain ⟨z, e, _⟩ := e; cases e
      · obtain ⟨z, e, rfl, rfl⟩ := e; cases e
        refine y_catch1 (Or.inl ⟨dL_part_13, rfl⟩) (Nat.le_of_ble_eq_true rfl) rfl rfl (by decide) clN caN ?_
        refine y_iconst 1 dL_part_15 (by decide) ?_
        exact w_iret rfl (Nat.le_of_ble_eq_true rfl) (Nat.le_of_ble_eq_true rfl) dL_part_16 (hr ((1, ν)) (kbG_some h))
    | false =>
      cases hb
  refine y_invVX cvL_49 sh0 rfl (sp_KB_part hl n a1 a2 μ hx0) rfl rfl (Nat.le_of_ble_eq_true rfl) ⟨(Nat.le_of_ble_eq_true rfl), (Nat.le_of_ble_eq_true rfl), (Nat.le_of_ble_eq_true rfl), (Nat.le_of_ble_eq_true rfl)⟩ dL_part_5 (fun r μ' e => ?_) (fun X μ' e => ?_)
  · obtain ⟨z, e, rfl, rfl⟩ := e; cases e
    refine y_i2l dL_part_8 ?_
    have hin : vp_in 0 1 := kbIn_of (by decide)
    refine yq_last 0 (by decide) sh97 hin dL_part_9 ?_
    refine y_goto 17 dL_part_10 (by decide) ?_
    refine y_iconst 0 dL_part_17 (by decide) ?_
    exact w_iret rfl (Nat.le_of_ble_eq_true rfl) (Nat.le_of_ble_eq_true rfl) dL_part_18 (hr ((0, kbX x1.2 97 0 x1.1.toInt64)) (kbG_some h))
  · obtain ⟨z, e, _⟩ := e; cases e
def jn_L_rain_16 (n : Nat) (w1 : Int32) (w2 : Int64) (μ : kbM) : Option (Int32 × kbM) :=
  kbIf (kbIn w1 1) <|
  some ((0, kbX μ 97 w1.toNatClampNeg w2))
theorem jnR_L_rain_16 {l : Launch} (hl : l.stackTraces = false) (n : Nat) (w1 : Int32) (w2 : Int64) (μ : kbM) {Q : kbQt} {P : Int32 × kbM → Prop} (hr : ∀ z : Int32 × kbM, P z → Q (some (.int z.1)) z.2) (h : kbG (jn_L_rain_16 n w1 w2 μ) P) : kbY l ML_rain [⟨0, 17, 20, 18⟩] (kbRmX 8 1) 1 6 (kbFm 1 Q) 16 [none, none, none, none, none] [.long w2, .int w1, .ref 97] μ := by
  unfold jn_L_rain_16 at h
  obtain ⟨hin, h⟩ := kbG_if h
  replace hin := kbIn_of hin
  refine yq_last w1.toNatClampNeg rfl sh97 hin dL_rain_16 ?_
  refine y_goto 24 dL_rain_17 (by decide) ?_
  refine y_iconst 0 dL_rain_24 (by decide) ?_
  exact w_iret rfl (Nat.le_of_ble_eq_true rfl) (Nat.le_of_ble_eq_true rfl) dL_rain_25 (hr ((0, kbX μ 97 w1.toNatClampNeg w2)) (kbG_some h))
def f_L_rain (n : Nat) (a1 : Int32) (a2 : Int32) (μ : kbM) : Option (Int32 × kbM) :=
  kbOr (f_KB_rain n a1 a2 μ) (fun r2 =>
    kbIf (r2.1 == true) <|
    some ((1, r2.2))) fun x1 =>
  if x1.1 = 0 then
    jn_L_rain_16 n 0 0 x1.2
  else
    jn_L_rain_16 n 0 1 x1.2
theorem sp_L_rain {l : Launch} (hl : l.stackTraces = false) (n : Nat) (a1 : Int32) (a2 : Int32) (μ : kbM) {x : Int32 × kbM} (h : f_L_rain n a1 a2 μ = some x) : kbSW l ML_rain [(0, 17, 20, 18)] 8 1 [.ref 0, .int a1, .int a2, .ref 97] μ (kbQe (some (.int x.1)) x.2) := by
  refine kb_enterW 1 rfl rfl ?_
  suffices H : ∀ (Q : kbQt) (P : Int32 × kbM → Prop), (∀ z : Int32 × kbM, P z → Q (some (.int z.1)) z.2) → kbG (f_L_rain n a1 a2 μ) P → kbY l ML_rain [⟨0, 17, 20, 18⟩] (kbRmX 8 1) 0 0 (kbFm 1 Q) 0 [some (.ref 0), some (.int a1), some (.int a2), some (.ref 97), none] [] μ from H _ (fun z => z = x) (fun z e => by subst e; exact ⟨rfl, rfl⟩) ⟨x, h, rfl⟩
  clear h
  intro Q P hr h
  unfold f_L_rain at h
  refine y_aload_n dL_rain_0 rfl ?_
  refine y_iconst 0 dL_rain_1 (by decide) ?_
  refine y_aload_n dL_rain_2 rfl ?_
  refine y_iload_n dL_rain_3 rfl ?_
  refine y_iload_n dL_rain_4 rfl ?_
  rcases kbG_or h with ⟨r2, hx0, h⟩ | ⟨x1, hx0, h⟩
  · obtain ⟨b, ν⟩ := r2
    obtain ⟨hb, h⟩ := kbG_if h
    cases b with
    | true =>
      refine y_invVX cvL_52 sh0 rfl (sp_KB_rain hl n a1 a2 μ hx0) rfl rfl (Nat.le_of_ble_eq_true rfl) ⟨(Nat.le_of_ble_eq_true rfl), (Nat.le_of_ble_eq_true rfl), (Nat.le_of_ble_eq_true rfl), (Nat.le_of_ble_eq_true rfl)⟩ dL_rain_5 (fun r μ' e => ?_) (fun X μ' e => ?_)
      · obtain ⟨z, e, _⟩ := e; cases e
      · obtain ⟨z, e, rfl, rfl⟩ := e; cases e
        refine y_catch1 (Or.inl ⟨dL_rain_20, rfl⟩) (Nat.le_of_ble_eq_true rfl) rfl rfl (by decide) clN caN ?_
        refine y_iconst 1 dL_rain_22 (by decide) ?_
        exact w_iret rfl (Nat.le_of_ble_eq_true rfl) (Nat.le_of_ble_eq_true rfl) dL_rain_23 (hr ((1, ν)) (kbG_some h))
    | false =>
      cases hb
  refine y_invVX cvL_52 sh0 rfl (sp_KB_rain hl n a1 a2 μ hx0) rfl rfl (Nat.le_of_ble_eq_true rfl) ⟨(Nat.le_of_ble_eq_true rfl), (Nat.le_of_ble_eq_true rfl), (Nat.le_of_ble_eq_true rfl), (Nat.le_of_ble_eq_true rfl)⟩ dL_rain_5 (fun r μ' e => ?_) (fun X μ' e => ?_)
  · obtain ⟨z, e, rfl, rfl⟩ := e; cases e
    refine y_if_eq 15 dL_rain_8 (by decide) (fun hc => ?_) (fun hc => ?_)
    · replace h := kbG_t hc h
      refine y_lconst 0 dL_rain_15 (by decide) ?_
      refine y_le [none, none, none, none, none] trivial ?_
      exact jnR_L_rain_16 hl n 0 0 x1.2 hr h
    · replace h := kbG_f hc h
      refine y_lconst 1 dL_rain_11 (by decide) ?_
      refine y_goto 16 dL_rain_12 (by decide) ?_
      refine y_le [none, none, none, none, none] trivial ?_
      exact jnR_L_rain_16 hl n 0 1 x1.2 hr h
  · obtain ⟨z, e, _⟩ := e; cases e
def f_L_mend (n : Nat) (a1 : Int32) (μ : kbM) : Option (Int32 × kbM) :=
  kbOr (f_KB_mend n a1 μ) (fun r2 =>
    kbIf (r2.1 == false) <|
    some ((1, r2.2))) fun x1 =>
  some ((0, kbX x1.2 97 0 x1.1.toInt64))
theorem sp_L_mend {l : Launch} (hl : l.stackTraces = false) (n : Nat) (a1 : Int32) (μ : kbM) {x : Int32 × kbM} (h : f_L_mend n a1 μ = some x) : kbSW l ML_mend [(0, 9, 12, 13)] 8 1 [.ref 0, .int a1, .ref 97] μ (kbQe (some (.int x.1)) x.2) := by
  refine kb_enterW 1 rfl rfl ?_
  suffices H : ∀ (Q : kbQt) (P : Int32 × kbM → Prop), (∀ z : Int32 × kbM, P z → Q (some (.int z.1)) z.2) → kbG (f_L_mend n a1 μ) P → kbY l ML_mend [⟨0, 9, 12, 13⟩] (kbRmX 8 1) 0 0 (kbFm 1 Q) 0 [some (.ref 0), some (.int a1), some (.ref 97), none] [] μ from H _ (fun z => z = x) (fun z e => by subst e; exact ⟨rfl, rfl⟩) ⟨x, h, rfl⟩
  clear h
  intro Q P hr h
  unfold f_L_mend at h
  refine y_aload_n dL_mend_0 rfl ?_
  refine y_iconst 0 dL_mend_1 (by decide) ?_
  refine y_aload_n dL_mend_2 rfl ?_
  refine y_iload_n dL_mend_3 rfl ?_
  rcases kbG_or h with ⟨r2, hx0, h⟩ | ⟨x1, hx0, h⟩
  · obtain ⟨b, ν⟩ := r2
    obtain ⟨hb, h⟩ := kbG_if h
    cases b with
    | true =>
      cases hb
    | false =>
      refine y_invVX cvL_56 sh0 rfl (sp_KB_mend hl n a1 μ hx0) rfl rfl (Nat.le_of_ble_eq_true rfl) ⟨(Nat.le_of_ble_eq_true rfl), (Nat.le_of_ble_eq_true rfl), (Nat.le_of_ble_eq_true rfl), (Nat.le_of_ble_eq_true rfl)⟩ dL_mend_4 (fun r μ' e => ?_) (fun X μ' e => ?_)
      · obtain ⟨z, e, _⟩ := e; cases e
      · obtain ⟨z, e, rfl, rfl⟩ := e; cases e
        refine y_catch1 (Or.inr ⟨_, dL_mend_12, rfl, rfl⟩) (Nat.le_of_ble_eq_true rfl) rfl rfl (by decide) clI caI ?_
        refine y_iconst 1 dL_mend_13 (by decide) ?_
        exact w_iret rfl (Nat.le_of_ble_eq_true rfl) (Nat.le_of_ble_eq_true rfl) dL_mend_14 (hr ((1, ν)) (kbG_some h))
  refine y_invVX cvL_56 sh0 rfl (sp_KB_mend hl n a1 μ hx0) rfl rfl (Nat.le_of_ble_eq_true rfl) ⟨(Nat.le_of_ble_eq_true rfl), (Nat.le_of_ble_eq_true rfl), (Nat.le_of_ble_eq_true rfl), (Nat.le_of_ble_eq_true rfl)⟩ dL_mend_4 (fun r μ' e => ?_) (fun X μ' e => ?_)
  · obtain ⟨z, e, rfl, rfl⟩ := e; cases e
    refine y_i2l dL_mend_7 ?_
    have hin : vp_in 0 1 := kbIn_of (by decide)
    refine yq_last 0 (by decide) sh97 hin dL_mend_8 ?_
    refine y_goto 15 dL_mend_9 (by decide) ?_
    refine y_iconst 0 dL_mend_15 (by decide) ?_
    exact w_iret rfl (Nat.le_of_ble_eq_true rfl) (Nat.le_of_ble_eq_true rfl) dL_mend_16 (hr ((0, kbX x1.2 97 0 x1.1.toInt64)) (kbG_some h))
  · obtain ⟨z, e, _⟩ := e; cases e
def f_L_newWord (n : Nat) (a1 : Int32) (μ : kbM) : Option (Int32 × kbM) :=
  kbOr (f_KB_newWord n a1 μ) (fun r2 =>
    kbIf (r2.1 == false) <|
    some ((1, r2.2))) fun x1 =>
  some ((0, kbX x1.2 97 0 x1.1.toInt64))
theorem sp_L_newWord {l : Launch} (hl : l.stackTraces = false) (n : Nat) (a1 : Int32) (μ : kbM) {x : Int32 × kbM} (h : f_L_newWord n a1 μ = some x) : kbSW l ML_newWord [(0, 9, 12, 13)] 8 1 [.ref 0, .int a1, .ref 97] μ (kbQe (some (.int x.1)) x.2) := by
  refine kb_enterW 1 rfl rfl ?_
  suffices H : ∀ (Q : kbQt) (P : Int32 × kbM → Prop), (∀ z : Int32 × kbM, P z → Q (some (.int z.1)) z.2) → kbG (f_L_newWord n a1 μ) P → kbY l ML_newWord [⟨0, 9, 12, 13⟩] (kbRmX 8 1) 0 0 (kbFm 1 Q) 0 [some (.ref 0), some (.int a1), some (.ref 97), none] [] μ from H _ (fun z => z = x) (fun z e => by subst e; exact ⟨rfl, rfl⟩) ⟨x, h, rfl⟩
  clear h
  intro Q P hr h
  unfold f_L_newWord at h
  refine y_aload_n dL_newWord_0 rfl ?_
  refine y_iconst 0 dL_newWord_1 (by decide) ?_
  refine y_aload_n dL_newWord_2 rfl ?_
  refine y_iload_n dL_newWord_3 rfl ?_
  rcases kbG_or h with ⟨r2, hx0, h⟩ | ⟨x1, hx0, h⟩
  · obtain ⟨b, ν⟩ := r2
    obtain ⟨hb, h⟩ := kbG_if h
    cases b with
    | true =>
      cases hb
    | false =>
      refine y_invVX cvL_59 sh0 rfl (sp_KB_newWord hl n a1 μ hx0) rfl rfl (Nat.le_of_ble_eq_true rfl) ⟨(Nat.le_of_ble_eq_true rfl), (Nat.le_of_ble_eq_true rfl), (Nat.le_of_ble_eq_true rfl), (Nat.le_of_ble_eq_true rfl)⟩ dL_newWord_4 (fun r μ' e => ?_) (fun X μ' e => ?_)
      · obtain ⟨z, e, _⟩ := e; cases e
      · obtain ⟨z, e, rfl, rfl⟩ := e; cases e
        refine y_catch1 (Or.inr ⟨_, dL_newWord_12, rfl, rfl⟩) (Nat.le_of_ble_eq_true rfl) rfl rfl (by decide) clI caI ?_
        refine y_iconst 1 dL_newWord_13 (by decide) ?_
        exact w_iret rfl (Nat.le_of_ble_eq_true rfl) (Nat.le_of_ble_eq_true rfl) dL_newWord_14 (hr ((1, ν)) (kbG_some h))
  refine y_invVX cvL_59 sh0 rfl (sp_KB_newWord hl n a1 μ hx0) rfl rfl (Nat.le_of_ble_eq_true rfl) ⟨(Nat.le_of_ble_eq_true rfl), (Nat.le_of_ble_eq_true rfl), (Nat.le_of_ble_eq_true rfl), (Nat.le_of_ble_eq_true rfl)⟩ dL_newWord_4 (fun r μ' e => ?_) (fun X μ' e => ?_)
  · obtain ⟨z, e, rfl, rfl⟩ := e; cases e
    refine y_i2l dL_newWord_7 ?_
    have hin : vp_in 0 1 := kbIn_of (by decide)
    refine yq_last 0 (by decide) sh97 hin dL_newWord_8 ?_
    refine y_goto 15 dL_newWord_9 (by decide) ?_
    refine y_iconst 0 dL_newWord_15 (by decide) ?_
    exact w_iret rfl (Nat.le_of_ble_eq_true rfl) (Nat.le_of_ble_eq_true rfl) dL_newWord_16 (hr ((0, kbX x1.2 97 0 x1.1.toInt64)) (kbG_some h))
  · obtain ⟨z, e, _⟩ := e; cases e
def f_L_span (n : Nat) (a1 : Int32) (a2 : Int32) (μ : kbM) : Option (Int32 × kbM) :=
  kbOr (f_KB_span n a1 a2 μ) (fun r2 =>
    kbIf (r2.1 == true) <|
    some ((1, r2.2))) fun x1 =>
  some ((0, kbX x1.2 97 0 x1.1.toInt64))
theorem sp_L_span {l : Launch} (hl : l.stackTraces = false) (n : Nat) (a1 : Int32) (a2 : Int32) (μ : kbM) {x : Int32 × kbM} (h : f_L_span n a1 a2 μ = some x) : kbSW l ML_span [(0, 10, 13, 18)] 8 2 [.ref 0, .int a1, .int a2, .ref 97] μ (kbQe (some (.int x.1)) x.2) := by
  refine kb_enterW 1 rfl rfl ?_
  suffices H : ∀ (Q : kbQt) (P : Int32 × kbM → Prop), (∀ z : Int32 × kbM, P z → Q (some (.int z.1)) z.2) → kbG (f_L_span n a1 a2 μ) P → kbY l ML_span [⟨0, 10, 13, 18⟩] (kbRmX 8 2) 0 0 (kbFm 2 Q) 0 [some (.ref 0), some (.int a1), some (.int a2), some (.ref 97), none] [] μ from H _ (fun z => z = x) (fun z e => by subst e; exact ⟨rfl, rfl⟩) ⟨x, h, rfl⟩
  clear h
  intro Q P hr h
  unfold f_L_span at h
  refine y_aload_n dL_span_0 rfl ?_
  refine y_iconst 0 dL_span_1 (by decide) ?_
  refine y_aload_n dL_span_2 rfl ?_
  refine y_iload_n dL_span_3 rfl ?_
  refine y_iload_n dL_span_4 rfl ?_
  rcases kbG_or h with ⟨r2, hx0, h⟩ | ⟨x1, hx0, h⟩
  · obtain ⟨b, ν⟩ := r2
    obtain ⟨hb, h⟩ := kbG_if h
    cases b with
    | true =>
      refine y_invVX cvL_62 sh0 rfl (sp_KB_span hl n a1 a2 μ hx0) rfl rfl (Nat.le_of_ble_eq_true rfl) ⟨(Nat.le_of_ble_eq_true rfl), (Nat.le_of_ble_eq_true rfl), (Nat.le_of_ble_eq_true rfl), (Nat.le_of_ble_eq_true rfl)⟩ dL_span_5 (fun r μ' e => ?_) (fun X μ' e => ?_)
      · obtain ⟨z, e, _⟩ := e; cases e
      · obtain ⟨z, e, rfl, rfl⟩ := e; cases e
        refine y_catch1 (Or.inl ⟨dL_span_13, rfl⟩) (Nat.le_of_ble_eq_true rfl) rfl rfl (by decide) clN caN ?_
        refine y_iconst 1 dL_span_15 (by decide) ?_
        exact w_iret rfl (Nat.le_of_ble_eq_true rfl) (Nat.le_of_ble_eq_true rfl) dL_span_16 (hr ((1, ν)) (kbG_some h))
    | false =>
      cases hb
  refine y_invVX cvL_62 sh0 rfl (sp_KB_span hl n a1 a2 μ hx0) rfl rfl (Nat.le_of_ble_eq_true rfl) ⟨(Nat.le_of_ble_eq_true rfl), (Nat.le_of_ble_eq_true rfl), (Nat.le_of_ble_eq_true rfl), (Nat.le_of_ble_eq_true rfl)⟩ dL_span_5 (fun r μ' e => ?_) (fun X μ' e => ?_)
  · obtain ⟨z, e, rfl, rfl⟩ := e; cases e
    refine y_i2l dL_span_8 ?_
    have hin : vp_in 0 1 := kbIn_of (by decide)
    refine yq_last 0 (by decide) sh97 hin dL_span_9 ?_
    refine y_goto 17 dL_span_10 (by decide) ?_
    refine y_iconst 0 dL_span_17 (by decide) ?_
    exact w_iret rfl (Nat.le_of_ble_eq_true rfl) (Nat.le_of_ble_eq_true rfl) dL_span_18 (hr ((0, kbX x1.2 97 0 x1.1.toInt64)) (kbG_some h))
  · obtain ⟨z, e, _⟩ := e; cases e
def f_L_closest (n : Nat) (a1 : Int32) (μ : kbM) : Option (Int32 × kbM) :=
  kbOr (f_KB_closest n a1 μ) (fun r2 =>
    kbIf (r2.1 == true) <|
    some ((1, r2.2))) fun x1 =>
  some ((0, kbX x1.2 97 0 x1.1.toInt64))
theorem sp_L_closest {l : Launch} (hl : l.stackTraces = false) (n : Nat) (a1 : Int32) (μ : kbM) {x : Int32 × kbM} (h : f_L_closest n a1 μ = some x) : kbSW l ML_closest [(0, 9, 12, 18)] 8 1 [.ref 0, .int a1, .ref 97] μ (kbQe (some (.int x.1)) x.2) := by
  refine kb_enterW 1 rfl rfl ?_
  suffices H : ∀ (Q : kbQt) (P : Int32 × kbM → Prop), (∀ z : Int32 × kbM, P z → Q (some (.int z.1)) z.2) → kbG (f_L_closest n a1 μ) P → kbY l ML_closest [⟨0, 9, 12, 18⟩] (kbRmX 8 1) 0 0 (kbFm 1 Q) 0 [some (.ref 0), some (.int a1), some (.ref 97), none] [] μ from H _ (fun z => z = x) (fun z e => by subst e; exact ⟨rfl, rfl⟩) ⟨x, h, rfl⟩
  clear h
  intro Q P hr h
  unfold f_L_closest at h
  refine y_aload_n dL_closest_0 rfl ?_
  refine y_iconst 0 dL_closest_1 (by decide) ?_
  refine y_aload_n dL_closest_2 rfl ?_
  refine y_iload_n dL_closest_3 rfl ?_
  rcases kbG_or h with ⟨r2, hx0, h⟩ | ⟨x1, hx0, h⟩
  · obtain ⟨b, ν⟩ := r2
    obtain ⟨hb, h⟩ := kbG_if h
    cases b with
    | true =>
      refine y_invVX cvL_65 sh0 rfl (sp_KB_closest hl n a1 μ hx0) rfl rfl (Nat.le_of_ble_eq_true rfl) ⟨(Nat.le_of_ble_eq_true rfl), (Nat.le_of_ble_eq_true rfl), (Nat.le_of_ble_eq_true rfl), (Nat.le_of_ble_eq_true rfl)⟩ dL_closest_4 (fun r μ' e => ?_) (fun X μ' e => ?_)
      · obtain ⟨z, e, _⟩ := e; cases e
      · obtain ⟨z, e, rfl, rfl⟩ := e; cases e
        refine y_catch1 (Or.inr ⟨_, dL_closest_12, rfl, rfl⟩) (Nat.le_of_ble_eq_true rfl) rfl rfl (by decide) clN caN ?_
        refine y_iconst 1 dL_closest_13 (by decide) ?_
        exact w_iret rfl (Nat.le_of_ble_eq_true rfl) (Nat.le_of_ble_eq_true rfl) dL_closest_14 (hr ((1, ν)) (kbG_some h))
    | false =>
      cases hb
  refine y_invVX cvL_65 sh0 rfl (sp_KB_closest hl n a1 μ hx0) rfl rfl (Nat.le_of_ble_eq_true rfl) ⟨(Nat.le_of_ble_eq_true rfl), (Nat.le_of_ble_eq_true rfl), (Nat.le_of_ble_eq_true rfl), (Nat.le_of_ble_eq_true rfl)⟩ dL_closest_4 (fun r μ' e => ?_) (fun X μ' e => ?_)
  · obtain ⟨z, e, rfl, rfl⟩ := e; cases e
    refine y_i2l dL_closest_7 ?_
    have hin : vp_in 0 1 := kbIn_of (by decide)
    refine yq_last 0 (by decide) sh97 hin dL_closest_8 ?_
    refine y_goto 15 dL_closest_9 (by decide) ?_
    refine y_iconst 0 dL_closest_15 (by decide) ?_
    exact w_iret rfl (Nat.le_of_ble_eq_true rfl) (Nat.le_of_ble_eq_true rfl) dL_closest_16 (hr ((0, kbX x1.2 97 0 x1.1.toInt64)) (kbG_some h))
  · obtain ⟨z, e, _⟩ := e; cases e
def f_L_said (n : Nat) (a1 : Int32) (μ : kbM) : Option (Int32 × kbM) :=
  kbOr (f_KB_said n a1 μ) (fun r2 =>
    kbIf (r2.1 == false) <|
    some ((1, r2.2))) fun x1 =>
  some ((0, kbX x1.2 97 0 x1.1.toInt64))
theorem sp_L_said {l : Launch} (hl : l.stackTraces = false) (n : Nat) (a1 : Int32) (μ : kbM) {x : Int32 × kbM} (h : f_L_said n a1 μ = some x) : kbSW l ML_said [(0, 9, 12, 13)] 7 1 [.ref 0, .int a1, .ref 97] μ (kbQe (some (.int x.1)) x.2) := by
  refine kb_enterW 1 rfl rfl ?_
  suffices H : ∀ (Q : kbQt) (P : Int32 × kbM → Prop), (∀ z : Int32 × kbM, P z → Q (some (.int z.1)) z.2) → kbG (f_L_said n a1 μ) P → kbY l ML_said [⟨0, 9, 12, 13⟩] (kbRmX 7 1) 0 0 (kbFm 1 Q) 0 [some (.ref 0), some (.int a1), some (.ref 97), none] [] μ from H _ (fun z => z = x) (fun z e => by subst e; exact ⟨rfl, rfl⟩) ⟨x, h, rfl⟩
  clear h
  intro Q P hr h
  unfold f_L_said at h
  refine y_aload_n dL_said_0 rfl ?_
  refine y_iconst 0 dL_said_1 (by decide) ?_
  refine y_aload_n dL_said_2 rfl ?_
  refine y_iload_n dL_said_3 rfl ?_
  rcases kbG_or h with ⟨r2, hx0, h⟩ | ⟨x1, hx0, h⟩
  · obtain ⟨b, ν⟩ := r2
    obtain ⟨hb, h⟩ := kbG_if h
    cases b with
    | true =>
      cases hb
    | false =>
      refine y_invVX cvL_68 sh0 rfl (sp_KB_said hl n a1 μ hx0) rfl rfl (Nat.le_of_ble_eq_true rfl) ⟨(Nat.le_of_ble_eq_true rfl), (Nat.le_of_ble_eq_true rfl), (Nat.le_of_ble_eq_true rfl), (Nat.le_of_ble_eq_true rfl)⟩ dL_said_4 (fun r μ' e => ?_) (fun X μ' e => ?_)
      · obtain ⟨z, e, _⟩ := e; cases e
      · obtain ⟨z, e, rfl, rfl⟩ := e; cases e
        refine y_catch1 (Or.inr ⟨_, dL_said_12, rfl, rfl⟩) (Nat.le_of_ble_eq_true rfl) rfl rfl (by decide) clI caI ?_
        refine y_iconst 1 dL_said_13 (by decide) ?_
        exact w_iret rfl (Nat.le_of_ble_eq_true rfl) (Nat.le_of_ble_eq_true rfl) dL_said_14 (hr ((1, ν)) (kbG_some h))
  refine y_invVX cvL_68 sh0 rfl (sp_KB_said hl n a1 μ hx0) rfl rfl (Nat.le_of_ble_eq_true rfl) ⟨(Nat.le_of_ble_eq_true rfl), (Nat.le_of_ble_eq_true rfl), (Nat.le_of_ble_eq_true rfl), (Nat.le_of_ble_eq_true rfl)⟩ dL_said_4 (fun r μ' e => ?_) (fun X μ' e => ?_)
  · obtain ⟨z, e, rfl, rfl⟩ := e; cases e
    refine y_i2l dL_said_7 ?_
    have hin : vp_in 0 1 := kbIn_of (by decide)
    refine yq_last 0 (by decide) sh97 hin dL_said_8 ?_
    refine y_goto 15 dL_said_9 (by decide) ?_
    refine y_iconst 0 dL_said_15 (by decide) ?_
    exact w_iret rfl (Nat.le_of_ble_eq_true rfl) (Nat.le_of_ble_eq_true rfl) dL_said_16 (hr ((0, kbX x1.2 97 0 x1.1.toInt64)) (kbG_some h))
  · obtain ⟨z, e, _⟩ := e; cases e
def f_L_howMany (n : Nat) (a1 : Int32) (μ : kbM) : Option (Int32 × kbM) :=
  kbOr (f_KB_howMany n a1 μ) (fun r2 =>
    kbIf (r2.1 == false) <|
    some ((1, r2.2))) fun x1 =>
  some ((0, kbX x1.2 97 0 x1.1))
theorem sp_L_howMany {l : Launch} (hl : l.stackTraces = false) (n : Nat) (a1 : Int32) (μ : kbM) {x : Int32 × kbM} (h : f_L_howMany n a1 μ = some x) : kbSW l ML_howMany [(0, 8, 11, 13)] 7 1 [.ref 0, .int a1, .ref 97] μ (kbQe (some (.int x.1)) x.2) := by
  refine kb_enterW 1 rfl rfl ?_
  suffices H : ∀ (Q : kbQt) (P : Int32 × kbM → Prop), (∀ z : Int32 × kbM, P z → Q (some (.int z.1)) z.2) → kbG (f_L_howMany n a1 μ) P → kbY l ML_howMany [⟨0, 8, 11, 13⟩] (kbRmX 7 1) 0 0 (kbFm 1 Q) 0 [some (.ref 0), some (.int a1), some (.ref 97), none] [] μ from H _ (fun z => z = x) (fun z e => by subst e; exact ⟨rfl, rfl⟩) ⟨x, h, rfl⟩
  clear h
  intro Q P hr h
  unfold f_L_howMany at h
  refine y_aload_n dL_howMany_0 rfl ?_
  refine y_iconst 0 dL_howMany_1 (by decide) ?_
  refine y_aload_n dL_howMany_2 rfl ?_
  refine y_iload_n dL_howMany_3 rfl ?_
  rcases kbG_or h with ⟨r2, hx0, h⟩ | ⟨x1, hx0, h⟩
  · obtain ⟨b, ν⟩ := r2
    obtain ⟨hb, h⟩ := kbG_if h
    cases b with
    | true =>
      cases hb
    | false =>
      refine y_invVX cvL_71 sh0 rfl (sp_KB_howMany hl n a1 μ hx0) rfl rfl (Nat.le_of_ble_eq_true rfl) ⟨(Nat.le_of_ble_eq_true rfl), (Nat.le_of_ble_eq_true rfl), (Nat.le_of_ble_eq_true rfl), (Nat.le_of_ble_eq_true rfl)⟩ dL_howMany_4 (fun r μ' e => ?_) (fun X μ' e => ?_)
      · obtain ⟨z, e, _⟩ := e; cases e
      · obtain ⟨z, e, rfl, rfl⟩ := e; cases e
        refine y_catch1 (Or.inr ⟨_, dL_howMany_11, rfl, rfl⟩) (Nat.le_of_ble_eq_true rfl) rfl rfl (by decide) clI caI ?_
        refine y_iconst 1 dL_howMany_12 (by decide) ?_
        exact w_iret rfl (Nat.le_of_ble_eq_true rfl) (Nat.le_of_ble_eq_true rfl) dL_howMany_13 (hr ((1, ν)) (kbG_some h))
  refine y_invVX cvL_71 sh0 rfl (sp_KB_howMany hl n a1 μ hx0) rfl rfl (Nat.le_of_ble_eq_true rfl) ⟨(Nat.le_of_ble_eq_true rfl), (Nat.le_of_ble_eq_true rfl), (Nat.le_of_ble_eq_true rfl), (Nat.le_of_ble_eq_true rfl)⟩ dL_howMany_4 (fun r μ' e => ?_) (fun X μ' e => ?_)
  · obtain ⟨z, e, rfl, rfl⟩ := e; cases e
    have hin : vp_in 0 1 := kbIn_of (by decide)
    refine yq_last 0 (by decide) sh97 hin dL_howMany_7 ?_
    refine y_goto 14 dL_howMany_8 (by decide) ?_
    refine y_iconst 0 dL_howMany_14 (by decide) ?_
    exact w_iret rfl (Nat.le_of_ble_eq_true rfl) (Nat.le_of_ble_eq_true rfl) dL_howMany_15 (hr ((0, kbX x1.2 97 0 x1.1)) (kbG_some h))
  · obtain ⟨z, e, _⟩ := e; cases e
def f_L_hear (n : Nat) (a1 : Int32) (a2 : Int32) (μ : kbM) : Option (Int32 × kbM) :=
  kbOr (f_KB_hear n a1 a2 μ) (fun r2 =>
    kbIf (r2.1 == true) <|
    some ((1, r2.2))) fun x1 =>
  some ((0, kbX x1.2 97 0 x1.1.toInt64))
theorem sp_L_hear {l : Launch} (hl : l.stackTraces = false) (n : Nat) (a1 : Int32) (a2 : Int32) (μ : kbM) {x : Int32 × kbM} (h : f_L_hear n a1 a2 μ = some x) : kbSW l ML_hear [(0, 10, 13, 18)] 8 1 [.ref 0, .int a1, .int a2, .ref 97] μ (kbQe (some (.int x.1)) x.2) := by
  refine kb_enterW 1 rfl rfl ?_
  suffices H : ∀ (Q : kbQt) (P : Int32 × kbM → Prop), (∀ z : Int32 × kbM, P z → Q (some (.int z.1)) z.2) → kbG (f_L_hear n a1 a2 μ) P → kbY l ML_hear [⟨0, 10, 13, 18⟩] (kbRmX 8 1) 0 0 (kbFm 1 Q) 0 [some (.ref 0), some (.int a1), some (.int a2), some (.ref 97), none] [] μ from H _ (fun z => z = x) (fun z e => by subst e; exact ⟨rfl, rfl⟩) ⟨x, h, rfl⟩
  clear h
  intro Q P hr h
  unfold f_L_hear at h
  refine y_aload_n dL_hear_0 rfl ?_
  refine y_iconst 0 dL_hear_1 (by decide) ?_
  refine y_aload_n dL_hear_2 rfl ?_
  refine y_iload_n dL_hear_3 rfl ?_
  refine y_iload_n dL_hear_4 rfl ?_
  rcases kbG_or h with ⟨r2, hx0, h⟩ | ⟨x1, hx0, h⟩
  · obtain ⟨b, ν⟩ := r2
    obtain ⟨hb, h⟩ := kbG_if h
    cases b with
    | true =>
      refine y_invVX cvL_75 sh0 rfl (sp_KB_hear hl n a1 a2 μ hx0) rfl rfl (Nat.le_of_ble_eq_true rfl) ⟨(Nat.le_of_ble_eq_true rfl), (Nat.le_of_ble_eq_true rfl), (Nat.le_of_ble_eq_true rfl), (Nat.le_of_ble_eq_true rfl)⟩ dL_hear_5 (fun r μ' e => ?_) (fun X μ' e => ?_)
      · obtain ⟨z, e, _⟩ := e; cases e
      · obtain ⟨z, e, rfl, rfl⟩ := e; cases e
        refine y_catch1 (Or.inl ⟨dL_hear_13, rfl⟩) (Nat.le_of_ble_eq_true rfl) rfl rfl (by decide) clN caN ?_
        refine y_iconst 1 dL_hear_15 (by decide) ?_
        exact w_iret rfl (Nat.le_of_ble_eq_true rfl) (Nat.le_of_ble_eq_true rfl) dL_hear_16 (hr ((1, ν)) (kbG_some h))
    | false =>
      cases hb
  refine y_invVX cvL_75 sh0 rfl (sp_KB_hear hl n a1 a2 μ hx0) rfl rfl (Nat.le_of_ble_eq_true rfl) ⟨(Nat.le_of_ble_eq_true rfl), (Nat.le_of_ble_eq_true rfl), (Nat.le_of_ble_eq_true rfl), (Nat.le_of_ble_eq_true rfl)⟩ dL_hear_5 (fun r μ' e => ?_) (fun X μ' e => ?_)
  · obtain ⟨z, e, rfl, rfl⟩ := e; cases e
    refine y_i2l dL_hear_8 ?_
    have hin : vp_in 0 1 := kbIn_of (by decide)
    refine yq_last 0 (by decide) sh97 hin dL_hear_9 ?_
    refine y_goto 17 dL_hear_10 (by decide) ?_
    refine y_iconst 0 dL_hear_17 (by decide) ?_
    exact w_iret rfl (Nat.le_of_ble_eq_true rfl) (Nat.le_of_ble_eq_true rfl) dL_hear_18 (hr ((0, kbX x1.2 97 0 x1.1.toInt64)) (kbG_some h))
  · obtain ⟨z, e, _⟩ := e; cases e
def f_L_listen (n : Nat) (a1 : Int32) (μ : kbM) : Option (Int32 × kbM) :=
  kbOr (f_KB_listen n a1 μ) (fun r2 =>
    kbIf (r2.1 == true) <|
    some ((1, r2.2))) fun x1 =>
  some ((0, kbX x1.2 97 0 x1.1.toInt64))
theorem sp_L_listen {l : Launch} (hl : l.stackTraces = false) (n : Nat) (a1 : Int32) (μ : kbM) {x : Int32 × kbM} (h : f_L_listen n a1 μ = some x) : kbSW l ML_listen [(0, 9, 12, 18)] 8 1 [.ref 0, .int a1, .ref 97] μ (kbQe (some (.int x.1)) x.2) := by
  refine kb_enterW 1 rfl rfl ?_
  suffices H : ∀ (Q : kbQt) (P : Int32 × kbM → Prop), (∀ z : Int32 × kbM, P z → Q (some (.int z.1)) z.2) → kbG (f_L_listen n a1 μ) P → kbY l ML_listen [⟨0, 9, 12, 18⟩] (kbRmX 8 1) 0 0 (kbFm 1 Q) 0 [some (.ref 0), some (.int a1), some (.ref 97), none] [] μ from H _ (fun z => z = x) (fun z e => by subst e; exact ⟨rfl, rfl⟩) ⟨x, h, rfl⟩
  clear h
  intro Q P hr h
  unfold f_L_listen at h
  refine y_aload_n dL_listen_0 rfl ?_
  refine y_iconst 0 dL_listen_1 (by decide) ?_
  refine y_aload_n dL_listen_2 rfl ?_
  refine y_iload_n dL_listen_3 rfl ?_
  rcases kbG_or h with ⟨r2, hx0, h⟩ | ⟨x1, hx0, h⟩
  · obtain ⟨b, ν⟩ := r2
    obtain ⟨hb, h⟩ := kbG_if h
    cases b with
    | true =>
      refine y_invVX cvL_78 sh0 rfl (sp_KB_listen hl n a1 μ hx0) rfl rfl (Nat.le_of_ble_eq_true rfl) ⟨(Nat.le_of_ble_eq_true rfl), (Nat.le_of_ble_eq_true rfl), (Nat.le_of_ble_eq_true rfl), (Nat.le_of_ble_eq_true rfl)⟩ dL_listen_4 (fun r μ' e => ?_) (fun X μ' e => ?_)
      · obtain ⟨z, e, _⟩ := e; cases e
      · obtain ⟨z, e, rfl, rfl⟩ := e; cases e
        refine y_catch1 (Or.inr ⟨_, dL_listen_12, rfl, rfl⟩) (Nat.le_of_ble_eq_true rfl) rfl rfl (by decide) clN caN ?_
        refine y_iconst 1 dL_listen_13 (by decide) ?_
        exact w_iret rfl (Nat.le_of_ble_eq_true rfl) (Nat.le_of_ble_eq_true rfl) dL_listen_14 (hr ((1, ν)) (kbG_some h))
    | false =>
      cases hb
  refine y_invVX cvL_78 sh0 rfl (sp_KB_listen hl n a1 μ hx0) rfl rfl (Nat.le_of_ble_eq_true rfl) ⟨(Nat.le_of_ble_eq_true rfl), (Nat.le_of_ble_eq_true rfl), (Nat.le_of_ble_eq_true rfl), (Nat.le_of_ble_eq_true rfl)⟩ dL_listen_4 (fun r μ' e => ?_) (fun X μ' e => ?_)
  · obtain ⟨z, e, rfl, rfl⟩ := e; cases e
    refine y_i2l dL_listen_7 ?_
    have hin : vp_in 0 1 := kbIn_of (by decide)
    refine yq_last 0 (by decide) sh97 hin dL_listen_8 ?_
    refine y_goto 15 dL_listen_9 (by decide) ?_
    refine y_iconst 0 dL_listen_15 (by decide) ?_
    exact w_iret rfl (Nat.le_of_ble_eq_true rfl) (Nat.le_of_ble_eq_true rfl) dL_listen_16 (hr ((0, kbX x1.2 97 0 x1.1.toInt64)) (kbG_some h))
  · obtain ⟨z, e, _⟩ := e; cases e
def f_L_telegraph (n : Nat) (a1 : Int32) (a2 : Int32) (μ : kbM) : Option (Int32 × kbM) :=
  kbOr (f_KB_telegraph n a1 a2 μ) (fun r2 =>
    kbIf (r2.1 == true) <|
    some ((1, r2.2))) fun x1 =>
  some ((0, kbX x1.2 97 0 x1.1.toInt64))
theorem sp_L_telegraph {l : Launch} (hl : l.stackTraces = false) (n : Nat) (a1 : Int32) (a2 : Int32) (μ : kbM) {x : Int32 × kbM} (h : f_L_telegraph n a1 a2 μ = some x) : kbSW l ML_telegraph [(0, 10, 13, 18)] 8 2 [.ref 0, .int a1, .int a2, .ref 97] μ (kbQe (some (.int x.1)) x.2) := by
  refine kb_enterW 1 rfl rfl ?_
  suffices H : ∀ (Q : kbQt) (P : Int32 × kbM → Prop), (∀ z : Int32 × kbM, P z → Q (some (.int z.1)) z.2) → kbG (f_L_telegraph n a1 a2 μ) P → kbY l ML_telegraph [⟨0, 10, 13, 18⟩] (kbRmX 8 2) 0 0 (kbFm 2 Q) 0 [some (.ref 0), some (.int a1), some (.int a2), some (.ref 97), none] [] μ from H _ (fun z => z = x) (fun z e => by subst e; exact ⟨rfl, rfl⟩) ⟨x, h, rfl⟩
  clear h
  intro Q P hr h
  unfold f_L_telegraph at h
  refine y_aload_n dL_telegraph_0 rfl ?_
  refine y_iconst 0 dL_telegraph_1 (by decide) ?_
  refine y_aload_n dL_telegraph_2 rfl ?_
  refine y_iload_n dL_telegraph_3 rfl ?_
  refine y_iload_n dL_telegraph_4 rfl ?_
  rcases kbG_or h with ⟨r2, hx0, h⟩ | ⟨x1, hx0, h⟩
  · obtain ⟨b, ν⟩ := r2
    obtain ⟨hb, h⟩ := kbG_if h
    cases b with
    | true =>
      refine y_invVX cvL_81 sh0 rfl (sp_KB_telegraph hl n a1 a2 μ hx0) rfl rfl (Nat.le_of_ble_eq_true rfl) ⟨(Nat.le_of_ble_eq_true rfl), (Nat.le_of_ble_eq_true rfl), (Nat.le_of_ble_eq_true rfl), (Nat.le_of_ble_eq_true rfl)⟩ dL_telegraph_5 (fun r μ' e => ?_) (fun X μ' e => ?_)
      · obtain ⟨z, e, _⟩ := e; cases e
      · obtain ⟨z, e, rfl, rfl⟩ := e; cases e
        refine y_catch1 (Or.inl ⟨dL_telegraph_13, rfl⟩) (Nat.le_of_ble_eq_true rfl) rfl rfl (by decide) clN caN ?_
        refine y_iconst 1 dL_telegraph_15 (by decide) ?_
        exact w_iret rfl (Nat.le_of_ble_eq_true rfl) (Nat.le_of_ble_eq_true rfl) dL_telegraph_16 (hr ((1, ν)) (kbG_some h))
    | false =>
      cases hb
  refine y_invVX cvL_81 sh0 rfl (sp_KB_telegraph hl n a1 a2 μ hx0) rfl rfl (Nat.le_of_ble_eq_true rfl) ⟨(Nat.le_of_ble_eq_true rfl), (Nat.le_of_ble_eq_true rfl), (Nat.le_of_ble_eq_true rfl), (Nat.le_of_ble_eq_true rfl)⟩ dL_telegraph_5 (fun r μ' e => ?_) (fun X μ' e => ?_)
  · obtain ⟨z, e, rfl, rfl⟩ := e; cases e
    refine y_i2l dL_telegraph_8 ?_
    have hin : vp_in 0 1 := kbIn_of (by decide)
    refine yq_last 0 (by decide) sh97 hin dL_telegraph_9 ?_
    refine y_goto 17 dL_telegraph_10 (by decide) ?_
    refine y_iconst 0 dL_telegraph_17 (by decide) ?_
    exact w_iret rfl (Nat.le_of_ble_eq_true rfl) (Nat.le_of_ble_eq_true rfl) dL_telegraph_18 (hr ((0, kbX x1.2 97 0 x1.1.toInt64)) (kbG_some h))
  · obtain ⟨z, e, _⟩ := e; cases e
def f_L_game (n : Nat) (a1 : Int32) (a2 : Int32) (a3 : Int32) (μ : kbM) : Option (Int32 × kbM) :=
  kbOr (f_KB_game n a1 a2 a3 μ) (fun r2 =>
    if r2.1 = true then
      some ((1, r2.2))
    else
      some ((2, r2.2))) fun x1 =>
  some ((0, kbX x1.2 97 0 x1.1.toInt64))
theorem sp_L_game {l : Launch} (hl : l.stackTraces = false) (n : Nat) (a1 : Int32) (a2 : Int32) (a3 : Int32) (μ : kbM) {x : Int32 × kbM} (h : f_L_game n a1 a2 a3 μ = some x) : kbSW l ML_game [(0, 12, 15, 18), (0, 12, 19, 13)] 9 4 [.ref 0, .int a1, .int a2, .int a3, .ref 97] μ (kbQe (some (.int x.1)) x.2) := by
  refine kb_enterW 1 rfl rfl ?_
  suffices H : ∀ (Q : kbQt) (P : Int32 × kbM → Prop), (∀ z : Int32 × kbM, P z → Q (some (.int z.1)) z.2) → kbG (f_L_game n a1 a2 a3 μ) P → kbY l ML_game [⟨0, 12, 15, 18⟩, ⟨0, 12, 19, 13⟩] (kbRmX 9 4) 0 0 (kbFm 4 Q) 0 [some (.ref 0), some (.int a1), some (.int a2), some (.int a3), some (.ref 97), none] [] μ from H _ (fun z => z = x) (fun z e => by subst e; exact ⟨rfl, rfl⟩) ⟨x, h, rfl⟩
  clear h
  intro Q P hr h
  unfold f_L_game at h
  refine y_aload dL_game_0 rfl ?_
  refine y_iconst 0 dL_game_2 (by decide) ?_
  refine y_aload_n dL_game_3 rfl ?_
  refine y_iload_n dL_game_4 rfl ?_
  refine y_iload_n dL_game_5 rfl ?_
  refine y_iload_n dL_game_6 rfl ?_
  rcases kbG_or h with ⟨r2, hx0, h⟩ | ⟨x1, hx0, h⟩
  · obtain ⟨b, ν⟩ := r2
    cases b with
    | true =>
      replace h := kbG_t rfl h
      refine y_invVX cvL_84 sh0 rfl (sp_KB_game hl n a1 a2 a3 μ hx0) rfl rfl (Nat.le_of_ble_eq_true rfl) ⟨(Nat.le_of_ble_eq_true rfl), (Nat.le_of_ble_eq_true rfl), (Nat.le_of_ble_eq_true rfl), (Nat.le_of_ble_eq_true rfl)⟩ dL_game_7 (fun r μ' e => ?_) (fun X μ' e => ?_)
      · obtain ⟨z, e, _⟩ := e; cases e
      · obtain ⟨z, e, rfl, rfl⟩ := e; cases e
        refine y_catch1 (Or.inl ⟨dL_game_15, rfl⟩) (Nat.le_of_ble_eq_true rfl) rfl rfl (by decide) clN caN ?_
        refine y_iconst 1 dL_game_17 (by decide) ?_
        exact w_iret rfl (Nat.le_of_ble_eq_true rfl) (Nat.le_of_ble_eq_true rfl) dL_game_18 (hr ((1, ν)) (kbG_some h))
    | false =>
      replace h := kbG_f Bool.false_ne_true h
      refine y_invVX cvL_84 sh0 rfl (sp_KB_game hl n a1 a2 a3 μ hx0) rfl rfl (Nat.le_of_ble_eq_true rfl) ⟨(Nat.le_of_ble_eq_true rfl), (Nat.le_of_ble_eq_true rfl), (Nat.le_of_ble_eq_true rfl), (Nat.le_of_ble_eq_true rfl)⟩ dL_game_7 (fun r μ' e => ?_) (fun X μ' e => ?_)
      · obtain ⟨z, e, _⟩ := e; cases e
      · obtain ⟨z, e, rfl, rfl⟩ := e; cases e
        refine y_catch2 (Or.inl ⟨dL_game_19, rfl⟩) (Nat.le_of_ble_eq_true rfl) rfl rfl (by decide) clN cnI rfl (by decide) clI caI ?_
        refine y_iconst 2 dL_game_21 (by decide) ?_
        exact w_iret rfl (Nat.le_of_ble_eq_true rfl) (Nat.le_of_ble_eq_true rfl) dL_game_22 (hr ((2, ν)) (kbG_some h))
  refine y_invVX cvL_84 sh0 rfl (sp_KB_game hl n a1 a2 a3 μ hx0) rfl rfl (Nat.le_of_ble_eq_true rfl) ⟨(Nat.le_of_ble_eq_true rfl), (Nat.le_of_ble_eq_true rfl), (Nat.le_of_ble_eq_true rfl), (Nat.le_of_ble_eq_true rfl)⟩ dL_game_7 (fun r μ' e => ?_) (fun X μ' e => ?_)
  · obtain ⟨z, e, rfl, rfl⟩ := e; cases e
    refine y_i2l dL_game_10 ?_
    have hin : vp_in 0 1 := kbIn_of (by decide)
    refine yq_last 0 (by decide) sh97 hin dL_game_11 ?_
    refine y_goto 23 dL_game_12 (by decide) ?_
    refine y_iconst 0 dL_game_23 (by decide) ?_
    exact w_iret rfl (Nat.le_of_ble_eq_true rfl) (Nat.le_of_ble_eq_true rfl) dL_game_24 (hr ((0, kbX x1.2 97 0 x1.1.toInt64)) (kbG_some h))
  · obtain ⟨z, e, _⟩ := e; cases e
def f_L_frost (n : Nat) (a1 : Int32) (a2 : Int32) (a3 : Int32) (μ : kbM) : Option (Int32 × kbM) :=
  kbOr (f_KB_frost n a1 a2 a3 μ) (fun r2 =>
    if r2.1 = true then
      some ((1, r2.2))
    else
      some ((2, r2.2))) fun x1 =>
  some ((0, kbX x1.2 97 0 x1.1.toInt64))
theorem sp_L_frost {l : Launch} (hl : l.stackTraces = false) (n : Nat) (a1 : Int32) (a2 : Int32) (a3 : Int32) (μ : kbM) {x : Int32 × kbM} (h : f_L_frost n a1 a2 a3 μ = some x) : kbSW l ML_frost [(0, 12, 15, 18), (0, 12, 19, 13)] 8 2 [.ref 0, .int a1, .int a2, .int a3, .ref 97] μ (kbQe (some (.int x.1)) x.2) := by
  refine kb_enterW 1 rfl rfl ?_
  suffices H : ∀ (Q : kbQt) (P : Int32 × kbM → Prop), (∀ z : Int32 × kbM, P z → Q (some (.int z.1)) z.2) → kbG (f_L_frost n a1 a2 a3 μ) P → kbY l ML_frost [⟨0, 12, 15, 18⟩, ⟨0, 12, 19, 13⟩] (kbRmX 8 2) 0 0 (kbFm 2 Q) 0 [some (.ref 0), some (.int a1), some (.int a2), some (.int a3), some (.ref 97), none] [] μ from H _ (fun z => z = x) (fun z e => by subst e; exact ⟨rfl, rfl⟩) ⟨x, h, rfl⟩
  clear h
  intro Q P hr h
  unfold f_L_frost at h
  refine y_aload dL_frost_0 rfl ?_
  refine y_iconst 0 dL_frost_2 (by decide) ?_
  refine y_aload_n dL_frost_3 rfl ?_
  refine y_iload_n dL_frost_4 rfl ?_
  refine y_iload_n dL_frost_5 rfl ?_
  refine y_iload_n dL_frost_6 rfl ?_
  rcases kbG_or h with ⟨r2, hx0, h⟩ | ⟨x1, hx0, h⟩
  · obtain ⟨b, ν⟩ := r2
    cases b with
    | true =>
      replace h := kbG_t rfl h
      refine y_invVX cvL_88 sh0 rfl (sp_KB_frost hl n a1 a2 a3 μ hx0) rfl rfl (Nat.le_of_ble_eq_true rfl) ⟨(Nat.le_of_ble_eq_true rfl), (Nat.le_of_ble_eq_true rfl), (Nat.le_of_ble_eq_true rfl), (Nat.le_of_ble_eq_true rfl)⟩ dL_frost_7 (fun r μ' e => ?_) (fun X μ' e => ?_)
      · obtain ⟨z, e, _⟩ := e; cases e
      · obtain ⟨z, e, rfl, rfl⟩ := e; cases e
        refine y_catch1 (Or.inl ⟨dL_frost_15, rfl⟩) (Nat.le_of_ble_eq_true rfl) rfl rfl (by decide) clN caN ?_
        refine y_iconst 1 dL_frost_17 (by decide) ?_
        exact w_iret rfl (Nat.le_of_ble_eq_true rfl) (Nat.le_of_ble_eq_true rfl) dL_frost_18 (hr ((1, ν)) (kbG_some h))
    | false =>
      replace h := kbG_f Bool.false_ne_true h
      refine y_invVX cvL_88 sh0 rfl (sp_KB_frost hl n a1 a2 a3 μ hx0) rfl rfl (Nat.le_of_ble_eq_true rfl) ⟨(Nat.le_of_ble_eq_true rfl), (Nat.le_of_ble_eq_true rfl), (Nat.le_of_ble_eq_true rfl), (Nat.le_of_ble_eq_true rfl)⟩ dL_frost_7 (fun r μ' e => ?_) (fun X μ' e => ?_)
      · obtain ⟨z, e, _⟩ := e; cases e
      · obtain ⟨z, e, rfl, rfl⟩ := e; cases e
        refine y_catch2 (Or.inl ⟨dL_frost_19, rfl⟩) (Nat.le_of_ble_eq_true rfl) rfl rfl (by decide) clN cnI rfl (by decide) clI caI ?_
        refine y_iconst 2 dL_frost_21 (by decide) ?_
        exact w_iret rfl (Nat.le_of_ble_eq_true rfl) (Nat.le_of_ble_eq_true rfl) dL_frost_22 (hr ((2, ν)) (kbG_some h))
  refine y_invVX cvL_88 sh0 rfl (sp_KB_frost hl n a1 a2 a3 μ hx0) rfl rfl (Nat.le_of_ble_eq_true rfl) ⟨(Nat.le_of_ble_eq_true rfl), (Nat.le_of_ble_eq_true rfl), (Nat.le_of_ble_eq_true rfl), (Nat.le_of_ble_eq_true rfl)⟩ dL_frost_7 (fun r μ' e => ?_) (fun X μ' e => ?_)
  · obtain ⟨z, e, rfl, rfl⟩ := e; cases e
    refine y_i2l dL_frost_10 ?_
    have hin : vp_in 0 1 := kbIn_of (by decide)
    refine yq_last 0 (by decide) sh97 hin dL_frost_11 ?_
    refine y_goto 23 dL_frost_12 (by decide) ?_
    refine y_iconst 0 dL_frost_23 (by decide) ?_
    exact w_iret rfl (Nat.le_of_ble_eq_true rfl) (Nat.le_of_ble_eq_true rfl) dL_frost_24 (hr ((0, kbX x1.2 97 0 x1.1.toInt64)) (kbG_some h))
  · obtain ⟨z, e, _⟩ := e; cases e
