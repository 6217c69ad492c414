theorem dL_bestRule_0 : decode cL_bestRule 0 = .ok (.aload_n 1, 1) := by decide +kernel
theorem dL_bestRule_1 : decode cL_bestRule 1 = .ok (.iconst 0, 1) := by decide +kernel
theorem dL_bestRule_2 : decode cL_bestRule 2 = .ok (.aload_n 0, 1) := by decide +kernel
theorem dL_bestRule_3 : decode cL_bestRule 3 = .ok (.invokevirtual 29, 3) := by decide +kernel
theorem dL_bestRule_6 : decode cL_bestRule 6 = .ok (.lastore, 1) := by decide +kernel
theorem dL_bestRule_7 : decode cL_bestRule 7 = .ok (.goto 6, 3) := by decide +kernel
theorem dL_bestRule_10 : decode cL_bestRule 10 = .ok (.astore_n 2, 1) := by decide +kernel
theorem dL_bestRule_11 : decode cL_bestRule 11 = .ok (.iconst 1, 1) := by decide +kernel
theorem dL_bestRule_12 : decode cL_bestRule 12 = .ok (.ireturn, 1) := by decide +kernel
theorem dL_bestRule_13 : decode cL_bestRule 13 = .ok (.iconst 0, 1) := by decide +kernel
theorem dL_bestRule_14 : decode cL_bestRule 14 = .ok (.ireturn, 1) := by decide +kernel
theorem dL_comes_0 : decode cL_comes 0 = .ok (.aload_n 3, 1) := by decide +kernel
theorem dL_comes_1 : decode cL_comes 1 = .ok (.iconst 0, 1) := by decide +kernel
theorem dL_comes_2 : decode cL_comes 2 = .ok (.aload_n 0, 1) := by decide +kernel
theorem dL_comes_3 : decode cL_comes 3 = .ok (.iload_n 1, 1) := by decide +kernel
theorem dL_comes_4 : decode cL_comes 4 = .ok (.iload_n 2, 1) := by decide +kernel
theorem dL_comes_5 : decode cL_comes 5 = .ok (.invokevirtual 15, 3) := by decide +kernel
theorem dL_comes_8 : decode cL_comes 8 = .ok (.lastore, 1) := by decide +kernel
theorem dL_comes_9 : decode cL_comes 9 = .ok (.goto 7, 3) := by decide +kernel
theorem dL_comes_12 : decode cL_comes 12 = .ok (.astore 4, 2) := by decide +kernel
theorem dL_comes_14 : decode cL_comes 14 = .ok (.iconst 1, 1) := by decide +kernel
theorem dL_comes_15 : decode cL_comes 15 = .ok (.ireturn, 1) := by decide +kernel
theorem dL_comes_16 : decode cL_comes 16 = .ok (.iconst 0, 1) := by decide +kernel
theorem dL_comes_17 : decode cL_comes 17 = .ok (.ireturn, 1) := by decide +kernel
theorem dL_knows_0 : decode cL_knows 0 = .ok (.aload_n 2, 1) := by decide +kernel
theorem dL_knows_1 : decode cL_knows 1 = .ok (.iconst 0, 1) := by decide +kernel
theorem dL_knows_2 : decode cL_knows 2 = .ok (.aload_n 0, 1) := by decide +kernel
theorem dL_knows_3 : decode cL_knows 3 = .ok (.iload_n 1, 1) := by decide +kernel
theorem dL_knows_4 : decode cL_knows 4 = .ok (.invokevirtual 19, 3) := by decide +kernel
theorem dL_knows_7 : decode cL_knows 7 = .ok (.lastore, 1) := by decide +kernel
theorem dL_knows_8 : decode cL_knows 8 = .ok (.goto 6, 3) := by decide +kernel
theorem dL_knows_11 : decode cL_knows 11 = .ok (.astore_n 3, 1) := by decide +kernel
theorem dL_knows_12 : decode cL_knows 12 = .ok (.iconst 1, 1) := by decide +kernel
theorem dL_knows_13 : decode cL_knows 13 = .ok (.ireturn, 1) := by decide +kernel
theorem dL_knows_14 : decode cL_knows 14 = .ok (.iconst 0, 1) := by decide +kernel
theorem dL_knows_15 : decode cL_knows 15 = .ok (.ireturn, 1) := by decide +kernel
theorem dL_many_0 : decode cL_many 0 = .ok (.aload_n 3, 1) := by decide +kernel
theorem dL_many_1 : decode cL_many 1 = .ok (.iconst 0, 1) := by decide +kernel
theorem dL_many_2 : decode cL_many 2 = .ok (.aload_n 0, 1) := by decide +kernel
theorem dL_many_3 : decode cL_many 3 = .ok (.iload_n 1, 1) := by decide +kernel
theorem dL_many_4 : decode cL_many 4 = .ok (.iload_n 2, 1) := by decide +kernel
theorem dL_many_5 : decode cL_many 5 = .ok (.invokevirtual 39, 3) := by decide +kernel
theorem dL_many_8 : decode cL_many 8 = .ok (.lastore, 1) := by decide +kernel
theorem dL_many_9 : decode cL_many 9 = .ok (.goto 7, 3) := by decide +kernel
theorem dL_many_12 : decode cL_many 12 = .ok (.astore 4, 2) := by decide +kernel
theorem dL_many_14 : decode cL_many 14 = .ok (.iconst 1, 1) := by decide +kernel
theorem dL_many_15 : decode cL_many 15 = .ok (.ireturn, 1) := by decide +kernel
theorem dL_many_16 : decode cL_many 16 = .ok (.iconst 0, 1) := by decide +kernel
theorem dL_many_17 : decode cL_many 17 = .ok (.ireturn, 1) := by decide +kernel
theorem dL_minutes_0 : decode cL_minutes 0 = .ok (.aload_n 3, 1) := by decide +kernel
theorem dL_minutes_1 : decode cL_minutes 1 = .ok (.iconst 0, 1) := by decide +kernel
theorem dL_minutes_2 : decode cL_minutes 2 = .ok (.aload_n 0, 1) := by decide +kernel
theorem dL_minutes_3 : decode cL_minutes 3 = .ok (.iload_n 1, 1) := by decide +kernel
theorem dL_minutes_4 : decode cL_minutes 4 = .ok (.iload_n 2, 1) := by decide +kernel
theorem dL_minutes_5 : decode cL_minutes 5 = .ok (.invokevirtual 33, 3) := by decide +kernel
theorem dL_minutes_8 : decode cL_minutes 8 = .ok (.lastore, 1) := by decide +kernel
theorem dL_minutes_9 : decode cL_minutes 9 = .ok (.goto 7, 3) := by decide +kernel
theorem dL_minutes_12 : decode cL_minutes 12 = .ok (.astore 4, 2) := by decide +kernel
theorem dL_minutes_14 : decode cL_minutes 14 = .ok (.iconst 1, 1) := by decide +kernel
theorem dL_minutes_15 : decode cL_minutes 15 = .ok (.ireturn, 1) := by decide +kernel
theorem dL_minutes_16 : decode cL_minutes 16 = .ok (.iconst 0, 1) := by decide +kernel
theorem dL_minutes_17 : decode cL_minutes 17 = .ok (.ireturn, 1) := by decide +kernel
theorem dL_parts_0 : decode cL_parts 0 = .ok (.aload_n 2, 1) := by decide +kernel
theorem dL_parts_1 : decode cL_parts 1 = .ok (.iconst 0, 1) := by decide +kernel
theorem dL_parts_2 : decode cL_parts 2 = .ok (.aload_n 0, 1) := by decide +kernel
theorem dL_parts_3 : decode cL_parts 3 = .ok (.iload_n 1, 1) := by decide +kernel
theorem dL_parts_4 : decode cL_parts 4 = .ok (.invokevirtual 7, 3) := by decide +kernel
theorem dL_parts_7 : decode cL_parts 7 = .ok (.lastore, 1) := by decide +kernel
theorem dL_parts_8 : decode cL_parts 8 = .ok (.goto 6, 3) := by decide +kernel
theorem dL_parts_11 : decode cL_parts 11 = .ok (.astore_n 3, 1) := by decide +kernel
theorem dL_parts_12 : decode cL_parts 12 = .ok (.iconst 1, 1) := by decide +kernel
theorem dL_parts_13 : decode cL_parts 13 = .ok (.ireturn, 1) := by decide +kernel
theorem dL_parts_14 : decode cL_parts 14 = .ok (.iconst 0, 1) := by decide +kernel
theorem dL_parts_15 : decode cL_parts 15 = .ok (.ireturn, 1) := by decide +kernel
theorem dL_shut_0 : decode cL_shut 0 = .ok (.aload 4, 2) := by decide +kernel
theorem dL_shut_2 : decode cL_shut 2 = .ok (.iconst 0, 1) := by decide +kernel
theorem dL_shut_3 : decode cL_shut 3 = .ok (.aload_n 0, 1) := by decide +kernel
theorem dL_shut_4 : decode cL_shut 4 = .ok (.iload_n 1, 1) := by decide +kernel
theorem dL_shut_5 : decode cL_shut 5 = .ok (.iload_n 2, 1) := by decide +kernel
theorem dL_shut_6 : decode cL_shut 6 = .ok (.iload_n 3, 1) := by decide +kernel
theorem dL_shut_7 : decode cL_shut 7 = .ok (.invokevirtual 36, 3) := by decide +kernel
theorem dL_shut_10 : decode cL_shut 10 = .ok (.lastore, 1) := by decide +kernel
theorem dL_shut_11 : decode cL_shut 11 = .ok (.goto 7, 3) := by decide +kernel
theorem dL_shut_14 : decode cL_shut 14 = .ok (.astore 5, 2) := by decide +kernel
theorem dL_shut_16 : decode cL_shut 16 = .ok (.iconst 1, 1) := by decide +kernel
theorem dL_shut_17 : decode cL_shut 17 = .ok (.ireturn, 1) := by decide +kernel
theorem dL_shut_18 : decode cL_shut 18 = .ok (.iconst 0, 1) := by decide +kernel
theorem dL_shut_19 : decode cL_shut 19 = .ok (.ireturn, 1) := by decide +kernel
theorem dL_think_0 : decode cL_think 0 = .ok (.aload 4, 2) := by decide +kernel
theorem dL_think_2 : decode cL_think 2 = .ok (.iconst 0, 1) := by decide +kernel
theorem dL_think_3 : decode cL_think 3 = .ok (.aload_n 0, 1) := by decide +kernel
theorem dL_think_4 : decode cL_think 4 = .ok (.iload_n 1, 1) := by decide +kernel
theorem dL_think_5 : decode cL_think 5 = .ok (.iload_n 2, 1) := by decide +kernel
theorem dL_think_6 : decode cL_think 6 = .ok (.iload_n 3, 1) := by decide +kernel
theorem dL_think_7 : decode cL_think 7 = .ok (.invokevirtual 25, 3) := by decide +kernel
theorem dL_think_10 : decode cL_think 10 = .ok (.lastore, 1) := by decide +kernel
theorem dL_think_11 : decode cL_think 11 = .ok (.goto 7, 3) := by decide +kernel
theorem dL_think_14 : decode cL_think 14 = .ok (.astore 5, 2) := by decide +kernel
theorem dL_think_16 : decode cL_think 16 = .ok (.iconst 1, 1) := by decide +kernel
theorem dL_think_17 : decode cL_think 17 = .ok (.ireturn, 1) := by decide +kernel
theorem dL_think_18 : decode cL_think 18 = .ok (.iconst 0, 1) := by decide +kernel
theorem dL_think_19 : decode cL_think 19 = .ok (.ireturn, 1) := by decide +kernel
theorem dL_turns_0 : decode cL_turns 0 = .ok (.aload_n 3, 1) := by decide +kernel
theorem dL_turns_1 : decode cL_turns 1 = .ok (.iconst 0, 1) := by decide +kernel
theorem dL_turns_2 : decode cL_turns 2 = .ok (.aload_n 0, 1) := by decide +kernel
theorem dL_turns_3 : decode cL_turns 3 = .ok (.iload_n 1, 1) := by decide +kernel
theorem dL_turns_4 : decode cL_turns 4 = .ok (.iload_n 2, 1) := by decide +kernel
theorem dL_turns_5 : decode cL_turns 5 = .ok (.invokevirtual 22, 3) := by decide +kernel
theorem dL_turns_8 : decode cL_turns 8 = .ok (.lastore, 1) := by decide +kernel
theorem dL_turns_9 : decode cL_turns 9 = .ok (.goto 7, 3) := by decide +kernel
theorem dL_turns_12 : decode cL_turns 12 = .ok (.astore 4, 2) := by decide +kernel
theorem dL_turns_14 : decode cL_turns 14 = .ok (.iconst 1, 1) := by decide +kernel
theorem dL_turns_15 : decode cL_turns 15 = .ok (.ireturn, 1) := by decide +kernel
theorem dL_turns_16 : decode cL_turns 16 = .ok (.iconst 0, 1) := by decide +kernel
theorem dL_turns_17 : decode cL_turns 17 = .ok (.ireturn, 1) := by decide +kernel
theorem dX0_becomePlain_0 : decode cX0_becomePlain 0 = .ok (.iconst 0, 1) := by decide +kernel
theorem dX0_becomePlain_1 : decode cX0_becomePlain 1 = .ok (.istore_n 1, 1) := by decide +kernel
theorem dX0_becomePlain_2 : decode cX0_becomePlain 2 = .ok (.iload_n 1, 1) := by decide +kernel
theorem dX0_becomePlain_3 : decode cX0_becomePlain 3 = .ok (.iconst 3, 1) := by decide +kernel
theorem dX0_becomePlain_4 : decode cX0_becomePlain 4 = .ok (.if_icmp .ge 42, 3) := by decide +kernel
theorem dX0_becomePlain_7 : decode cX0_becomePlain 7 = .ok (.iconst 0, 1) := by decide +kernel
theorem dX0_becomePlain_8 : decode cX0_becomePlain 8 = .ok (.istore_n 2, 1) := by decide +kernel
theorem dX0_becomePlain_9 : decode cX0_becomePlain 9 = .ok (.iload_n 2, 1) := by decide +kernel
theorem dX0_becomePlain_10 : decode cX0_becomePlain 10 = .ok (.iconst 3, 1) := by decide +kernel
theorem dX0_becomePlain_11 : decode cX0_becomePlain 11 = .ok (.if_icmp .ge 29, 3) := by decide +kernel
theorem dX0_becomePlain_14 : decode cX0_becomePlain 14 = .ok (.aload_n 0, 1) := by decide +kernel
theorem dX0_becomePlain_15 : decode cX0_becomePlain 15 = .ok (.getfield 9, 3) := by decide +kernel
theorem dX0_becomePlain_18 : decode cX0_becomePlain 18 = .ok (.iload_n 1, 1) := by decide +kernel
theorem dX0_becomePlain_19 : decode cX0_becomePlain 19 = .ok (.iconst 3, 1) := by decide +kernel
theorem dX0_becomePlain_20 : decode cX0_becomePlain 20 = .ok (.imul, 1) := by decide +kernel
theorem dX0_becomePlain_21 : decode cX0_becomePlain 21 = .ok (.iload_n 2, 1) := by decide +kernel
theorem dX0_becomePlain_22 : decode cX0_becomePlain 22 = .ok (.iadd, 1) := by decide +kernel
theorem dX0_becomePlain_23 : decode cX0_becomePlain 23 = .ok (.iload_n 1, 1) := by decide +kernel
theorem dX0_becomePlain_24 : decode cX0_becomePlain 24 = .ok (.iload_n 2, 1) := by decide +kernel
theorem dX0_becomePlain_25 : decode cX0_becomePlain 25 = .ok (.if_icmp .ne 7, 3) := by decide +kernel
theorem dX0_becomePlain_28 : decode cX0_becomePlain 28 = .ok (.iconst 0, 1) := by decide +kernel
theorem dX0_becomePlain_29 : decode cX0_becomePlain 29 = .ok (.goto 4, 3) := by decide +kernel
theorem dX0_becomePlain_32 : decode cX0_becomePlain 32 = .ok (.iconst 1, 1) := by decide +kernel
theorem dX0_becomePlain_33 : decode cX0_becomePlain 33 = .ok (.iastore, 1) := by decide +kernel
theorem dX0_becomePlain_34 : decode cX0_becomePlain 34 = .ok (.iinc 2 1, 3) := by decide +kernel
theorem dX0_becomePlain_37 : decode cX0_becomePlain 37 = .ok (.goto (-28), 3) := by decide +kernel
theorem dX0_becomePlain_40 : decode cX0_becomePlain 40 = .ok (.iinc 1 1, 3) := by decide +kernel
theorem dX0_becomePlain_43 : decode cX0_becomePlain 43 = .ok (.goto (-41), 3) := by decide +kernel
theorem dX0_becomePlain_46 : decode cX0_becomePlain 46 = .ok (.return_, 1) := by decide +kernel
theorem dX0_init_0 : decode cX0_init 0 = .ok (.aload_n 0, 1) := by decide +kernel
theorem dX0_init_1 : decode cX0_init 1 = .ok (.invokespecial 3, 3) := by decide +kernel
theorem dX0_init_4 : decode cX0_init 4 = .ok (.aload_n 0, 1) := by decide +kernel
theorem dX0_init_5 : decode cX0_init 5 = .ok (.bipush 9, 2) := by decide +kernel
theorem dX0_init_7 : decode cX0_init 7 = .ok (.newarray .int, 2) := by decide +kernel
theorem dX0_init_9 : decode cX0_init 9 = .ok (.putfield 9, 3) := by decide +kernel
theorem dX0_init_12 : decode cX0_init 12 = .ok (.return_, 1) := by decide +kernel
theorem dX0_leastOf_0 : decode cX0_leastOf 0 = .ok (.iconst 0, 1) := by decide +kernel
theorem dX0_leastOf_1 : decode cX0_leastOf 1 = .ok (.istore 4, 2) := by decide +kernel
theorem dX0_leastOf_3 : decode cX0_leastOf 3 = .ok (.aload_n 0, 1) := by decide +kernel
theorem dX0_leastOf_4 : decode cX0_leastOf 4 = .ok (.iconst 0, 1) := by decide +kernel
theorem dX0_leastOf_5 : decode cX0_leastOf 5 = .ok (.aload_n 2, 1) := by decide +kernel
theorem dX0_leastOf_6 : decode cX0_leastOf 6 = .ok (.iload_n 3, 1) := by decide +kernel
theorem dX0_leastOf_7 : decode cX0_leastOf 7 = .ok (.invokevirtual 15, 3) := by decide +kernel
theorem dX0_leastOf_10 : decode cX0_leastOf 10 = .ok (.lstore 5, 2) := by decide +kernel
theorem dX0_leastOf_12 : decode cX0_leastOf 12 = .ok (.iconst 1, 1) := by decide +kernel
theorem dX0_leastOf_13 : decode cX0_leastOf 13 = .ok (.istore 7, 2) := by decide +kernel
theorem dX0_leastOf_15 : decode cX0_leastOf 15 = .ok (.iload 7, 2) := by decide +kernel
theorem dX0_leastOf_17 : decode cX0_leastOf 17 = .ok (.iload_n 1, 1) := by decide +kernel
theorem dX0_leastOf_18 : decode cX0_leastOf 18 = .ok (.if_icmp .ge 35, 3) := by decide +kernel
theorem dX0_leastOf_21 : decode cX0_leastOf 21 = .ok (.aload_n 0, 1) := by decide +kernel
theorem dX0_leastOf_22 : decode cX0_leastOf 22 = .ok (.iload 7, 2) := by decide +kernel
theorem dX0_leastOf_24 : decode cX0_leastOf 24 = .ok (.aload_n 2, 1) := by decide +kernel
theorem dX0_leastOf_25 : decode cX0_leastOf 25 = .ok (.iload_n 3, 1) := by decide +kernel
theorem dX0_leastOf_26 : decode cX0_leastOf 26 = .ok (.invokevirtual 15, 3) := by decide +kernel
theorem dX0_leastOf_29 : decode cX0_leastOf 29 = .ok (.lstore 8, 2) := by decide +kernel
theorem dX0_leastOf_31 : decode cX0_leastOf 31 = .ok (.lload 8, 2) := by decide +kernel
theorem dX0_leastOf_33 : decode cX0_leastOf 33 = .ok (.lload 5, 2) := by decide +kernel
theorem dX0_leastOf_35 : decode cX0_leastOf 35 = .ok (.lcmp, 1) := by decide +kernel
theorem dX0_leastOf_36 : decode cX0_leastOf 36 = .ok (.ifCond .ge 11, 3) := by decide +kernel
theorem dX0_leastOf_39 : decode cX0_leastOf 39 = .ok (.lload 8, 2) := by decide +kernel
theorem dX0_leastOf_41 : decode cX0_leastOf 41 = .ok (.lstore 5, 2) := by decide +kernel
theorem dX0_leastOf_43 : decode cX0_leastOf 43 = .ok (.iload 7, 2) := by decide +kernel
theorem dX0_leastOf_45 : decode cX0_leastOf 45 = .ok (.istore 4, 2) := by decide +kernel
theorem dX0_leastOf_47 : decode cX0_leastOf 47 = .ok (.iinc 7 1, 3) := by decide +kernel
theorem dX0_leastOf_50 : decode cX0_leastOf 50 = .ok (.goto (-35), 3) := by decide +kernel
theorem dX0_leastOf_53 : decode cX0_leastOf 53 = .ok (.iload 4, 2) := by decide +kernel
theorem dX0_leastOf_55 : decode cX0_leastOf 55 = .ok (.ireturn, 1) := by decide +kernel
theorem dX0_lostAt_0 : decode cX0_lostAt 0 = .ok (.lconst 0, 1) := by decide +kernel
theorem dX0_lostAt_1 : decode cX0_lostAt 1 = .ok (.lstore 4, 2) := by decide +kernel
theorem dX0_lostAt_3 : decode cX0_lostAt 3 = .ok (.iconst 0, 1) := by decide +kernel
theorem dX0_lostAt_4 : decode cX0_lostAt 4 = .ok (.istore 6, 2) := by decide +kernel
theorem dX0_lostAt_6 : decode cX0_lostAt 6 = .ok (.iload 6, 2) := by decide +kernel
theorem dX0_lostAt_8 : decode cX0_lostAt 8 = .ok (.iconst 3, 1) := by decide +kernel
theorem dX0_lostAt_9 : decode cX0_lostAt 9 = .ok (.if_icmp .ge 33, 3) := by decide +kernel
theorem dX0_lostAt_12 : decode cX0_lostAt 12 = .ok (.lload 4, 2) := by decide +kernel
theorem dX0_lostAt_14 : decode cX0_lostAt 14 = .ok (.aload_n 2, 1) := by decide +kernel
theorem dX0_lostAt_15 : decode cX0_lostAt 15 = .ok (.iload_n 3, 1) := by decide +kernel
theorem dX0_lostAt_16 : decode cX0_lostAt 16 = .ok (.iload 6, 2) := by decide +kernel
theorem dX0_lostAt_18 : decode cX0_lostAt 18 = .ok (.iadd, 1) := by decide +kernel
theorem dX0_lostAt_19 : decode cX0_lostAt 19 = .ok (.laload, 1) := by decide +kernel
theorem dX0_lostAt_20 : decode cX0_lostAt 20 = .ok (.aload_n 0, 1) := by decide +kernel
theorem dX0_lostAt_21 : decode cX0_lostAt 21 = .ok (.getfield 9, 3) := by decide +kernel
theorem dX0_lostAt_24 : decode cX0_lostAt 24 = .ok (.iload 6, 2) := by decide +kernel
theorem dX0_lostAt_26 : decode cX0_lostAt 26 = .ok (.iconst 3, 1) := by decide +kernel
theorem dX0_lostAt_27 : decode cX0_lostAt 27 = .ok (.imul, 1) := by decide +kernel
theorem dX0_lostAt_28 : decode cX0_lostAt 28 = .ok (.iload_n 1, 1) := by decide +kernel
theorem dX0_lostAt_29 : decode cX0_lostAt 29 = .ok (.iadd, 1) := by decide +kernel
theorem dX0_lostAt_30 : decode cX0_lostAt 30 = .ok (.iaload, 1) := by decide +kernel
theorem dX0_lostAt_31 : decode cX0_lostAt 31 = .ok (.i2l, 1) := by decide +kernel
theorem dX0_lostAt_32 : decode cX0_lostAt 32 = .ok (.lmul, 1) := by decide +kernel
theorem dX0_lostAt_33 : decode cX0_lostAt 33 = .ok (.ladd, 1) := by decide +kernel
theorem dX0_lostAt_34 : decode cX0_lostAt 34 = .ok (.lstore 4, 2) := by decide +kernel
theorem dX0_lostAt_36 : decode cX0_lostAt 36 = .ok (.iinc 6 1, 3) := by decide +kernel
theorem dX0_lostAt_39 : decode cX0_lostAt 39 = .ok (.goto (-33), 3) := by decide +kernel
theorem dX0_lostAt_42 : decode cX0_lostAt 42 = .ok (.lload 4, 2) := by decide +kernel
theorem dX0_lostAt_44 : decode cX0_lostAt 44 = .ok (.lreturn, 1) := by decide +kernel
theorem dX0_lostBy_0 : decode cX0_lostBy 0 = .ok (.lconst 0, 1) := by decide +kernel
theorem dX0_lostBy_1 : decode cX0_lostBy 1 = .ok (.lstore_n 2, 1) := by decide +kernel
theorem dX0_lostBy_2 : decode cX0_lostBy 2 = .ok (.iconst 0, 1) := by decide +kernel
theorem dX0_lostBy_3 : decode cX0_lostBy 3 = .ok (.istore 4, 2) := by decide +kernel
theorem dX0_lostBy_5 : decode cX0_lostBy 5 = .ok (.iload 4, 2) := by decide +kernel
theorem dX0_lostBy_7 : decode cX0_lostBy 7 = .ok (.bipush 9, 2) := by decide +kernel
theorem dX0_lostBy_9 : decode cX0_lostBy 9 = .ok (.if_icmp .ge 25, 3) := by decide +kernel
theorem dX0_lostBy_12 : decode cX0_lostBy 12 = .ok (.lload_n 2, 1) := by decide +kernel
theorem dX0_lostBy_13 : decode cX0_lostBy 13 = .ok (.aload_n 1, 1) := by decide +kernel
theorem dX0_lostBy_14 : decode cX0_lostBy 14 = .ok (.iload 4, 2) := by decide +kernel
theorem dX0_lostBy_16 : decode cX0_lostBy 16 = .ok (.laload, 1) := by decide +kernel
theorem dX0_lostBy_17 : decode cX0_lostBy 17 = .ok (.aload_n 0, 1) := by decide +kernel
theorem dX0_lostBy_18 : decode cX0_lostBy 18 = .ok (.getfield 9, 3) := by decide +kernel
theorem dX0_lostBy_21 : decode cX0_lostBy 21 = .ok (.iload 4, 2) := by decide +kernel
theorem dX0_lostBy_23 : decode cX0_lostBy 23 = .ok (.iaload, 1) := by decide +kernel
theorem dX0_lostBy_24 : decode cX0_lostBy 24 = .ok (.i2l, 1) := by decide +kernel
theorem dX0_lostBy_25 : decode cX0_lostBy 25 = .ok (.lmul, 1) := by decide +kernel
theorem dX0_lostBy_26 : decode cX0_lostBy 26 = .ok (.ladd, 1) := by decide +kernel
theorem dX0_lostBy_27 : decode cX0_lostBy 27 = .ok (.lstore_n 2, 1) := by decide +kernel
theorem dX0_lostBy_28 : decode cX0_lostBy 28 = .ok (.iinc 4 1, 3) := by decide +kernel
theorem dX0_lostBy_31 : decode cX0_lostBy 31 = .ok (.goto (-26), 3) := by decide +kernel
theorem dX0_lostBy_34 : decode cX0_lostBy 34 = .ok (.lload_n 2, 1) := by decide +kernel
theorem dX0_lostBy_35 : decode cX0_lostBy 35 = .ok (.lreturn, 1) := by decide +kernel
theorem dX10_areBelieved_0 : decode cX10_areBelieved 0 = .ok (.aload_n 0, 1) := by decide +kernel
theorem dX10_areBelieved_1 : decode cX10_areBelieved 1 = .ok (.aload_n 1, 1) := by decide +kernel
theorem dX10_areBelieved_2 : decode cX10_areBelieved 2 = .ok (.putfield 9, 3) := by decide +kernel
theorem dX10_areBelieved_5 : decode cX10_areBelieved 5 = .ok (.aload_n 0, 1) := by decide +kernel
theorem dX10_areBelieved_6 : decode cX10_areBelieved 6 = .ok (.aload_n 0, 1) := by decide +kernel
theorem dX10_areBelieved_7 : decode cX10_areBelieved 7 = .ok (.getfield 9, 3) := by decide +kernel
theorem dX10_areBelieved_10 : decode cX10_areBelieved 10 = .ok (.getfield 15, 3) := by decide +kernel
theorem dX10_areBelieved_13 : decode cX10_areBelieved 13 = .ok (.iload_n 2, 1) := by decide +kernel
theorem dX10_areBelieved_14 : decode cX10_areBelieved 14 = .ok (.aaload, 1) := by decide +kernel
theorem dX10_areBelieved_15 : decode cX10_areBelieved 15 = .ok (.putfield 21, 3) := by decide +kernel
theorem dX10_areBelieved_18 : decode cX10_areBelieved 18 = .ok (.aload_n 0, 1) := by decide +kernel
theorem dX10_areBelieved_19 : decode cX10_areBelieved 19 = .ok (.aload_n 0, 1) := by decide +kernel
theorem dX10_areBelieved_20 : decode cX10_areBelieved 20 = .ok (.getfield 9, 3) := by decide +kernel
theorem dX10_areBelieved_23 : decode cX10_areBelieved 23 = .ok (.getfield 15, 3) := by decide +kernel
theorem dX10_areBelieved_26 : decode cX10_areBelieved 26 = .ok (.iload_n 3, 1) := by decide +kernel
theorem dX10_areBelieved_27 : decode cX10_areBelieved 27 = .ok (.aaload, 1) := by decide +kernel
theorem dX10_areBelieved_28 : decode cX10_areBelieved 28 = .ok (.putfield 25, 3) := by decide +kernel
theorem dX10_areBelieved_31 : decode cX10_areBelieved 31 = .ok (.aload_n 0, 1) := by decide +kernel
theorem dX10_areBelieved_32 : decode cX10_areBelieved 32 = .ok (.aload_n 0, 1) := by decide +kernel
theorem dX10_areBelieved_33 : decode cX10_areBelieved 33 = .ok (.getfield 21, 3) := by decide +kernel
theorem dX10_areBelieved_36 : decode cX10_areBelieved 36 = .ok (.getfield 36, 3) := by decide +kernel
theorem dX10_areBelieved_39 : decode cX10_areBelieved 39 = .ok (.iconst 2, 1) := by decide +kernel
theorem dX10_areBelieved_40 : decode cX10_areBelieved 40 = .ok (.if_icmp .ne 12, 3) := by decide +kernel
theorem dX10_areBelieved_43 : decode cX10_areBelieved 43 = .ok (.iload 4, 2) := by decide +kernel
theorem dX10_areBelieved_45 : decode cX10_areBelieved 45 = .ok (.iconst 4, 1) := by decide +kernel
theorem dX10_areBelieved_46 : decode cX10_areBelieved 46 = .ok (.imul, 1) := by decide +kernel
theorem dX10_areBelieved_47 : decode cX10_areBelieved 47 = .ok (.iconst 3, 1) := by decide +kernel
theorem dX10_areBelieved_48 : decode cX10_areBelieved 48 = .ok (.imul, 1) := by decide +kernel
theorem dX10_areBelieved_49 : decode cX10_areBelieved 49 = .ok (.goto 7, 3) := by decide +kernel
theorem dX10_areBelieved_52 : decode cX10_areBelieved 52 = .ok (.iload 4, 2) := by decide +kernel
theorem dX10_areBelieved_54 : decode cX10_areBelieved 54 = .ok (.iconst 3, 1) := by decide +kernel
theorem dX10_areBelieved_55 : decode cX10_areBelieved 55 = .ok (.imul, 1) := by decide +kernel
theorem dX10_areBelieved_56 : decode cX10_areBelieved 56 = .ok (.putfield 42, 3) := by decide +kernel
theorem dX10_areBelieved_59 : decode cX10_areBelieved 59 = .ok (.iconst 0, 1) := by decide +kernel
theorem dX10_areBelieved_60 : decode cX10_areBelieved 60 = .ok (.istore 5, 2) := by decide +kernel
theorem dX10_areBelieved_62 : decode cX10_areBelieved 62 = .ok (.iconst 0, 1) := by decide +kernel
theorem dX10_areBelieved_63 : decode cX10_areBelieved 63 = .ok (.istore 6, 2) := by decide +kernel
theorem dX10_areBelieved_65 : decode cX10_areBelieved 65 = .ok (.iload 6, 2) := by decide +kernel
theorem dX10_areBelieved_67 : decode cX10_areBelieved 67 = .ok (.aload_n 0, 1) := by decide +kernel
theorem dX10_areBelieved_68 : decode cX10_areBelieved 68 = .ok (.getfield 21, 3) := by decide +kernel
theorem dX10_areBelieved_71 : decode cX10_areBelieved 71 = .ok (.getfield 36, 3) := by decide +kernel
theorem dX10_areBelieved_74 : decode cX10_areBelieved 74 = .ok (.if_icmp .ge 29, 3) := by decide +kernel
theorem dX10_areBelieved_77 : decode cX10_areBelieved 77 = .ok (.iload 5, 2) := by decide +kernel
theorem dX10_areBelieved_79 : decode cX10_areBelieved 79 = .ok (.getstatic 45, 3) := by decide +kernel
theorem dX10_areBelieved_82 : decode cX10_areBelieved 82 = .ok (.aload_n 0, 1) := by decide +kernel
theorem dX10_areBelieved_83 : decode cX10_areBelieved 83 = .ok (.getfield 42, 3) := by decide +kernel
theorem dX10_areBelieved_86 : decode cX10_areBelieved 86 = .ok (.iload 6, 2) := by decide +kernel
theorem dX10_areBelieved_88 : decode cX10_areBelieved 88 = .ok (.iadd, 1) := by decide +kernel
theorem dX10_areBelieved_89 : decode cX10_areBelieved 89 = .ok (.iaload, 1) := by decide +kernel
theorem dX10_areBelieved_90 : decode cX10_areBelieved 90 = .ok (.iconst 1, 1) := by decide +kernel
theorem dX10_areBelieved_91 : decode cX10_areBelieved 91 = .ok (.iadd, 1) := by decide +kernel
theorem dX10_areBelieved_92 : decode cX10_areBelieved 92 = .ok (.invokestatic 48, 3) := by decide +kernel
theorem dX10_areBelieved_95 : decode cX10_areBelieved 95 = .ok (.istore 5, 2) := by decide +kernel
theorem dX10_areBelieved_97 : decode cX10_areBelieved 97 = .ok (.iinc 6 1, 3) := by decide +kernel
theorem dX10_areBelieved_100 : decode cX10_areBelieved 100 = .ok (.goto (-35), 3) := by decide +kernel
theorem dX10_areBelieved_103 : decode cX10_areBelieved 103 = .ok (.iconst 0, 1) := by decide +kernel
theorem dX10_areBelieved_104 : decode cX10_areBelieved 104 = .ok (.istore 6, 2) := by decide +kernel
theorem dX10_areBelieved_106 : decode cX10_areBelieved 106 = .ok (.iload 6, 2) := by decide +kernel
theorem dX10_areBelieved_108 : decode cX10_areBelieved 108 = .ok (.iload 5, 2) := by decide +kernel
theorem dX10_areBelieved_110 : decode cX10_areBelieved 110 = .ok (.if_icmp .ge 15, 3) := by decide +kernel
theorem dX10_areBelieved_113 : decode cX10_areBelieved 113 = .ok (.aload_n 0, 1) := by decide +kernel
theorem dX10_areBelieved_114 : decode cX10_areBelieved 114 = .ok (.iload 6, 2) := by decide +kernel
theorem dX10_areBelieved_116 : decode cX10_areBelieved 116 = .ok (.invokevirtual 54, 3) := by decide +kernel
theorem dX10_areBelieved_119 : decode cX10_areBelieved 119 = .ok (.iinc 6 1, 3) := by decide +kernel
theorem dX10_areBelieved_122 : decode cX10_areBelieved 122 = .ok (.goto (-16), 3) := by decide +kernel
theorem dX10_areBelieved_125 : decode cX10_areBelieved 125 = .ok (.iconst 0, 1) := by decide +kernel
theorem dX10_areBelieved_126 : decode cX10_areBelieved 126 = .ok (.istore 6, 2) := by decide +kernel
theorem dX10_areBelieved_128 : decode cX10_areBelieved 128 = .ok (.iload 6, 2) := by decide +kernel
theorem dX10_areBelieved_130 : decode cX10_areBelieved 130 = .ok (.aload_n 0, 1) := by decide +kernel
theorem dX10_areBelieved_131 : decode cX10_areBelieved 131 = .ok (.getfield 21, 3) := by decide +kernel
theorem dX10_areBelieved_134 : decode cX10_areBelieved 134 = .ok (.getfield 36, 3) := by decide +kernel
theorem dX10_areBelieved_137 : decode cX10_areBelieved 137 = .ok (.if_icmp .ge 22, 3) := by decide +kernel
theorem dX10_areBelieved_140 : decode cX10_areBelieved 140 = .ok (.aload_n 0, 1) := by decide +kernel
theorem dX10_areBelieved_141 : decode cX10_areBelieved 141 = .ok (.iload 6, 2) := by decide +kernel
theorem dX10_areBelieved_143 : decode cX10_areBelieved 143 = .ok (.iload 5, 2) := by decide +kernel
theorem dX10_areBelieved_145 : decode cX10_areBelieved 145 = .ok (.invokevirtual 58, 3) := by decide +kernel
theorem dX10_areBelieved_148 : decode cX10_areBelieved 148 = .ok (.ifCond .eq 5, 3) := by decide +kernel
theorem dX10_areBelieved_151 : decode cX10_areBelieved 151 = .ok (.iconst 0, 1) := by decide +kernel
theorem dX10_areBelieved_152 : decode cX10_areBelieved 152 = .ok (.ireturn, 1) := by decide +kernel
theorem dX10_areBelieved_153 : decode cX10_areBelieved 153 = .ok (.iinc 6 1, 3) := by decide +kernel
theorem dX10_areBelieved_156 : decode cX10_areBelieved 156 = .ok (.goto (-28), 3) := by decide +kernel
theorem dX10_areBelieved_159 : decode cX10_areBelieved 159 = .ok (.iconst 1, 1) := by decide +kernel
theorem dX10_areBelieved_160 : decode cX10_areBelieved 160 = .ok (.ireturn, 1) := by decide +kernel
theorem dX10_hearWord_0 : decode cX10_hearWord 0 = .ok (.iconst 0, 1) := by decide +kernel
theorem dX10_hearWord_1 : decode cX10_hearWord 1 = .ok (.istore_n 2, 1) := by decide +kernel
theorem dX10_hearWord_2 : decode cX10_hearWord 2 = .ok (.iload_n 2, 1) := by decide +kernel
theorem dX10_hearWord_3 : decode cX10_hearWord 3 = .ok (.aload_n 0, 1) := by decide +kernel
theorem dX10_hearWord_4 : decode cX10_hearWord 4 = .ok (.getfield 25, 3) := by decide +kernel
theorem dX10_hearWord_7 : decode cX10_hearWord 7 = .ok (.getfield 36, 3) := by decide +kernel
theorem dX10_hearWord_10 : decode cX10_hearWord 10 = .ok (.if_icmp .ge 93, 3) := by decide +kernel
theorem dX10_hearWord_13 : decode cX10_hearWord 13 = .ok (.iconst 0, 1) := by decide +kernel
theorem dX10_hearWord_14 : decode cX10_hearWord 14 = .ok (.istore_n 3, 1) := by decide +kernel
theorem dX10_hearWord_15 : decode cX10_hearWord 15 = .ok (.iload_n 3, 1) := by decide +kernel
theorem dX10_hearWord_16 : decode cX10_hearWord 16 = .ok (.iconst 3, 1) := by decide +kernel
theorem dX10_hearWord_17 : decode cX10_hearWord 17 = .ok (.if_icmp .ge 48, 3) := by decide +kernel
theorem dX10_hearWord_20 : decode cX10_hearWord 20 = .ok (.aload_n 0, 1) := by decide +kernel
theorem dX10_hearWord_21 : decode cX10_hearWord 21 = .ok (.getfield 28, 3) := by decide +kernel
theorem dX10_hearWord_24 : decode cX10_hearWord 24 = .ok (.iload_n 3, 1) := by decide +kernel
theorem dX10_hearWord_25 : decode cX10_hearWord 25 = .ok (.aload_n 0, 1) := by decide +kernel
theorem dX10_hearWord_26 : decode cX10_hearWord 26 = .ok (.getfield 9, 3) := by decide +kernel
theorem dX10_hearWord_29 : decode cX10_hearWord 29 = .ok (.getfield 62, 3) := by decide +kernel
theorem dX10_hearWord_32 : decode cX10_hearWord 32 = .ok (.iload_n 3, 1) := by decide +kernel
theorem dX10_hearWord_33 : decode cX10_hearWord 33 = .ok (.iaload, 1) := by decide +kernel
theorem dX10_hearWord_34 : decode cX10_hearWord 34 = .ok (.i2l, 1) := by decide +kernel
theorem dX10_hearWord_35 : decode cX10_hearWord 35 = .ok (.aload_n 0, 1) := by decide +kernel
theorem dX10_hearWord_36 : decode cX10_hearWord 36 = .ok (.iload_n 1, 1) := by decide +kernel
theorem dX10_hearWord_37 : decode cX10_hearWord 37 = .ok (.iload_n 3, 1) := by decide +kernel
theorem dX10_hearWord_38 : decode cX10_hearWord 38 = .ok (.invokevirtual 65, 3) := by decide +kernel
theorem dX10_hearWord_41 : decode cX10_hearWord 41 = .ok (.i2l, 1) := by decide +kernel
theorem dX10_hearWord_42 : decode cX10_hearWord 42 = .ok (.lmul, 1) := by decide +kernel
theorem dX10_hearWord_43 : decode cX10_hearWord 43 = .ok (.aload_n 0, 1) := by decide +kernel
theorem dX10_hearWord_44 : decode cX10_hearWord 44 = .ok (.getfield 25, 3) := by decide +kernel
theorem dX10_hearWord_47 : decode cX10_hearWord 47 = .ok (.getfield 68, 3) := by decide +kernel
theorem dX10_hearWord_50 : decode cX10_hearWord 50 = .ok (.iload_n 3, 1) := by decide +kernel
theorem dX10_hearWord_51 : decode cX10_hearWord 51 = .ok (.iconst 3, 1) := by decide +kernel
theorem dX10_hearWord_52 : decode cX10_hearWord 52 = .ok (.imul, 1) := by decide +kernel
theorem dX10_hearWord_53 : decode cX10_hearWord 53 = .ok (.iload_n 2, 1) := by decide +kernel
theorem dX10_hearWord_54 : decode cX10_hearWord 54 = .ok (.iadd, 1) := by decide +kernel
theorem dX10_hearWord_55 : decode cX10_hearWord 55 = .ok (.iaload, 1) := by decide +kernel
theorem dX10_hearWord_56 : decode cX10_hearWord 56 = .ok (.i2l, 1) := by decide +kernel
theorem dX10_hearWord_57 : decode cX10_hearWord 57 = .ok (.lmul, 1) := by decide +kernel
theorem dX10_hearWord_58 : decode cX10_hearWord 58 = .ok (.lastore, 1) := by decide +kernel
theorem dX10_hearWord_59 : decode cX10_hearWord 59 = .ok (.iinc 3 1, 3) := by decide +kernel
theorem dX10_hearWord_62 : decode cX10_hearWord 62 = .ok (.goto (-47), 3) := by decide +kernel
theorem dX10_hearWord_65 : decode cX10_hearWord 65 = .ok (.aload_n 0, 1) := by decide +kernel
theorem dX10_hearWord_66 : decode cX10_hearWord 66 = .ok (.getfield 32, 3) := by decide +kernel
theorem dX10_hearWord_69 : decode cX10_hearWord 69 = .ok (.iload_n 1, 1) := by decide +kernel
theorem dX10_hearWord_70 : decode cX10_hearWord 70 = .ok (.iconst 3, 1) := by decide +kernel
theorem dX10_hearWord_71 : decode cX10_hearWord 71 = .ok (.imul, 1) := by decide +kernel
theorem dX10_hearWord_72 : decode cX10_hearWord 72 = .ok (.iload_n 2, 1) := by decide +kernel
theorem dX10_hearWord_73 : decode cX10_hearWord 73 = .ok (.iadd, 1) := by decide +kernel
theorem dX10_hearWord_74 : decode cX10_hearWord 74 = .ok (.aload_n 0, 1) := by decide +kernel
theorem dX10_hearWord_75 : decode cX10_hearWord 75 = .ok (.getfield 25, 3) := by decide +kernel
theorem dX10_hearWord_78 : decode cX10_hearWord 78 = .ok (.getfield 71, 3) := by decide +kernel
theorem dX10_hearWord_81 : decode cX10_hearWord 81 = .ok (.aload_n 0, 1) := by decide +kernel
theorem dX10_hearWord_82 : decode cX10_hearWord 82 = .ok (.getfield 9, 3) := by decide +kernel
theorem dX10_hearWord_85 : decode cX10_hearWord 85 = .ok (.getfield 75, 3) := by decide +kernel
theorem dX10_hearWord_88 : decode cX10_hearWord 88 = .ok (.aload_n 0, 1) := by decide +kernel
theorem dX10_hearWord_89 : decode cX10_hearWord 89 = .ok (.getfield 28, 3) := by decide +kernel
theorem dX10_hearWord_92 : decode cX10_hearWord 92 = .ok (.iconst 0, 1) := by decide +kernel
theorem dX10_hearWord_93 : decode cX10_hearWord 93 = .ok (.invokevirtual 78, 3) := by decide +kernel
theorem dX10_hearWord_96 : decode cX10_hearWord 96 = .ok (.iastore, 1) := by decide +kernel
theorem dX10_hearWord_97 : decode cX10_hearWord 97 = .ok (.iinc 2 1, 3) := by decide +kernel
theorem dX10_hearWord_100 : decode cX10_hearWord 100 = .ok (.goto (-98), 3) := by decide +kernel
theorem dX10_hearWord_103 : decode cX10_hearWord 103 = .ok (.return_, 1) := by decide +kernel
theorem dX10_init_0 : decode cX10_init 0 = .ok (.aload_n 0, 1) := by decide +kernel
theorem dX10_init_1 : decode cX10_init 1 = .ok (.invokespecial 3, 3) := by decide +kernel
theorem dX10_init_4 : decode cX10_init 4 = .ok (.aload_n 0, 1) := by decide +kernel
theorem dX10_init_5 : decode cX10_init 5 = .ok (.aload_n 1, 1) := by decide +kernel
theorem dX10_init_6 : decode cX10_init 6 = .ok (.putfield 9, 3) := by decide +kernel
theorem dX10_init_9 : decode cX10_init 9 = .ok (.aload_n 0, 1) := by decide +kernel
theorem dX10_init_10 : decode cX10_init 10 = .ok (.aload_n 0, 1) := by decide +kernel
theorem dX10_init_11 : decode cX10_init 11 = .ok (.getfield 9, 3) := by decide +kernel
theorem dX10_init_14 : decode cX10_init 14 = .ok (.getfield 15, 3) := by decide +kernel
theorem dX10_init_17 : decode cX10_init 17 = .ok (.iconst 0, 1) := by decide +kernel
theorem dX10_init_18 : decode cX10_init 18 = .ok (.aaload, 1) := by decide +kernel
theorem dX10_init_19 : decode cX10_init 19 = .ok (.putfield 21, 3) := by decide +kernel
theorem dX10_init_22 : decode cX10_init 22 = .ok (.aload_n 0, 1) := by decide +kernel
theorem dX10_init_23 : decode cX10_init 23 = .ok (.aload_n 0, 1) := by decide +kernel
theorem dX10_init_24 : decode cX10_init 24 = .ok (.getfield 9, 3) := by decide +kernel
theorem dX10_init_27 : decode cX10_init 27 = .ok (.getfield 15, 3) := by decide +kernel
theorem dX10_init_30 : decode cX10_init 30 = .ok (.iconst 1, 1) := by decide +kernel
theorem dX10_init_31 : decode cX10_init 31 = .ok (.aaload, 1) := by decide +kernel
theorem dX10_init_32 : decode cX10_init 32 = .ok (.putfield 25, 3) := by decide +kernel
theorem dX10_init_35 : decode cX10_init 35 = .ok (.aload_n 0, 1) := by decide +kernel
theorem dX10_init_36 : decode cX10_init 36 = .ok (.iconst 3, 1) := by decide +kernel
theorem dX10_init_37 : decode cX10_init 37 = .ok (.newarray .long, 2) := by decide +kernel
theorem dX10_init_39 : decode cX10_init 39 = .ok (.putfield 28, 3) := by decide +kernel
theorem dX10_init_42 : decode cX10_init 42 = .ok (.aload_n 0, 1) := by decide +kernel
theorem dX10_init_43 : decode cX10_init 43 = .ok (.bipush 9, 2) := by decide +kernel
theorem dX10_init_45 : decode cX10_init 45 = .ok (.newarray .int, 2) := by decide +kernel
theorem dX10_init_47 : decode cX10_init 47 = .ok (.putfield 32, 3) := by decide +kernel
theorem dX10_init_50 : decode cX10_init 50 = .ok (.return_, 1) := by decide +kernel
theorem dX10_lastPart_0 : decode cX10_lastPart 0 = .ok (.iload_n 0, 1) := by decide +kernel
theorem dX10_lastPart_1 : decode cX10_lastPart 1 = .ok (.iconst 2, 1) := by decide +kernel
theorem dX10_lastPart_2 : decode cX10_lastPart 2 = .ok (.if_icmp .ne 7, 3) := by decide +kernel
theorem dX10_lastPart_5 : decode cX10_lastPart 5 = .ok (.iconst 1, 1) := by decide +kernel
theorem dX10_lastPart_6 : decode cX10_lastPart 6 = .ok (.goto 4, 3) := by decide +kernel
theorem dX10_lastPart_9 : decode cX10_lastPart 9 = .ok (.iconst 4, 1) := by decide +kernel
theorem dX10_lastPart_10 : decode cX10_lastPart 10 = .ok (.ireturn, 1) := by decide +kernel
theorem dX10_liesWith_0 : decode cX10_liesWith 0 = .ok (.aload_n 0, 1) := by decide +kernel
theorem dX10_liesWith_1 : decode cX10_liesWith 1 = .ok (.iload_n 1, 1) := by decide +kernel
theorem dX10_liesWith_2 : decode cX10_liesWith 2 = .ok (.getstatic 45, 3) := by decide +kernel
theorem dX10_liesWith_5 : decode cX10_liesWith 5 = .ok (.aload_n 0, 1) := by decide +kernel
theorem dX10_liesWith_6 : decode cX10_liesWith 6 = .ok (.getfield 42, 3) := by decide +kernel
theorem dX10_liesWith_9 : decode cX10_liesWith 9 = .ok (.iload_n 1, 1) := by decide +kernel
theorem dX10_liesWith_10 : decode cX10_liesWith 10 = .ok (.iadd, 1) := by decide +kernel
theorem dX10_liesWith_11 : decode cX10_liesWith 11 = .ok (.iaload, 1) := by decide +kernel
theorem dX10_liesWith_12 : decode cX10_liesWith 12 = .ok (.invokevirtual 84, 3) := by decide +kernel
theorem dX10_liesWith_15 : decode cX10_liesWith 15 = .ok (.lstore_n 3, 1) := by decide +kernel
theorem dX10_liesWith_16 : decode cX10_liesWith 16 = .ok (.iconst 0, 1) := by decide +kernel
theorem dX10_liesWith_17 : decode cX10_liesWith 17 = .ok (.istore 5, 2) := by decide +kernel
theorem dX10_liesWith_19 : decode cX10_liesWith 19 = .ok (.iload 5, 2) := by decide +kernel
theorem dX10_liesWith_21 : decode cX10_liesWith 21 = .ok (.iload_n 2, 1) := by decide +kernel
theorem dX10_liesWith_22 : decode cX10_liesWith 22 = .ok (.if_icmp .ge 23, 3) := by decide +kernel
theorem dX10_liesWith_25 : decode cX10_liesWith 25 = .ok (.aload_n 0, 1) := by decide +kernel
theorem dX10_liesWith_26 : decode cX10_liesWith 26 = .ok (.iload_n 1, 1) := by decide +kernel
theorem dX10_liesWith_27 : decode cX10_liesWith 27 = .ok (.iload 5, 2) := by decide +kernel
theorem dX10_liesWith_29 : decode cX10_liesWith 29 = .ok (.invokevirtual 84, 3) := by decide +kernel
theorem dX10_liesWith_32 : decode cX10_liesWith 32 = .ok (.lload_n 3, 1) := by decide +kernel
theorem dX10_liesWith_33 : decode cX10_liesWith 33 = .ok (.lcmp, 1) := by decide +kernel
theorem dX10_liesWith_34 : decode cX10_liesWith 34 = .ok (.ifCond .ge 5, 3) := by decide +kernel
theorem dX10_liesWith_37 : decode cX10_liesWith 37 = .ok (.iconst 1, 1) := by decide +kernel
theorem dX10_liesWith_38 : decode cX10_liesWith 38 = .ok (.ireturn, 1) := by decide +kernel
theorem dX10_liesWith_39 : decode cX10_liesWith 39 = .ok (.iinc 5 1, 3) := by decide +kernel
theorem dX10_liesWith_42 : decode cX10_liesWith 42 = .ok (.goto (-23), 3) := by decide +kernel
theorem dX10_liesWith_45 : decode cX10_liesWith 45 = .ok (.iconst 0, 1) := by decide +kernel
theorem dX10_liesWith_46 : decode cX10_liesWith 46 = .ok (.ireturn, 1) := by decide +kernel
theorem dX10_likelyWord_0 : decode cX10_likelyWord 0 = .ok (.iconst 0, 1) := by decide +kernel
theorem dX10_likelyWord_1 : decode cX10_likelyWord 1 = .ok (.istore_n 3, 1) := by decide +kernel
theorem dX10_likelyWord_2 : decode cX10_likelyWord 2 = .ok (.iconst 0, 1) := by decide +kernel
theorem dX10_likelyWord_3 : decode cX10_likelyWord 3 = .ok (.istore 4, 2) := by decide +kernel
theorem dX10_likelyWord_5 : decode cX10_likelyWord 5 = .ok (.iload 4, 2) := by decide +kernel
theorem dX10_likelyWord_7 : decode cX10_likelyWord 7 = .ok (.aload_n 0, 1) := by decide +kernel
theorem dX10_likelyWord_8 : decode cX10_likelyWord 8 = .ok (.getfield 21, 3) := by decide +kernel
theorem dX10_likelyWord_11 : decode cX10_likelyWord 11 = .ok (.getfield 36, 3) := by decide +kernel
theorem dX10_likelyWord_14 : decode cX10_likelyWord 14 = .ok (.if_icmp .ge 45, 3) := by decide +kernel
theorem dX10_likelyWord_17 : decode cX10_likelyWord 17 = .ok (.iload_n 3, 1) := by decide +kernel
theorem dX10_likelyWord_18 : decode cX10_likelyWord 18 = .ok (.getstatic 45, 3) := by decide +kernel
theorem dX10_likelyWord_21 : decode cX10_likelyWord 21 = .ok (.aload_n 0, 1) := by decide +kernel
theorem dX10_likelyWord_22 : decode cX10_likelyWord 22 = .ok (.getfield 42, 3) := by decide +kernel
theorem dX10_likelyWord_25 : decode cX10_likelyWord 25 = .ok (.iload 4, 2) := by decide +kernel
theorem dX10_likelyWord_27 : decode cX10_likelyWord 27 = .ok (.iadd, 1) := by decide +kernel
theorem dX10_likelyWord_28 : decode cX10_likelyWord 28 = .ok (.iaload, 1) := by decide +kernel
theorem dX10_likelyWord_29 : decode cX10_likelyWord 29 = .ok (.iload_n 1, 1) := by decide +kernel
theorem dX10_likelyWord_30 : decode cX10_likelyWord 30 = .ok (.if_icmp .ne 20, 3) := by decide +kernel
theorem dX10_likelyWord_33 : decode cX10_likelyWord 33 = .ok (.aload_n 0, 1) := by decide +kernel
theorem dX10_likelyWord_34 : decode cX10_likelyWord 34 = .ok (.getfield 21, 3) := by decide +kernel
theorem dX10_likelyWord_37 : decode cX10_likelyWord 37 = .ok (.getfield 68, 3) := by decide +kernel
theorem dX10_likelyWord_40 : decode cX10_likelyWord 40 = .ok (.iload_n 2, 1) := by decide +kernel
theorem dX10_likelyWord_41 : decode cX10_likelyWord 41 = .ok (.iconst 3, 1) := by decide +kernel
theorem dX10_likelyWord_42 : decode cX10_likelyWord 42 = .ok (.imul, 1) := by decide +kernel
theorem dX10_likelyWord_43 : decode cX10_likelyWord 43 = .ok (.iload 4, 2) := by decide +kernel
theorem dX10_likelyWord_45 : decode cX10_likelyWord 45 = .ok (.iadd, 1) := by decide +kernel
theorem dX10_likelyWord_46 : decode cX10_likelyWord 46 = .ok (.iaload, 1) := by decide +kernel
theorem dX10_likelyWord_47 : decode cX10_likelyWord 47 = .ok (.goto 4, 3) := by decide +kernel
theorem dX10_likelyWord_50 : decode cX10_likelyWord 50 = .ok (.iconst 0, 1) := by decide +kernel
theorem dX10_likelyWord_51 : decode cX10_likelyWord 51 = .ok (.iadd, 1) := by decide +kernel
theorem dX10_likelyWord_52 : decode cX10_likelyWord 52 = .ok (.istore_n 3, 1) := by decide +kernel
theorem dX10_likelyWord_53 : decode cX10_likelyWord 53 = .ok (.iinc 4 1, 3) := by decide +kernel
theorem dX10_likelyWord_56 : decode cX10_likelyWord 56 = .ok (.goto (-51), 3) := by decide +kernel
theorem dX10_likelyWord_59 : decode cX10_likelyWord 59 = .ok (.iload_n 3, 1) := by decide +kernel
theorem dX10_likelyWord_60 : decode cX10_likelyWord 60 = .ok (.ireturn, 1) := by decide +kernel
theorem dX10_lostBy_0 : decode cX10_lostBy 0 = .ok (.lconst 0, 1) := by decide +kernel
theorem dX10_lostBy_1 : decode cX10_lostBy 1 = .ok (.lstore_n 3, 1) := by decide +kernel
theorem dX10_lostBy_2 : decode cX10_lostBy 2 = .ok (.iconst 0, 1) := by decide +kernel
theorem dX10_lostBy_3 : decode cX10_lostBy 3 = .ok (.istore 5, 2) := by decide +kernel
theorem dX10_lostBy_5 : decode cX10_lostBy 5 = .ok (.iload 5, 2) := by decide +kernel
theorem dX10_lostBy_7 : decode cX10_lostBy 7 = .ok (.aload_n 0, 1) := by decide +kernel
theorem dX10_lostBy_8 : decode cX10_lostBy 8 = .ok (.getfield 25, 3) := by decide +kernel
theorem dX10_lostBy_11 : decode cX10_lostBy 11 = .ok (.getfield 36, 3) := by decide +kernel
theorem dX10_lostBy_14 : decode cX10_lostBy 14 = .ok (.if_icmp .ge 107, 3) := by decide +kernel
theorem dX10_lostBy_17 : decode cX10_lostBy 17 = .ok (.iconst 0, 1) := by decide +kernel
theorem dX10_lostBy_18 : decode cX10_lostBy 18 = .ok (.istore 6, 2) := by decide +kernel
theorem dX10_lostBy_20 : decode cX10_lostBy 20 = .ok (.iload 6, 2) := by decide +kernel
theorem dX10_lostBy_22 : decode cX10_lostBy 22 = .ok (.iconst 3, 1) := by decide +kernel
theorem dX10_lostBy_23 : decode cX10_lostBy 23 = .ok (.if_icmp .ge 63, 3) := by decide +kernel
theorem dX10_lostBy_26 : decode cX10_lostBy 26 = .ok (.aload_n 0, 1) := by decide +kernel
theorem dX10_lostBy_27 : decode cX10_lostBy 27 = .ok (.getfield 21, 3) := by decide +kernel
theorem dX10_lostBy_30 : decode cX10_lostBy 30 = .ok (.getfield 68, 3) := by decide +kernel
theorem dX10_lostBy_33 : decode cX10_lostBy 33 = .ok (.iload 6, 2) := by decide +kernel
theorem dX10_lostBy_35 : decode cX10_lostBy 35 = .ok (.iconst 3, 1) := by decide +kernel
theorem dX10_lostBy_36 : decode cX10_lostBy 36 = .ok (.imul, 1) := by decide +kernel
theorem dX10_lostBy_37 : decode cX10_lostBy 37 = .ok (.iload_n 1, 1) := by decide +kernel
theorem dX10_lostBy_38 : decode cX10_lostBy 38 = .ok (.iadd, 1) := by decide +kernel
theorem dX10_lostBy_39 : decode cX10_lostBy 39 = .ok (.iaload, 1) := by decide +kernel
theorem dX10_lostBy_40 : decode cX10_lostBy 40 = .ok (.aload_n 0, 1) := by decide +kernel
theorem dX10_lostBy_41 : decode cX10_lostBy 41 = .ok (.getfield 25, 3) := by decide +kernel
theorem dX10_lostBy_44 : decode cX10_lostBy 44 = .ok (.getfield 68, 3) := by decide +kernel
theorem dX10_lostBy_47 : decode cX10_lostBy 47 = .ok (.iload 6, 2) := by decide +kernel
theorem dX10_lostBy_49 : decode cX10_lostBy 49 = .ok (.iconst 3, 1) := by decide +kernel
theorem dX10_lostBy_50 : decode cX10_lostBy 50 = .ok (.imul, 1) := by decide +kernel
theorem dX10_lostBy_51 : decode cX10_lostBy 51 = .ok (.iload 5, 2) := by decide +kernel
theorem dX10_lostBy_53 : decode cX10_lostBy 53 = .ok (.iadd, 1) := by decide +kernel
theorem dX10_lostBy_54 : decode cX10_lostBy 54 = .ok (.iaload, 1) := by decide +kernel
theorem dX10_lostBy_55 : decode cX10_lostBy 55 = .ok (.imul, 1) := by decide +kernel
theorem dX10_lostBy_56 : decode cX10_lostBy 56 = .ok (.istore 7, 2) := by decide +kernel
theorem dX10_lostBy_58 : decode cX10_lostBy 58 = .ok (.aload_n 0, 1) := by decide +kernel
theorem dX10_lostBy_59 : decode cX10_lostBy 59 = .ok (.getfield 28, 3) := by decide +kernel
theorem dX10_lostBy_62 : decode cX10_lostBy 62 = .ok (.iload 6, 2) := by decide +kernel
theorem dX10_lostBy_64 : decode cX10_lostBy 64 = .ok (.aload_n 0, 1) := by decide +kernel
theorem dX10_lostBy_65 : decode cX10_lostBy 65 = .ok (.getfield 9, 3) := by decide +kernel
theorem dX10_lostBy_68 : decode cX10_lostBy 68 = .ok (.getfield 62, 3) := by decide +kernel
theorem dX10_lostBy_71 : decode cX10_lostBy 71 = .ok (.iload 6, 2) := by decide +kernel
theorem dX10_lostBy_73 : decode cX10_lostBy 73 = .ok (.iaload, 1) := by decide +kernel
theorem dX10_lostBy_74 : decode cX10_lostBy 74 = .ok (.i2l, 1) := by decide +kernel
theorem dX10_lostBy_75 : decode cX10_lostBy 75 = .ok (.iload 7, 2) := by decide +kernel
theorem dX10_lostBy_77 : decode cX10_lostBy 77 = .ok (.i2l, 1) := by decide +kernel
theorem dX10_lostBy_78 : decode cX10_lostBy 78 = .ok (.lmul, 1) := by decide +kernel
theorem dX10_lostBy_79 : decode cX10_lostBy 79 = .ok (.lastore, 1) := by decide +kernel
theorem dX10_lostBy_80 : decode cX10_lostBy 80 = .ok (.iinc 6 1, 3) := by decide +kernel
theorem dX10_lostBy_83 : decode cX10_lostBy 83 = .ok (.goto (-63), 3) := by decide +kernel
theorem dX10_lostBy_86 : decode cX10_lostBy 86 = .ok (.lload_n 3, 1) := by decide +kernel
theorem dX10_lostBy_87 : decode cX10_lostBy 87 = .ok (.aload_n 0, 1) := by decide +kernel
theorem dX10_lostBy_88 : decode cX10_lostBy 88 = .ok (.getfield 21, 3) := by decide +kernel
theorem dX10_lostBy_91 : decode cX10_lostBy 91 = .ok (.getfield 71, 3) := by decide +kernel
theorem dX10_lostBy_94 : decode cX10_lostBy 94 = .ok (.aload_n 0, 1) := by decide +kernel
theorem dX10_lostBy_95 : decode cX10_lostBy 95 = .ok (.getfield 32, 3) := by decide +kernel
theorem dX10_lostBy_98 : decode cX10_lostBy 98 = .ok (.iload_n 2, 1) := by decide +kernel
theorem dX10_lostBy_99 : decode cX10_lostBy 99 = .ok (.iconst 3, 1) := by decide +kernel
theorem dX10_lostBy_100 : decode cX10_lostBy 100 = .ok (.imul, 1) := by decide +kernel
theorem dX10_lostBy_101 : decode cX10_lostBy 101 = .ok (.iload 5, 2) := by decide +kernel
theorem dX10_lostBy_103 : decode cX10_lostBy 103 = .ok (.iadd, 1) := by decide +kernel
theorem dX10_lostBy_104 : decode cX10_lostBy 104 = .ok (.iaload, 1) := by decide +kernel
theorem dX10_lostBy_105 : decode cX10_lostBy 105 = .ok (.aload_n 0, 1) := by decide +kernel
theorem dX10_lostBy_106 : decode cX10_lostBy 106 = .ok (.getfield 28, 3) := by decide +kernel
theorem dX10_lostBy_109 : decode cX10_lostBy 109 = .ok (.iconst 0, 1) := by decide +kernel
theorem dX10_lostBy_110 : decode cX10_lostBy 110 = .ok (.invokevirtual 88, 3) := by decide +kernel
theorem dX10_lostBy_113 : decode cX10_lostBy 113 = .ok (.ladd, 1) := by decide +kernel
theorem dX10_lostBy_114 : decode cX10_lostBy 114 = .ok (.lstore_n 3, 1) := by decide +kernel
theorem dX10_lostBy_115 : decode cX10_lostBy 115 = .ok (.iinc 5 1, 3) := by decide +kernel
theorem dX10_lostBy_118 : decode cX10_lostBy 118 = .ok (.goto (-113), 3) := by decide +kernel
theorem dX10_lostBy_121 : decode cX10_lostBy 121 = .ok (.lload_n 3, 1) := by decide +kernel
theorem dX10_lostBy_122 : decode cX10_lostBy 122 = .ok (.lreturn, 1) := by decide +kernel
theorem dX11_all_0 : decode cX11_all 0 = .ok (.aload_n 0, 1) := by decide +kernel
theorem dX11_all_1 : decode cX11_all 1 = .ok (.getfield 23, 3) := by decide +kernel
theorem dX11_all_4 : decode cX11_all 4 = .ok (.invokevirtual 156, 3) := by decide +kernel
theorem dX11_all_7 : decode cX11_all 7 = .ok (.ifCond .eq 5, 3) := by decide +kernel
theorem dX11_all_10 : decode cX11_all 10 = .ok (.lconst 0, 1) := by decide +kernel
theorem dX11_all_11 : decode cX11_all 11 = .ok (.lreturn, 1) := by decide +kernel
theorem dX11_all_12 : decode cX11_all 12 = .ok (.bipush 20, 2) := by decide +kernel
theorem dX11_all_14 : decode cX11_all 14 = .ok (.aload_n 0, 1) := by decide +kernel
theorem dX11_all_15 : decode cX11_all 15 = .ok (.getfield 23, 3) := by decide +kernel
theorem dX11_all_18 : decode cX11_all 18 = .ok (.getfield 120, 3) := by decide +kernel
theorem dX11_all_21 : decode cX11_all 21 = .ok (.iconst 1, 1) := by decide +kernel
theorem dX11_all_22 : decode cX11_all 22 = .ok (.iadd, 1) := by decide +kernel
theorem dX11_all_23 : decode cX11_all 23 = .ok (.invokestatic 160, 3) := by decide +kernel
theorem dX11_all_26 : decode cX11_all 26 = .ok (.lreturn, 1) := by decide +kernel
theorem dX11_bar_0 : decode cX11_bar 0 = .ok (.aload_n 0, 1) := by decide +kernel
theorem dX11_bar_1 : decode cX11_bar 1 = .ok (.getfield 23, 3) := by decide +kernel
theorem dX11_bar_4 : decode cX11_bar 4 = .ok (.iload_n 1, 1) := by decide +kernel
theorem dX11_bar_5 : decode cX11_bar 5 = .ok (.invokevirtual 138, 3) := by decide +kernel
theorem dX11_bar_8 : decode cX11_bar 8 = .ok (.ifCond .eq 19, 3) := by decide +kernel
theorem dX11_bar_11 : decode cX11_bar 11 = .ok (.aload_n 0, 1) := by decide +kernel
theorem dX11_bar_12 : decode cX11_bar 12 = .ok (.getfield 23, 3) := by decide +kernel
theorem dX11_bar_15 : decode cX11_bar 15 = .ok (.iload_n 2, 1) := by decide +kernel
theorem dX11_bar_16 : decode cX11_bar 16 = .ok (.invokevirtual 138, 3) := by decide +kernel
theorem dX11_bar_19 : decode cX11_bar 19 = .ok (.ifCond .eq 8, 3) := by decide +kernel
theorem dX11_bar_22 : decode cX11_bar 22 = .ok (.iload_n 1, 1) := by decide +kernel
theorem dX11_bar_23 : decode cX11_bar 23 = .ok (.iload_n 2, 1) := by decide +kernel
theorem dX11_bar_24 : decode cX11_bar 24 = .ok (.if_icmp .ne 5, 3) := by decide +kernel
theorem dX11_bar_27 : decode cX11_bar 27 = .ok (.iconst (-1), 1) := by decide +kernel
theorem dX11_bar_28 : decode cX11_bar 28 = .ok (.ireturn, 1) := by decide +kernel
theorem dX11_bar_29 : decode cX11_bar 29 = .ok (.aload_n 0, 1) := by decide +kernel
theorem dX11_bar_30 : decode cX11_bar 30 = .ok (.getfield 69, 3) := by decide +kernel
theorem dX11_bar_33 : decode cX11_bar 33 = .ok (.aload_n 0, 1) := by decide +kernel
theorem dX11_bar_34 : decode cX11_bar 34 = .ok (.getfield 23, 3) := by decide +kernel
theorem dX11_bar_37 : decode cX11_bar 37 = .ok (.iload_n 1, 1) := by decide +kernel
theorem dX11_bar_38 : decode cX11_bar 38 = .ok (.iload_n 2, 1) := by decide +kernel
theorem dX11_bar_39 : decode cX11_bar 39 = .ok (.invokevirtual 271, 3) := by decide +kernel
theorem dX11_bar_42 : decode cX11_bar 42 = .ok (.ireturn, 1) := by decide +kernel
theorem dX11_barLost_0 : decode cX11_barLost 0 = .ok (.aload_n 0, 1) := by decide +kernel
theorem dX11_barLost_1 : decode cX11_barLost 1 = .ok (.getfield 69, 3) := by decide +kernel
theorem dX11_barLost_4 : decode cX11_barLost 4 = .ok (.getfield 275, 3) := by decide +kernel
theorem dX11_barLost_7 : decode cX11_barLost 7 = .ok (.lreturn, 1) := by decide +kernel
theorem dX11_believed_0 : decode cX11_believed 0 = .ok (.aload_n 0, 1) := by decide +kernel
theorem dX11_believed_1 : decode cX11_believed 1 = .ok (.getfield 23, 3) := by decide +kernel
theorem dX11_believed_4 : decode cX11_believed 4 = .ok (.iload_n 1, 1) := by decide +kernel
theorem dX11_believed_5 : decode cX11_believed 5 = .ok (.invokevirtual 126, 3) := by decide +kernel
theorem dX11_believed_8 : decode cX11_believed 8 = .ok (.ifCond .eq 19, 3) := by decide +kernel
theorem dX11_believed_11 : decode cX11_believed 11 = .ok (.aload_n 0, 1) := by decide +kernel
theorem dX11_believed_12 : decode cX11_believed 12 = .ok (.getfield 23, 3) := by decide +kernel
theorem dX11_believed_15 : decode cX11_believed 15 = .ok (.iload_n 2, 1) := by decide +kernel
theorem dX11_believed_16 : decode cX11_believed 16 = .ok (.invokevirtual 126, 3) := by decide +kernel
theorem dX11_believed_19 : decode cX11_believed 19 = .ok (.ifCond .eq 8, 3) := by decide +kernel
theorem dX11_believed_22 : decode cX11_believed 22 = .ok (.iload_n 1, 1) := by decide +kernel
theorem dX11_believed_23 : decode cX11_believed 23 = .ok (.iload_n 2, 1) := by decide +kernel
theorem dX11_believed_24 : decode cX11_believed 24 = .ok (.if_icmp .ne 5, 3) := by decide +kernel
theorem dX11_believed_27 : decode cX11_believed 27 = .ok (.iconst (-1), 1) := by decide +kernel
theorem dX11_believed_28 : decode cX11_believed 28 = .ok (.ireturn, 1) := by decide +kernel
theorem dX11_believed_29 : decode cX11_believed 29 = .ok (.iload_n 3, 1) := by decide +kernel
theorem dX11_believed_30 : decode cX11_believed 30 = .ok (.ifCond .lt 22, 3) := by decide +kernel
theorem dX11_believed_33 : decode cX11_believed 33 = .ok (.iload_n 3, 1) := by decide +kernel
theorem dX11_believed_34 : decode cX11_believed 34 = .ok (.aload_n 0, 1) := by decide +kernel
theorem dX11_believed_35 : decode cX11_believed 35 = .ok (.getfield 23, 3) := by decide +kernel
theorem dX11_believed_38 : decode cX11_believed 38 = .ok (.getfield 129, 3) := by decide +kernel
theorem dX11_believed_41 : decode cX11_believed 41 = .ok (.iload_n 1, 1) := by decide +kernel
theorem dX11_believed_42 : decode cX11_believed 42 = .ok (.aaload, 1) := by decide +kernel
theorem dX11_believed_43 : decode cX11_believed 43 = .ok (.getfield 133, 3) := by decide +kernel
theorem dX11_believed_46 : decode cX11_believed 46 = .ok (.invokestatic 282, 3) := by decide +kernel
theorem dX11_believed_49 : decode cX11_believed 49 = .ok (.if_icmp .le 5, 3) := by decide +kernel
theorem dX11_believed_52 : decode cX11_believed 52 = .ok (.iconst (-1), 1) := by decide +kernel
theorem dX11_believed_53 : decode cX11_believed 53 = .ok (.ireturn, 1) := by decide +kernel
theorem dX11_believed_54 : decode cX11_believed 54 = .ok (.aload_n 0, 1) := by decide +kernel
theorem dX11_believed_55 : decode cX11_believed 55 = .ok (.getfield 76, 3) := by decide +kernel
theorem dX11_believed_58 : decode cX11_believed 58 = .ok (.aload_n 0, 1) := by decide +kernel
theorem dX11_believed_59 : decode cX11_believed 59 = .ok (.getfield 23, 3) := by decide +kernel
theorem dX11_believed_62 : decode cX11_believed 62 = .ok (.iload_n 1, 1) := by decide +kernel
theorem dX11_believed_63 : decode cX11_believed 63 = .ok (.iload_n 2, 1) := by decide +kernel
theorem dX11_believed_64 : decode cX11_believed 64 = .ok (.iload_n 3, 1) := by decide +kernel
theorem dX11_believed_65 : decode cX11_believed 65 = .ok (.invokevirtual 286, 3) := by decide +kernel
theorem dX11_believed_68 : decode cX11_believed 68 = .ok (.ifCond .eq 7, 3) := by decide +kernel
theorem dX11_believed_71 : decode cX11_believed 71 = .ok (.iconst 1, 1) := by decide +kernel
theorem dX11_believed_72 : decode cX11_believed 72 = .ok (.goto 4, 3) := by decide +kernel
theorem dX11_believed_75 : decode cX11_believed 75 = .ok (.iconst 0, 1) := by decide +kernel
theorem dX11_believed_76 : decode cX11_believed 76 = .ok (.ireturn, 1) := by decide +kernel
theorem dX11_bestOrder_0 : decode cX11_bestOrder 0 = .ok (.aload_n 0, 1) := by decide +kernel
theorem dX11_bestOrder_1 : decode cX11_bestOrder 1 = .ok (.getfield 23, 3) := by decide +kernel
theorem dX11_bestOrder_4 : decode cX11_bestOrder 4 = .ok (.invokevirtual 156, 3) := by decide +kernel
theorem dX11_bestOrder_7 : decode cX11_bestOrder 7 = .ok (.ifCond .ne 14, 3) := by decide +kernel
theorem dX11_bestOrder_10 : decode cX11_bestOrder 10 = .ok (.aload_n 0, 1) := by decide +kernel
theorem dX11_bestOrder_11 : decode cX11_bestOrder 11 = .ok (.getfield 23, 3) := by decide +kernel
theorem dX11_bestOrder_14 : decode cX11_bestOrder 14 = .ok (.getfield 120, 3) := by decide +kernel
theorem dX11_bestOrder_17 : decode cX11_bestOrder 17 = .ok (.iconst 5, 1) := by decide +kernel
theorem dX11_bestOrder_18 : decode cX11_bestOrder 18 = .ok (.if_icmp .le 5, 3) := by decide +kernel
theorem dX11_bestOrder_21 : decode cX11_bestOrder 21 = .ok (.iconst (-1), 1) := by decide +kernel
theorem dX11_bestOrder_22 : decode cX11_bestOrder 22 = .ok (.ireturn, 1) := by decide +kernel
theorem dX11_bestOrder_23 : decode cX11_bestOrder 23 = .ok (.aload_n 0, 1) := by decide +kernel
theorem dX11_bestOrder_24 : decode cX11_bestOrder 24 = .ok (.getfield 61, 3) := by decide +kernel
theorem dX11_bestOrder_27 : decode cX11_bestOrder 27 = .ok (.aload_n 0, 1) := by decide +kernel
theorem dX11_bestOrder_28 : decode cX11_bestOrder 28 = .ok (.getfield 23, 3) := by decide +kernel
theorem dX11_bestOrder_31 : decode cX11_bestOrder 31 = .ok (.invokevirtual 268, 3) := by decide +kernel
theorem dX11_bestOrder_34 : decode cX11_bestOrder 34 = .ok (.ireturn, 1) := by decide +kernel
theorem dX11_bestRule_0 : decode cX11_bestRule 0 = .ok (.aload_n 0, 1) := by decide +kernel
theorem dX11_bestRule_1 : decode cX11_bestRule 1 = .ok (.getfield 23, 3) := by decide +kernel
theorem dX11_bestRule_4 : decode cX11_bestRule 4 = .ok (.invokevirtual 156, 3) := by decide +kernel
theorem dX11_bestRule_7 : decode cX11_bestRule 7 = .ok (.ifCond .eq 11, 3) := by decide +kernel
theorem dX11_bestRule_10 : decode cX11_bestRule 10 = .ok (.new 145, 3) := by decide +kernel
theorem dX11_bestRule_13 : decode cX11_bestRule 13 = .ok (.dup, 1) := by decide +kernel
theorem dX11_bestRule_14 : decode cX11_bestRule 14 = .ok (.invokespecial 147, 3) := by decide +kernel
theorem dX11_bestRule_17 : decode cX11_bestRule 17 = .ok (.athrow, 1) := by decide +kernel
theorem dX11_bestRule_18 : decode cX11_bestRule 18 = .ok (.aload_n 0, 1) := by decide +kernel
theorem dX11_bestRule_19 : decode cX11_bestRule 19 = .ok (.getfield 41, 3) := by decide +kernel
theorem dX11_bestRule_22 : decode cX11_bestRule 22 = .ok (.aload_n 0, 1) := by decide +kernel
theorem dX11_bestRule_23 : decode cX11_bestRule 23 = .ok (.getfield 23, 3) := by decide +kernel
theorem dX11_bestRule_26 : decode cX11_bestRule 26 = .ok (.aload_n 0, 1) := by decide +kernel
theorem dX11_bestRule_27 : decode cX11_bestRule 27 = .ok (.getfield 23, 3) := by decide +kernel
theorem dX11_bestRule_30 : decode cX11_bestRule 30 = .ok (.getfield 168, 3) := by decide +kernel
theorem dX11_bestRule_33 : decode cX11_bestRule 33 = .ok (.invokevirtual 175, 3) := by decide +kernel
theorem dX11_bestRule_36 : decode cX11_bestRule 36 = .ok (.aload_n 0, 1) := by decide +kernel
theorem dX11_bestRule_37 : decode cX11_bestRule 37 = .ok (.getfield 41, 3) := by decide +kernel
theorem dX11_bestRule_40 : decode cX11_bestRule 40 = .ok (.aload_n 0, 1) := by decide +kernel
theorem dX11_bestRule_41 : decode cX11_bestRule 41 = .ok (.getfield 87, 3) := by decide +kernel
theorem dX11_bestRule_44 : decode cX11_bestRule 44 = .ok (.invokevirtual 196, 3) := by decide +kernel
theorem dX11_bestRule_47 : decode cX11_bestRule 47 = .ok (.aload_n 0, 1) := by decide +kernel
theorem dX11_bestRule_48 : decode cX11_bestRule 48 = .ok (.getfield 23, 3) := by decide +kernel
theorem dX11_bestRule_51 : decode cX11_bestRule 51 = .ok (.getfield 199, 3) := by decide +kernel
theorem dX11_bestRule_54 : decode cX11_bestRule 54 = .ok (.aload_n 0, 1) := by decide +kernel
theorem dX11_bestRule_55 : decode cX11_bestRule 55 = .ok (.getfield 87, 3) := by decide +kernel
theorem dX11_bestRule_58 : decode cX11_bestRule 58 = .ok (.invokevirtual 203, 3) := by decide +kernel
theorem dX11_bestRule_61 : decode cX11_bestRule 61 = .ok (.lreturn, 1) := by decide +kernel
theorem dX11_cliff_0 : decode cX11_cliff 0 = .ok (.aload_n 0, 1) := by decide +kernel
theorem dX11_cliff_1 : decode cX11_cliff 1 = .ok (.getfield 57, 3) := by decide +kernel
theorem dX11_cliff_4 : decode cX11_cliff 4 = .ok (.aload_n 0, 1) := by decide +kernel
theorem dX11_cliff_5 : decode cX11_cliff 5 = .ok (.getfield 10, 3) := by decide +kernel
theorem dX11_cliff_8 : decode cX11_cliff 8 = .ok (.invokevirtual 261, 3) := by decide +kernel
theorem dX11_cliff_11 : decode cX11_cliff 11 = .ok (.ifCond .eq 20, 3) := by decide +kernel
theorem dX11_cliff_14 : decode cX11_cliff 14 = .ok (.aload_n 0, 1) := by decide +kernel
theorem dX11_cliff_15 : decode cX11_cliff 15 = .ok (.getfield 57, 3) := by decide +kernel
theorem dX11_cliff_18 : decode cX11_cliff 18 = .ok (.aload_n 0, 1) := by decide +kernel
theorem dX11_cliff_19 : decode cX11_cliff 19 = .ok (.getfield 10, 3) := by decide +kernel
theorem dX11_cliff_22 : decode cX11_cliff 22 = .ok (.getfield 148, 3) := by decide +kernel
theorem dX11_cliff_25 : decode cX11_cliff 25 = .ok (.invokevirtual 265, 3) := by decide +kernel
theorem dX11_cliff_28 : decode cX11_cliff 28 = .ok (.goto 4, 3) := by decide +kernel
theorem dX11_cliff_31 : decode cX11_cliff 31 = .ok (.iconst (-1), 1) := by decide +kernel
theorem dX11_cliff_32 : decode cX11_cliff 32 = .ok (.istore_n 1, 1) := by decide +kernel
theorem dX11_cliff_33 : decode cX11_cliff 33 = .ok (.aload_n 0, 1) := by decide +kernel
theorem dX11_cliff_34 : decode cX11_cliff 34 = .ok (.getfield 10, 3) := by decide +kernel
theorem dX11_cliff_37 : decode cX11_cliff 37 = .ok (.invokevirtual 110, 3) := by decide +kernel
theorem dX11_cliff_40 : decode cX11_cliff 40 = .ok (.iload_n 1, 1) := by decide +kernel
theorem dX11_cliff_41 : decode cX11_cliff 41 = .ok (.ireturn, 1) := by decide +kernel
theorem dX11_comes_0 : decode cX11_comes 0 = .ok (.aload_n 0, 1) := by decide +kernel
theorem dX11_comes_1 : decode cX11_comes 1 = .ok (.getfield 23, 3) := by decide +kernel
theorem dX11_comes_4 : decode cX11_comes 4 = .ok (.iload_n 1, 1) := by decide +kernel
theorem dX11_comes_5 : decode cX11_comes 5 = .ok (.invokevirtual 138, 3) := by decide +kernel
theorem dX11_comes_8 : decode cX11_comes 8 = .ok (.ifCond .eq 14, 3) := by decide +kernel
theorem dX11_comes_11 : decode cX11_comes 11 = .ok (.aload_n 0, 1) := by decide +kernel
theorem dX11_comes_12 : decode cX11_comes 12 = .ok (.getfield 23, 3) := by decide +kernel
theorem dX11_comes_15 : decode cX11_comes 15 = .ok (.iload_n 2, 1) := by decide +kernel
theorem dX11_comes_16 : decode cX11_comes 16 = .ok (.invokevirtual 138, 3) := by decide +kernel
theorem dX11_comes_19 : decode cX11_comes 19 = .ok (.ifCond .ne 11, 3) := by decide +kernel
theorem dX11_comes_22 : decode cX11_comes 22 = .ok (.new 145, 3) := by decide +kernel
theorem dX11_comes_25 : decode cX11_comes 25 = .ok (.dup, 1) := by decide +kernel
theorem dX11_comes_26 : decode cX11_comes 26 = .ok (.invokespecial 147, 3) := by decide +kernel
theorem dX11_comes_29 : decode cX11_comes 29 = .ok (.athrow, 1) := by decide +kernel
theorem dX11_comes_30 : decode cX11_comes 30 = .ok (.aload_n 0, 1) := by decide +kernel
theorem dX11_comes_31 : decode cX11_comes 31 = .ok (.getfield 41, 3) := by decide +kernel
theorem dX11_comes_34 : decode cX11_comes 34 = .ok (.aload_n 0, 1) := by decide +kernel
theorem dX11_comes_35 : decode cX11_comes 35 = .ok (.getfield 23, 3) := by decide +kernel
theorem dX11_comes_38 : decode cX11_comes 38 = .ok (.aload_n 0, 1) := by decide +kernel
theorem dX11_comes_39 : decode cX11_comes 39 = .ok (.getfield 23, 3) := by decide +kernel
theorem dX11_comes_42 : decode cX11_comes 42 = .ok (.getfield 168, 3) := by decide +kernel
theorem dX11_comes_45 : decode cX11_comes 45 = .ok (.invokevirtual 175, 3) := by decide +kernel
theorem dX11_comes_48 : decode cX11_comes 48 = .ok (.aload_n 0, 1) := by decide +kernel
theorem dX11_comes_49 : decode cX11_comes 49 = .ok (.getfield 41, 3) := by decide +kernel
theorem dX11_comes_52 : decode cX11_comes 52 = .ok (.aload_n 0, 1) := by decide +kernel
theorem dX11_comes_53 : decode cX11_comes 53 = .ok (.getfield 87, 3) := by decide +kernel
theorem dX11_comes_56 : decode cX11_comes 56 = .ok (.invokevirtual 179, 3) := by decide +kernel
theorem dX11_comes_59 : decode cX11_comes 59 = .ok (.aload_n 0, 1) := by decide +kernel
theorem dX11_comes_60 : decode cX11_comes 60 = .ok (.getfield 87, 3) := by decide +kernel
theorem dX11_comes_63 : decode cX11_comes 63 = .ok (.iload_n 1, 1) := by decide +kernel
theorem dX11_comes_64 : decode cX11_comes 64 = .ok (.iconst 3, 1) := by decide +kernel
theorem dX11_comes_65 : decode cX11_comes 65 = .ok (.imul, 1) := by decide +kernel
theorem dX11_comes_66 : decode cX11_comes 66 = .ok (.iload_n 2, 1) := by decide +kernel
theorem dX11_comes_67 : decode cX11_comes 67 = .ok (.iadd, 1) := by decide +kernel
theorem dX11_comes_68 : decode cX11_comes 68 = .ok (.laload, 1) := by decide +kernel
theorem dX11_comes_69 : decode cX11_comes 69 = .ok (.lreturn, 1) := by decide +kernel
theorem dX11_count_0 : decode cX11_count 0 = .ok (.iload_n 1, 1) := by decide +kernel
theorem dX11_count_1 : decode cX11_count 1 = .ok (.tableswitch 51 0 2 #[27, 35, 43], 27) := by decide +kernel
theorem dX11_count_28 : decode cX11_count 28 = .ok (.aload_n 0, 1) := by decide +kernel
theorem dX11_count_29 : decode cX11_count 29 = .ok (.getfield 23, 3) := by decide +kernel
theorem dX11_count_32 : decode cX11_count 32 = .ok (.getfield 117, 3) := by decide +kernel
theorem dX11_count_35 : decode cX11_count 35 = .ok (.ireturn, 1) := by decide +kernel
theorem dX11_count_36 : decode cX11_count 36 = .ok (.aload_n 0, 1) := by decide +kernel
theorem dX11_count_37 : decode cX11_count 37 = .ok (.getfield 23, 3) := by decide +kernel
theorem dX11_count_40 : decode cX11_count 40 = .ok (.getfield 120, 3) := by decide +kernel
theorem dX11_count_43 : decode cX11_count 43 = .ok (.ireturn, 1) := by decide +kernel
theorem dX11_count_44 : decode cX11_count 44 = .ok (.aload_n 0, 1) := by decide +kernel
theorem dX11_count_45 : decode cX11_count 45 = .ok (.getfield 10, 3) := by decide +kernel
theorem dX11_count_48 : decode cX11_count 48 = .ok (.getfield 123, 3) := by decide +kernel
theorem dX11_count_51 : decode cX11_count 51 = .ok (.ireturn, 1) := by decide +kernel
theorem dX11_count_52 : decode cX11_count 52 = .ok (.iconst (-1), 1) := by decide +kernel
theorem dX11_count_53 : decode cX11_count 53 = .ok (.ireturn, 1) := by decide +kernel
theorem dX11_decided_0 : decode cX11_decided 0 = .ok (.aload_n 0, 1) := by decide +kernel
theorem dX11_decided_1 : decode cX11_decided 1 = .ok (.getfield 23, 3) := by decide +kernel
theorem dX11_decided_4 : decode cX11_decided 4 = .ok (.aload_n 0, 1) := by decide +kernel
theorem dX11_decided_5 : decode cX11_decided 5 = .ok (.getfield 10, 3) := by decide +kernel
theorem dX11_decided_8 : decode cX11_decided 8 = .ok (.invokevirtual 141, 3) := by decide +kernel
theorem dX11_decided_11 : decode cX11_decided 11 = .ok (.ifCond .eq 20, 3) := by decide +kernel
theorem dX11_decided_14 : decode cX11_decided 14 = .ok (.aload_n 0, 1) := by decide +kernel
theorem dX11_decided_15 : decode cX11_decided 15 = .ok (.getfield 23, 3) := by decide +kernel
theorem dX11_decided_18 : decode cX11_decided 18 = .ok (.aload_n 0, 1) := by decide +kernel
theorem dX11_decided_19 : decode cX11_decided 19 = .ok (.getfield 10, 3) := by decide +kernel
theorem dX11_decided_22 : decode cX11_decided 22 = .ok (.getfield 148, 3) := by decide +kernel
theorem dX11_decided_25 : decode cX11_decided 25 = .ok (.invokevirtual 171, 3) := by decide +kernel
theorem dX11_decided_28 : decode cX11_decided 28 = .ok (.goto 4, 3) := by decide +kernel
theorem dX11_decided_31 : decode cX11_decided 31 = .ok (.iconst (-1), 1) := by decide +kernel
theorem dX11_decided_32 : decode cX11_decided 32 = .ok (.istore_n 1, 1) := by decide +kernel
theorem dX11_decided_33 : decode cX11_decided 33 = .ok (.aload_n 0, 1) := by decide +kernel
theorem dX11_decided_34 : decode cX11_decided 34 = .ok (.getfield 10, 3) := by decide +kernel
theorem dX11_decided_37 : decode cX11_decided 37 = .ok (.invokevirtual 110, 3) := by decide +kernel
theorem dX11_decided_40 : decode cX11_decided 40 = .ok (.iload_n 1, 1) := by decide +kernel
theorem dX11_decided_41 : decode cX11_decided 41 = .ok (.ireturn, 1) := by decide +kernel
theorem dX11_empty_0 : decode cX11_empty 0 = .ok (.iconst 0, 1) := by decide +kernel
theorem dX11_empty_1 : decode cX11_empty 1 = .ok (.istore_n 1, 1) := by decide +kernel
theorem dX11_empty_2 : decode cX11_empty 2 = .ok (.iload_n 1, 1) := by decide +kernel
theorem dX11_empty_3 : decode cX11_empty 3 = .ok (.aload_n 0, 1) := by decide +kernel
theorem dX11_empty_4 : decode cX11_empty 4 = .ok (.arraylength, 1) := by decide +kernel
theorem dX11_empty_5 : decode cX11_empty 5 = .ok (.if_icmp .ge 13, 3) := by decide +kernel
theorem dX11_empty_8 : decode cX11_empty 8 = .ok (.aload_n 0, 1) := by decide +kernel
theorem dX11_empty_9 : decode cX11_empty 9 = .ok (.iload_n 1, 1) := by decide +kernel
theorem dX11_empty_10 : decode cX11_empty 10 = .ok (.lconst 0, 1) := by decide +kernel
theorem dX11_empty_11 : decode cX11_empty 11 = .ok (.lastore, 1) := by decide +kernel
theorem dX11_empty_12 : decode cX11_empty 12 = .ok (.iinc 1 1, 3) := by decide +kernel
theorem dX11_empty_15 : decode cX11_empty 15 = .ok (.goto (-13), 3) := by decide +kernel
theorem dX11_empty_18 : decode cX11_empty 18 = .ok (.return_, 1) := by decide +kernel
theorem dX11_end_0 : decode cX11_end 0 = .ok (.aload_n 0, 1) := by decide +kernel
theorem dX11_end_1 : decode cX11_end 1 = .ok (.getfield 10, 3) := by decide +kernel
theorem dX11_end_4 : decode cX11_end 4 = .ok (.iload_n 1, 1) := by decide +kernel
theorem dX11_end_5 : decode cX11_end 5 = .ok (.invokevirtual 95, 3) := by decide +kernel
theorem dX11_end_8 : decode cX11_end 8 = .ok (.ireturn, 1) := by decide +kernel
theorem dX11_fault_0 : decode cX11_fault 0 = .ok (.aload_n 0, 1) := by decide +kernel
theorem dX11_fault_1 : decode cX11_fault 1 = .ok (.getfield 32, 3) := by decide +kernel
theorem dX11_fault_4 : decode cX11_fault 4 = .ok (.getfield 113, 3) := by decide +kernel
theorem dX11_fault_7 : decode cX11_fault 7 = .ok (.ireturn, 1) := by decide +kernel
theorem dX11_feed_0 : decode cX11_feed 0 = .ok (.aload_n 0, 1) := by decide +kernel
theorem dX11_feed_1 : decode cX11_feed 1 = .ok (.getfield 10, 3) := by decide +kernel
theorem dX11_feed_4 : decode cX11_feed 4 = .ok (.iload_n 1, 1) := by decide +kernel
theorem dX11_feed_5 : decode cX11_feed 5 = .ok (.iload_n 2, 1) := by decide +kernel
theorem dX11_feed_6 : decode cX11_feed 6 = .ok (.iload_n 3, 1) := by decide +kernel
theorem dX11_feed_7 : decode cX11_feed 7 = .ok (.iload 4, 2) := by decide +kernel
theorem dX11_feed_9 : decode cX11_feed 9 = .ok (.iload 5, 2) := by decide +kernel
theorem dX11_feed_11 : decode cX11_feed 11 = .ok (.invokevirtual 91, 3) := by decide +kernel
theorem dX11_feed_14 : decode cX11_feed 14 = .ok (.ireturn, 1) := by decide +kernel
theorem dX11_fit_0 : decode cX11_fit 0 = .ok (.aload_n 0, 1) := by decide +kernel
theorem dX11_fit_1 : decode cX11_fit 1 = .ok (.getfield 23, 3) := by decide +kernel
theorem dX11_fit_4 : decode cX11_fit 4 = .ok (.invokevirtual 156, 3) := by decide +kernel
theorem dX11_fit_7 : decode cX11_fit 7 = .ok (.ifCond .eq 5, 3) := by decide +kernel
theorem dX11_fit_10 : decode cX11_fit 10 = .ok (.iconst (-1), 1) := by decide +kernel
theorem dX11_fit_11 : decode cX11_fit 11 = .ok (.ireturn, 1) := by decide +kernel
theorem dX11_fit_12 : decode cX11_fit 12 = .ok (.aload_n 0, 1) := by decide +kernel
theorem dX11_fit_13 : decode cX11_fit 13 = .ok (.getfield 50, 3) := by decide +kernel
theorem dX11_fit_16 : decode cX11_fit 16 = .ok (.aload_n 0, 1) := by decide +kernel
theorem dX11_fit_17 : decode cX11_fit 17 = .ok (.getfield 23, 3) := by decide +kernel
theorem dX11_fit_20 : decode cX11_fit 20 = .ok (.aload_n 0, 1) := by decide +kernel
theorem dX11_fit_21 : decode cX11_fit 21 = .ok (.getfield 23, 3) := by decide +kernel
theorem dX11_fit_24 : decode cX11_fit 24 = .ok (.getfield 168, 3) := by decide +kernel
theorem dX11_fit_27 : decode cX11_fit 27 = .ok (.invokevirtual 223, 3) := by decide +kernel
theorem dX11_fit_30 : decode cX11_fit 30 = .ok (.ifCond .eq 7, 3) := by decide +kernel
theorem dX11_fit_33 : decode cX11_fit 33 = .ok (.iconst 1, 1) := by decide +kernel
theorem dX11_fit_34 : decode cX11_fit 34 = .ok (.goto 4, 3) := by decide +kernel
theorem dX11_fit_37 : decode cX11_fit 37 = .ok (.iconst 0, 1) := by decide +kernel
theorem dX11_fit_38 : decode cX11_fit 38 = .ok (.ireturn, 1) := by decide +kernel
theorem dX11_fitAt_0 : decode cX11_fitAt 0 = .ok (.iload_n 1, 1) := by decide +kernel
theorem dX11_fitAt_1 : decode cX11_fitAt 1 = .ok (.iload_n 2, 1) := by decide +kernel
theorem dX11_fitAt_2 : decode cX11_fitAt 2 = .ok (.invokestatic 230, 3) := by decide +kernel
theorem dX11_fitAt_5 : decode cX11_fitAt 5 = .ok (.ifCond .eq 19, 3) := by decide +kernel
theorem dX11_fitAt_8 : decode cX11_fitAt 8 = .ok (.aload_n 0, 1) := by decide +kernel
theorem dX11_fitAt_9 : decode cX11_fitAt 9 = .ok (.getfield 50, 3) := by decide +kernel
theorem dX11_fitAt_12 : decode cX11_fitAt 12 = .ok (.getfield 310, 3) := by decide +kernel
theorem dX11_fitAt_15 : decode cX11_fitAt 15 = .ok (.iload_n 1, 1) := by decide +kernel
theorem dX11_fitAt_16 : decode cX11_fitAt 16 = .ok (.iconst 3, 1) := by decide +kernel
theorem dX11_fitAt_17 : decode cX11_fitAt 17 = .ok (.imul, 1) := by decide +kernel
theorem dX11_fitAt_18 : decode cX11_fitAt 18 = .ok (.iload_n 2, 1) := by decide +kernel
theorem dX11_fitAt_19 : decode cX11_fitAt 19 = .ok (.iadd, 1) := by decide +kernel
theorem dX11_fitAt_20 : decode cX11_fitAt 20 = .ok (.iaload, 1) := by decide +kernel
theorem dX11_fitAt_21 : decode cX11_fitAt 21 = .ok (.goto 4, 3) := by decide +kernel
theorem dX11_fitAt_24 : decode cX11_fitAt 24 = .ok (.iconst (-1), 1) := by decide +kernel
theorem dX11_fitAt_25 : decode cX11_fitAt 25 = .ok (.ireturn, 1) := by decide +kernel
theorem dX11_fits_0 : decode cX11_fits 0 = .ok (.aload_n 0, 1) := by decide +kernel
theorem dX11_fits_1 : decode cX11_fits 1 = .ok (.getfield 23, 3) := by decide +kernel
theorem dX11_fits_4 : decode cX11_fits 4 = .ok (.invokevirtual 156, 3) := by decide +kernel
theorem dX11_fits_7 : decode cX11_fits 7 = .ok (.ifCond .ne 15, 3) := by decide +kernel
theorem dX11_fits_10 : decode cX11_fits 10 = .ok (.aload_n 0, 1) := by decide +kernel
theorem dX11_fits_11 : decode cX11_fits 11 = .ok (.getfield 23, 3) := by decide +kernel
theorem dX11_fits_14 : decode cX11_fits 14 = .ok (.invokevirtual 303, 3) := by decide +kernel
theorem dX11_fits_17 : decode cX11_fits 17 = .ok (.bipush 6, 2) := by decide +kernel
theorem dX11_fits_19 : decode cX11_fits 19 = .ok (.if_icmp .le 5, 3) := by decide +kernel
theorem dX11_fits_22 : decode cX11_fits 22 = .ok (.iconst (-1), 1) := by decide +kernel
theorem dX11_fits_23 : decode cX11_fits 23 = .ok (.ireturn, 1) := by decide +kernel
theorem dX11_fits_24 : decode cX11_fits 24 = .ok (.aload_n 0, 1) := by decide +kernel
theorem dX11_fits_25 : decode cX11_fits 25 = .ok (.getfield 50, 3) := by decide +kernel
theorem dX11_fits_28 : decode cX11_fits 28 = .ok (.aload_n 0, 1) := by decide +kernel
theorem dX11_fits_29 : decode cX11_fits 29 = .ok (.getfield 23, 3) := by decide +kernel
theorem dX11_fits_32 : decode cX11_fits 32 = .ok (.invokevirtual 307, 3) := by decide +kernel
theorem dX11_fits_35 : decode cX11_fits 35 = .ok (.ireturn, 1) := by decide +kernel
theorem dX11_guess_0 : decode cX11_guess 0 = .ok (.iconst (-1), 1) := by decide +kernel
theorem dX11_guess_1 : decode cX11_guess 1 = .ok (.istore_n 1, 1) := by decide +kernel
theorem dX11_guess_2 : decode cX11_guess 2 = .ok (.aload_n 0, 1) := by decide +kernel
theorem dX11_guess_3 : decode cX11_guess 3 = .ok (.getfield 23, 3) := by decide +kernel
theorem dX11_guess_6 : decode cX11_guess 6 = .ok (.aload_n 0, 1) := by decide +kernel
theorem dX11_guess_7 : decode cX11_guess 7 = .ok (.getfield 10, 3) := by decide +kernel
theorem dX11_guess_10 : decode cX11_guess 10 = .ok (.invokevirtual 290, 3) := by decide +kernel
theorem dX11_guess_13 : decode cX11_guess 13 = .ok (.ifCond .eq 29, 3) := by decide +kernel
theorem dX11_guess_16 : decode cX11_guess 16 = .ok (.aload_n 0, 1) := by decide +kernel
theorem dX11_guess_17 : decode cX11_guess 17 = .ok (.getfield 41, 3) := by decide +kernel
theorem dX11_guess_20 : decode cX11_guess 20 = .ok (.aload_n 0, 1) := by decide +kernel
theorem dX11_guess_21 : decode cX11_guess 21 = .ok (.getfield 23, 3) := by decide +kernel
theorem dX11_guess_24 : decode cX11_guess 24 = .ok (.aload_n 0, 1) := by decide +kernel
theorem dX11_guess_25 : decode cX11_guess 25 = .ok (.getfield 10, 3) := by decide +kernel
theorem dX11_guess_28 : decode cX11_guess 28 = .ok (.getfield 148, 3) := by decide +kernel
theorem dX11_guess_31 : decode cX11_guess 31 = .ok (.invokevirtual 293, 3) := by decide +kernel
theorem dX11_guess_34 : decode cX11_guess 34 = .ok (.aload_n 0, 1) := by decide +kernel
theorem dX11_guess_35 : decode cX11_guess 35 = .ok (.getfield 41, 3) := by decide +kernel
theorem dX11_guess_38 : decode cX11_guess 38 = .ok (.invokevirtual 320, 3) := by decide +kernel
theorem dX11_guess_41 : decode cX11_guess 41 = .ok (.istore_n 1, 1) := by decide +kernel
theorem dX11_guess_42 : decode cX11_guess 42 = .ok (.aload_n 0, 1) := by decide +kernel
theorem dX11_guess_43 : decode cX11_guess 43 = .ok (.getfield 10, 3) := by decide +kernel
theorem dX11_guess_46 : decode cX11_guess 46 = .ok (.invokevirtual 110, 3) := by decide +kernel
theorem dX11_guess_49 : decode cX11_guess 49 = .ok (.iload_n 1, 1) := by decide +kernel
theorem dX11_guess_50 : decode cX11_guess 50 = .ok (.ireturn, 1) := by decide +kernel
theorem dX11_helps_0 : decode cX11_helps 0 = .ok (.aload_n 0, 1) := by decide +kernel
theorem dX11_helps_1 : decode cX11_helps 1 = .ok (.getfield 23, 3) := by decide +kernel
theorem dX11_helps_4 : decode cX11_helps 4 = .ok (.iload_n 1, 1) := by decide +kernel
theorem dX11_helps_5 : decode cX11_helps 5 = .ok (.invokevirtual 126, 3) := by decide +kernel
theorem dX11_helps_8 : decode cX11_helps 8 = .ok (.ifCond .eq 19, 3) := by decide +kernel
theorem dX11_helps_11 : decode cX11_helps 11 = .ok (.aload_n 0, 1) := by decide +kernel
theorem dX11_helps_12 : decode cX11_helps 12 = .ok (.getfield 23, 3) := by decide +kernel
theorem dX11_helps_15 : decode cX11_helps 15 = .ok (.iload_n 2, 1) := by decide +kernel
theorem dX11_helps_16 : decode cX11_helps 16 = .ok (.invokevirtual 126, 3) := by decide +kernel
theorem dX11_helps_19 : decode cX11_helps 19 = .ok (.ifCond .eq 8, 3) := by decide +kernel
theorem dX11_helps_22 : decode cX11_helps 22 = .ok (.iload_n 1, 1) := by decide +kernel
theorem dX11_helps_23 : decode cX11_helps 23 = .ok (.iload_n 2, 1) := by decide +kernel
theorem dX11_helps_24 : decode cX11_helps 24 = .ok (.if_icmp .ne 5, 3) := by decide +kernel
theorem dX11_helps_27 : decode cX11_helps 27 = .ok (.iconst (-1), 1) := by decide +kernel
theorem dX11_helps_28 : decode cX11_helps 28 = .ok (.ireturn, 1) := by decide +kernel
theorem dX11_helps_29 : decode cX11_helps 29 = .ok (.aload_n 0, 1) := by decide +kernel
theorem dX11_helps_30 : decode cX11_helps 30 = .ok (.iconst (-1), 1) := by decide +kernel
theorem dX11_helps_31 : decode cX11_helps 31 = .ok (.iconst (-1), 1) := by decide +kernel
theorem dX11_helps_32 : decode cX11_helps 32 = .ok (.invokevirtual 187, 3) := by decide +kernel
theorem dX11_helps_35 : decode cX11_helps 35 = .ok (.aload_n 0, 1) := by decide +kernel
theorem dX11_helps_36 : decode cX11_helps 36 = .ok (.iload_n 1, 1) := by decide +kernel
theorem dX11_helps_37 : decode cX11_helps 37 = .ok (.iconst (-1), 1) := by decide +kernel
theorem dX11_helps_38 : decode cX11_helps 38 = .ok (.invokevirtual 187, 3) := by decide +kernel
theorem dX11_helps_41 : decode cX11_helps 41 = .ok (.lcmp, 1) := by decide +kernel
theorem dX11_helps_42 : decode cX11_helps 42 = .ok (.ifCond .ge 7, 3) := by decide +kernel
theorem dX11_helps_45 : decode cX11_helps 45 = .ok (.iconst 1, 1) := by decide +kernel
theorem dX11_helps_46 : decode cX11_helps 46 = .ok (.goto 4, 3) := by decide +kernel
theorem dX11_helps_49 : decode cX11_helps 49 = .ok (.iconst 0, 1) := by decide +kernel
theorem dX11_helps_50 : decode cX11_helps 50 = .ok (.istore_n 3, 1) := by decide +kernel
theorem dX11_helps_51 : decode cX11_helps 51 = .ok (.aload_n 0, 1) := by decide +kernel
theorem dX11_helps_52 : decode cX11_helps 52 = .ok (.iload_n 2, 1) := by decide +kernel
theorem dX11_helps_53 : decode cX11_helps 53 = .ok (.iconst (-1), 1) := by decide +kernel
theorem dX11_helps_54 : decode cX11_helps 54 = .ok (.invokevirtual 187, 3) := by decide +kernel
theorem dX11_helps_57 : decode cX11_helps 57 = .ok (.aload_n 0, 1) := by decide +kernel
theorem dX11_helps_58 : decode cX11_helps 58 = .ok (.iload_n 1, 1) := by decide +kernel
theorem dX11_helps_59 : decode cX11_helps 59 = .ok (.iload_n 2, 1) := by decide +kernel
theorem dX11_helps_60 : decode cX11_helps 60 = .ok (.invokevirtual 187, 3) := by decide +kernel
theorem dX11_helps_63 : decode cX11_helps 63 = .ok (.lcmp, 1) := by decide +kernel
theorem dX11_helps_64 : decode cX11_helps 64 = .ok (.ifCond .ge 7, 3) := by decide +kernel
theorem dX11_helps_67 : decode cX11_helps 67 = .ok (.iconst 1, 1) := by decide +kernel
theorem dX11_helps_68 : decode cX11_helps 68 = .ok (.goto 4, 3) := by decide +kernel
theorem dX11_helps_71 : decode cX11_helps 71 = .ok (.iconst 0, 1) := by decide +kernel
theorem dX11_helps_72 : decode cX11_helps 72 = .ok (.istore 4, 2) := by decide +kernel
theorem dX11_helps_74 : decode cX11_helps 74 = .ok (.iload_n 3, 1) := by decide +kernel
theorem dX11_helps_75 : decode cX11_helps 75 = .ok (.ifCond .eq 12, 3) := by decide +kernel
theorem dX11_helps_78 : decode cX11_helps 78 = .ok (.iload 4, 2) := by decide +kernel
theorem dX11_helps_80 : decode cX11_helps 80 = .ok (.ifCond .ne 7, 3) := by decide +kernel
theorem dX11_helps_83 : decode cX11_helps 83 = .ok (.iconst 1, 1) := by decide +kernel
theorem dX11_helps_84 : decode cX11_helps 84 = .ok (.goto 4, 3) := by decide +kernel
theorem dX11_helps_87 : decode cX11_helps 87 = .ok (.iconst 0, 1) := by decide +kernel
theorem dX11_helps_88 : decode cX11_helps 88 = .ok (.ireturn, 1) := by decide +kernel
theorem dX11_herd_0 : decode cX11_herd 0 = .ok (.aload_n 0, 1) := by decide +kernel
theorem dX11_herd_1 : decode cX11_herd 1 = .ok (.getfield 57, 3) := by decide +kernel
theorem dX11_herd_4 : decode cX11_herd 4 = .ok (.invokevirtual 252, 3) := by decide +kernel
theorem dX11_herd_7 : decode cX11_herd 7 = .ok (.ifCond .eq 7, 3) := by decide +kernel
theorem dX11_herd_10 : decode cX11_herd 10 = .ok (.ldc2_w 243, 3) := by decide +kernel
theorem dX11_herd_13 : decode cX11_herd 13 = .ok (.lreturn, 1) := by decide +kernel
theorem dX11_herd_14 : decode cX11_herd 14 = .ok (.iload_n 1, 1) := by decide +kernel
theorem dX11_herd_15 : decode cX11_herd 15 = .ok (.tableswitch 52 0 2 #[25, 33, 41], 25) := by decide +kernel
theorem dX11_herd_40 : decode cX11_herd 40 = .ok (.aload_n 0, 1) := by decide +kernel
theorem dX11_herd_41 : decode cX11_herd 41 = .ok (.getfield 57, 3) := by decide +kernel
theorem dX11_herd_44 : decode cX11_herd 44 = .ok (.getfield 255, 3) := by decide +kernel
theorem dX11_herd_47 : decode cX11_herd 47 = .ok (.lreturn, 1) := by decide +kernel
theorem dX11_herd_48 : decode cX11_herd 48 = .ok (.aload_n 0, 1) := by decide +kernel
theorem dX11_herd_49 : decode cX11_herd 49 = .ok (.getfield 57, 3) := by decide +kernel
theorem dX11_herd_52 : decode cX11_herd 52 = .ok (.getfield 258, 3) := by decide +kernel
theorem dX11_herd_55 : decode cX11_herd 55 = .ok (.lreturn, 1) := by decide +kernel
theorem dX11_herd_56 : decode cX11_herd 56 = .ok (.aload_n 0, 1) := by decide +kernel
theorem dX11_herd_57 : decode cX11_herd 57 = .ok (.getfield 57, 3) := by decide +kernel
theorem dX11_herd_60 : decode cX11_herd 60 = .ok (.getfield 251, 3) := by decide +kernel
theorem dX11_herd_63 : decode cX11_herd 63 = .ok (.invokestatic 183, 3) := by decide +kernel
theorem dX11_herd_66 : decode cX11_herd 66 = .ok (.lreturn, 1) := by decide +kernel
theorem dX11_herd_67 : decode cX11_herd 67 = .ok (.ldc2_w 243, 3) := by decide +kernel
theorem dX11_herd_70 : decode cX11_herd 70 = .ok (.lreturn, 1) := by decide +kernel
theorem dX11_inTable_0 : decode cX11_inTable 0 = .ok (.iload_n 0, 1) := by decide +kernel
theorem dX11_inTable_1 : decode cX11_inTable 1 = .ok (.ifCond .lt 22, 3) := by decide +kernel
theorem dX11_inTable_4 : decode cX11_inTable 4 = .ok (.iload_n 0, 1) := by decide +kernel
theorem dX11_inTable_5 : decode cX11_inTable 5 = .ok (.bipush 7, 2) := by decide +kernel
theorem dX11_inTable_7 : decode cX11_inTable 7 = .ok (.if_icmp .ge 16, 3) := by decide +kernel
theorem dX11_inTable_10 : decode cX11_inTable 10 = .ok (.iload_n 1, 1) := by decide +kernel
theorem dX11_inTable_11 : decode cX11_inTable 11 = .ok (.ifCond .lt 12, 3) := by decide +kernel
theorem dX11_inTable_14 : decode cX11_inTable 14 = .ok (.iload_n 1, 1) := by decide +kernel
theorem dX11_inTable_15 : decode cX11_inTable 15 = .ok (.iconst 3, 1) := by decide +kernel
theorem dX11_inTable_16 : decode cX11_inTable 16 = .ok (.if_icmp .ge 7, 3) := by decide +kernel
theorem dX11_inTable_19 : decode cX11_inTable 19 = .ok (.iconst 1, 1) := by decide +kernel
theorem dX11_inTable_20 : decode cX11_inTable 20 = .ok (.goto 4, 3) := by decide +kernel
theorem dX11_inTable_23 : decode cX11_inTable 23 = .ok (.iconst 0, 1) := by decide +kernel
theorem dX11_inTable_24 : decode cX11_inTable 24 = .ok (.ireturn, 1) := by decide +kernel
theorem dX11_inTurns_0 : decode cX11_inTurns 0 = .ok (.ldc2_w 243, 3) := by decide +kernel
theorem dX11_inTurns_3 : decode cX11_inTurns 3 = .ok (.lstore_n 1, 1) := by decide +kernel
theorem dX11_inTurns_4 : decode cX11_inTurns 4 = .ok (.aload_n 0, 1) := by decide +kernel
theorem dX11_inTurns_5 : decode cX11_inTurns 5 = .ok (.getfield 23, 3) := by decide +kernel
theorem dX11_inTurns_8 : decode cX11_inTurns 8 = .ok (.aload_n 0, 1) := by decide +kernel
theorem dX11_inTurns_9 : decode cX11_inTurns 9 = .ok (.getfield 10, 3) := by decide +kernel
theorem dX11_inTurns_12 : decode cX11_inTurns 12 = .ok (.invokevirtual 245, 3) := by decide +kernel
theorem dX11_inTurns_15 : decode cX11_inTurns 15 = .ok (.ifCond .eq 39, 3) := by decide +kernel
theorem dX11_inTurns_18 : decode cX11_inTurns 18 = .ok (.aload_n 0, 1) := by decide +kernel
theorem dX11_inTurns_19 : decode cX11_inTurns 19 = .ok (.getfield 57, 3) := by decide +kernel
theorem dX11_inTurns_22 : decode cX11_inTurns 22 = .ok (.aload_n 0, 1) := by decide +kernel
theorem dX11_inTurns_23 : decode cX11_inTurns 23 = .ok (.getfield 23, 3) := by decide +kernel
theorem dX11_inTurns_26 : decode cX11_inTurns 26 = .ok (.aload_n 0, 1) := by decide +kernel
theorem dX11_inTurns_27 : decode cX11_inTurns 27 = .ok (.getfield 10, 3) := by decide +kernel
theorem dX11_inTurns_30 : decode cX11_inTurns 30 = .ok (.getfield 148, 3) := by decide +kernel
theorem dX11_inTurns_33 : decode cX11_inTurns 33 = .ok (.invokevirtual 248, 3) := by decide +kernel
theorem dX11_inTurns_36 : decode cX11_inTurns 36 = .ok (.aload_n 0, 1) := by decide +kernel
theorem dX11_inTurns_37 : decode cX11_inTurns 37 = .ok (.getfield 23, 3) := by decide +kernel
theorem dX11_inTurns_40 : decode cX11_inTurns 40 = .ok (.getfield 199, 3) := by decide +kernel
theorem dX11_inTurns_43 : decode cX11_inTurns 43 = .ok (.aload_n 0, 1) := by decide +kernel
theorem dX11_inTurns_44 : decode cX11_inTurns 44 = .ok (.getfield 57, 3) := by decide +kernel
theorem dX11_inTurns_47 : decode cX11_inTurns 47 = .ok (.getfield 251, 3) := by decide +kernel
theorem dX11_inTurns_50 : decode cX11_inTurns 50 = .ok (.invokevirtual 203, 3) := by decide +kernel
theorem dX11_inTurns_53 : decode cX11_inTurns 53 = .ok (.lstore_n 1, 1) := by decide +kernel
theorem dX11_inTurns_54 : decode cX11_inTurns 54 = .ok (.aload_n 0, 1) := by decide +kernel
theorem dX11_inTurns_55 : decode cX11_inTurns 55 = .ok (.getfield 10, 3) := by decide +kernel
theorem dX11_inTurns_58 : decode cX11_inTurns 58 = .ok (.invokevirtual 110, 3) := by decide +kernel
theorem dX11_inTurns_61 : decode cX11_inTurns 61 = .ok (.lload_n 1, 1) := by decide +kernel
theorem dX11_inTurns_62 : decode cX11_inTurns 62 = .ok (.lreturn, 1) := by decide +kernel
theorem dX11_init_0 : decode cX11_init 0 = .ok (.aload_n 0, 1) := by decide +kernel
theorem dX11_init_1 : decode cX11_init 1 = .ok (.invokespecial 1, 3) := by decide +kernel
theorem dX11_init_4 : decode cX11_init 4 = .ok (.aload_n 0, 1) := by decide +kernel
theorem dX11_init_5 : decode cX11_init 5 = .ok (.new 7, 3) := by decide +kernel
theorem dX11_init_8 : decode cX11_init 8 = .ok (.dup, 1) := by decide +kernel
theorem dX11_init_9 : decode cX11_init 9 = .ok (.invokespecial 9, 3) := by decide +kernel
theorem dX11_init_12 : decode cX11_init 12 = .ok (.putfield 10, 3) := by decide +kernel
theorem dX11_init_15 : decode cX11_init 15 = .ok (.aload_n 0, 1) := by decide +kernel
theorem dX11_init_16 : decode cX11_init 16 = .ok (.iconst 3, 1) := by decide +kernel
theorem dX11_init_17 : decode cX11_init 17 = .ok (.anewarray 16, 3) := by decide +kernel
theorem dX11_init_20 : decode cX11_init 20 = .ok (.putfield 18, 3) := by decide +kernel
theorem dX11_init_23 : decode cX11_init 23 = .ok (.iconst 0, 1) := by decide +kernel
theorem dX11_init_24 : decode cX11_init 24 = .ok (.istore_n 1, 1) := by decide +kernel
theorem dX11_init_25 : decode cX11_init 25 = .ok (.iload_n 1, 1) := by decide +kernel
theorem dX11_init_26 : decode cX11_init 26 = .ok (.iconst 3, 1) := by decide +kernel
theorem dX11_init_27 : decode cX11_init 27 = .ok (.if_icmp .ge 22, 3) := by decide +kernel
theorem dX11_init_30 : decode cX11_init 30 = .ok (.aload_n 0, 1) := by decide +kernel
theorem dX11_init_31 : decode cX11_init 31 = .ok (.getfield 18, 3) := by decide +kernel
theorem dX11_init_34 : decode cX11_init 34 = .ok (.iload_n 1, 1) := by decide +kernel
theorem dX11_init_35 : decode cX11_init 35 = .ok (.new 16, 3) := by decide +kernel
theorem dX11_init_38 : decode cX11_init 38 = .ok (.dup, 1) := by decide +kernel
theorem dX11_init_39 : decode cX11_init 39 = .ok (.invokespecial 22, 3) := by decide +kernel
theorem dX11_init_42 : decode cX11_init 42 = .ok (.aastore, 1) := by decide +kernel
theorem dX11_init_43 : decode cX11_init 43 = .ok (.iinc 1 1, 3) := by decide +kernel
theorem dX11_init_46 : decode cX11_init 46 = .ok (.goto (-21), 3) := by decide +kernel
theorem dX11_init_49 : decode cX11_init 49 = .ok (.aload_n 0, 1) := by decide +kernel
theorem dX11_init_50 : decode cX11_init 50 = .ok (.aload_n 0, 1) := by decide +kernel
theorem dX11_init_51 : decode cX11_init 51 = .ok (.getfield 18, 3) := by decide +kernel
theorem dX11_init_54 : decode cX11_init 54 = .ok (.iconst 0, 1) := by decide +kernel
theorem dX11_init_55 : decode cX11_init 55 = .ok (.aaload, 1) := by decide +kernel
theorem dX11_init_56 : decode cX11_init 56 = .ok (.putfield 23, 3) := by decide +kernel
theorem dX11_init_59 : decode cX11_init 59 = .ok (.aload_n 0, 1) := by decide +kernel
theorem dX11_init_60 : decode cX11_init 60 = .ok (.new 27, 3) := by decide +kernel
theorem dX11_init_63 : decode cX11_init 63 = .ok (.dup, 1) := by decide +kernel
theorem dX11_init_64 : decode cX11_init 64 = .ok (.aload_n 0, 1) := by decide +kernel
theorem dX11_init_65 : decode cX11_init 65 = .ok (.getfield 10, 3) := by decide +kernel
theorem dX11_init_68 : decode cX11_init 68 = .ok (.aload_n 0, 1) := by decide +kernel
theorem dX11_init_69 : decode cX11_init 69 = .ok (.getfield 23, 3) := by decide +kernel
theorem dX11_init_72 : decode cX11_init 72 = .ok (.invokespecial 29, 3) := by decide +kernel
theorem dX11_init_75 : decode cX11_init 75 = .ok (.putfield 32, 3) := by decide +kernel
theorem dX11_init_78 : decode cX11_init 78 = .ok (.aload_n 0, 1) := by decide +kernel
theorem dX11_init_79 : decode cX11_init 79 = .ok (.new 36, 3) := by decide +kernel
theorem dX11_init_82 : decode cX11_init 82 = .ok (.dup, 1) := by decide +kernel
theorem dX11_init_83 : decode cX11_init 83 = .ok (.aload_n 0, 1) := by decide +kernel
theorem dX11_init_84 : decode cX11_init 84 = .ok (.getfield 23, 3) := by decide +kernel
theorem dX11_init_87 : decode cX11_init 87 = .ok (.invokespecial 38, 3) := by decide +kernel
theorem dX11_init_90 : decode cX11_init 90 = .ok (.putfield 41, 3) := by decide +kernel
theorem dX11_init_93 : decode cX11_init 93 = .ok (.aload_n 0, 1) := by decide +kernel
theorem dX11_init_94 : decode cX11_init 94 = .ok (.new 45, 3) := by decide +kernel
theorem dX11_init_97 : decode cX11_init 97 = .ok (.dup, 1) := by decide +kernel
theorem dX11_init_98 : decode cX11_init 98 = .ok (.aload_n 0, 1) := by decide +kernel
theorem dX11_init_99 : decode cX11_init 99 = .ok (.getfield 41, 3) := by decide +kernel
theorem dX11_init_102 : decode cX11_init 102 = .ok (.aload_n 0, 1) := by decide +kernel
theorem dX11_init_103 : decode cX11_init 103 = .ok (.getfield 23, 3) := by decide +kernel
theorem dX11_init_106 : decode cX11_init 106 = .ok (.invokespecial 47, 3) := by decide +kernel
theorem dX11_init_109 : decode cX11_init 109 = .ok (.putfield 50, 3) := by decide +kernel
theorem dX11_init_112 : decode cX11_init 112 = .ok (.aload_n 0, 1) := by decide +kernel
theorem dX11_init_113 : decode cX11_init 113 = .ok (.new 54, 3) := by decide +kernel
theorem dX11_init_116 : decode cX11_init 116 = .ok (.dup, 1) := by decide +kernel
theorem dX11_init_117 : decode cX11_init 117 = .ok (.aload_n 0, 1) := by decide +kernel
theorem dX11_init_118 : decode cX11_init 118 = .ok (.getfield 23, 3) := by decide +kernel
theorem dX11_init_121 : decode cX11_init 121 = .ok (.invokespecial 56, 3) := by decide +kernel
theorem dX11_init_124 : decode cX11_init 124 = .ok (.putfield 57, 3) := by decide +kernel
theorem dX11_init_127 : decode cX11_init 127 = .ok (.aload_n 0, 1) := by decide +kernel
theorem dX11_init_128 : decode cX11_init 128 = .ok (.new 54, 3) := by decide +kernel
theorem dX11_init_131 : decode cX11_init 131 = .ok (.dup, 1) := by decide +kernel
theorem dX11_init_132 : decode cX11_init 132 = .ok (.aload_n 0, 1) := by decide +kernel
theorem dX11_init_133 : decode cX11_init 133 = .ok (.getfield 23, 3) := by decide +kernel
theorem dX11_init_136 : decode cX11_init 136 = .ok (.invokespecial 56, 3) := by decide +kernel
theorem dX11_init_139 : decode cX11_init 139 = .ok (.putfield 61, 3) := by decide +kernel
theorem dX11_init_142 : decode cX11_init 142 = .ok (.aload_n 0, 1) := by decide +kernel
theorem dX11_init_143 : decode cX11_init 143 = .ok (.new 64, 3) := by decide +kernel
theorem dX11_init_146 : decode cX11_init 146 = .ok (.dup, 1) := by decide +kernel
theorem dX11_init_147 : decode cX11_init 147 = .ok (.aload_n 0, 1) := by decide +kernel
theorem dX11_init_148 : decode cX11_init 148 = .ok (.getfield 41, 3) := by decide +kernel
theorem dX11_init_151 : decode cX11_init 151 = .ok (.invokespecial 66, 3) := by decide +kernel
theorem dX11_init_154 : decode cX11_init 154 = .ok (.putfield 69, 3) := by decide +kernel
theorem dX11_init_157 : decode cX11_init 157 = .ok (.aload_n 0, 1) := by decide +kernel
theorem dX11_init_158 : decode cX11_init 158 = .ok (.new 73, 3) := by decide +kernel
theorem dX11_init_161 : decode cX11_init 161 = .ok (.dup, 1) := by decide +kernel
theorem dX11_init_162 : decode cX11_init 162 = .ok (.aload_n 0, 1) := by decide +kernel
theorem dX11_init_163 : decode cX11_init 163 = .ok (.getfield 23, 3) := by decide +kernel
theorem dX11_init_166 : decode cX11_init 166 = .ok (.invokespecial 75, 3) := by decide +kernel
theorem dX11_init_169 : decode cX11_init 169 = .ok (.putfield 76, 3) := by decide +kernel
theorem dX11_init_172 : decode cX11_init 172 = .ok (.aload_n 0, 1) := by decide +kernel
theorem dX11_init_173 : decode cX11_init 173 = .ok (.new 80, 3) := by decide +kernel
theorem dX11_init_176 : decode cX11_init 176 = .ok (.dup, 1) := by decide +kernel
theorem dX11_init_177 : decode cX11_init 177 = .ok (.invokespecial 82, 3) := by decide +kernel
theorem dX11_init_180 : decode cX11_init 180 = .ok (.putfield 83, 3) := by decide +kernel
theorem dX11_init_183 : decode cX11_init 183 = .ok (.aload_n 0, 1) := by decide +kernel
theorem dX11_init_184 : decode cX11_init 184 = .ok (.bipush 9, 2) := by decide +kernel
theorem dX11_init_186 : decode cX11_init 186 = .ok (.newarray .long, 2) := by decide +kernel
theorem dX11_init_188 : decode cX11_init 188 = .ok (.putfield 87, 3) := by decide +kernel
theorem dX11_init_191 : decode cX11_init 191 = .ok (.return_, 1) := by decide +kernel
theorem dX11_known_0 : decode cX11_known 0 = .ok (.aload_n 0, 1) := by decide +kernel
theorem dX11_known_1 : decode cX11_known 1 = .ok (.getfield 23, 3) := by decide +kernel
theorem dX11_known_4 : decode cX11_known 4 = .ok (.aload_n 0, 1) := by decide +kernel
theorem dX11_known_5 : decode cX11_known 5 = .ok (.getfield 10, 3) := by decide +kernel
theorem dX11_known_8 : decode cX11_known 8 = .ok (.invokevirtual 141, 3) := by decide +kernel
theorem dX11_known_11 : decode cX11_known 11 = .ok (.ifCond .eq 20, 3) := by decide +kernel
theorem dX11_known_14 : decode cX11_known 14 = .ok (.aload_n 0, 1) := by decide +kernel
theorem dX11_known_15 : decode cX11_known 15 = .ok (.getfield 23, 3) := by decide +kernel
theorem dX11_known_18 : decode cX11_known 18 = .ok (.aload_n 0, 1) := by decide +kernel
theorem dX11_known_19 : decode cX11_known 19 = .ok (.getfield 10, 3) := by decide +kernel
theorem dX11_known_22 : decode cX11_known 22 = .ok (.getfield 148, 3) := by decide +kernel
theorem dX11_known_25 : decode cX11_known 25 = .ok (.invokevirtual 190, 3) := by decide +kernel
theorem dX11_known_28 : decode cX11_known 28 = .ok (.goto 4, 3) := by decide +kernel
theorem dX11_known_31 : decode cX11_known 31 = .ok (.iconst (-1), 1) := by decide +kernel
theorem dX11_known_32 : decode cX11_known 32 = .ok (.istore_n 1, 1) := by decide +kernel
theorem dX11_known_33 : decode cX11_known 33 = .ok (.aload_n 0, 1) := by decide +kernel
theorem dX11_known_34 : decode cX11_known 34 = .ok (.getfield 10, 3) := by decide +kernel
theorem dX11_known_37 : decode cX11_known 37 = .ok (.invokevirtual 110, 3) := by decide +kernel
theorem dX11_known_40 : decode cX11_known 40 = .ok (.iload_n 1, 1) := by decide +kernel
theorem dX11_known_41 : decode cX11_known 41 = .ok (.ireturn, 1) := by decide +kernel
theorem dX11_knows_0 : decode cX11_knows 0 = .ok (.aload_n 0, 1) := by decide +kernel
theorem dX11_knows_1 : decode cX11_knows 1 = .ok (.getfield 23, 3) := by decide +kernel
theorem dX11_knows_4 : decode cX11_knows 4 = .ok (.invokevirtual 156, 3) := by decide +kernel
theorem dX11_knows_7 : decode cX11_knows 7 = .ok (.ifCond .ne 12, 3) := by decide +kernel
theorem dX11_knows_10 : decode cX11_knows 10 = .ok (.iload_n 1, 1) := by decide +kernel
theorem dX11_knows_11 : decode cX11_knows 11 = .ok (.ifCond .lt 8, 3) := by decide +kernel
theorem dX11_knows_14 : decode cX11_knows 14 = .ok (.iload_n 1, 1) := by decide +kernel
theorem dX11_knows_15 : decode cX11_knows 15 = .ok (.iconst 1, 1) := by decide +kernel
theorem dX11_knows_16 : decode cX11_knows 16 = .ok (.if_icmp .le 11, 3) := by decide +kernel
theorem dX11_knows_19 : decode cX11_knows 19 = .ok (.new 145, 3) := by decide +kernel
theorem dX11_knows_22 : decode cX11_knows 22 = .ok (.dup, 1) := by decide +kernel
theorem dX11_knows_23 : decode cX11_knows 23 = .ok (.invokespecial 147, 3) := by decide +kernel
theorem dX11_knows_26 : decode cX11_knows 26 = .ok (.athrow, 1) := by decide +kernel
theorem dX11_knows_27 : decode cX11_knows 27 = .ok (.aload_n 0, 1) := by decide +kernel
theorem dX11_knows_28 : decode cX11_knows 28 = .ok (.getfield 41, 3) := by decide +kernel
theorem dX11_knows_31 : decode cX11_knows 31 = .ok (.aload_n 0, 1) := by decide +kernel
theorem dX11_knows_32 : decode cX11_knows 32 = .ok (.getfield 23, 3) := by decide +kernel
theorem dX11_knows_35 : decode cX11_knows 35 = .ok (.invokevirtual 193, 3) := by decide +kernel
theorem dX11_knows_38 : decode cX11_knows 38 = .ok (.aload_n 0, 1) := by decide +kernel
theorem dX11_knows_39 : decode cX11_knows 39 = .ok (.getfield 41, 3) := by decide +kernel
theorem dX11_knows_42 : decode cX11_knows 42 = .ok (.aload_n 0, 1) := by decide +kernel
theorem dX11_knows_43 : decode cX11_knows 43 = .ok (.getfield 87, 3) := by decide +kernel
theorem dX11_knows_46 : decode cX11_knows 46 = .ok (.invokevirtual 196, 3) := by decide +kernel
theorem dX11_knows_49 : decode cX11_knows 49 = .ok (.iload_n 1, 1) := by decide +kernel
theorem dX11_knows_50 : decode cX11_knows 50 = .ok (.ifCond .ne 20, 3) := by decide +kernel
theorem dX11_knows_53 : decode cX11_knows 53 = .ok (.aload_n 0, 1) := by decide +kernel
theorem dX11_knows_54 : decode cX11_knows 54 = .ok (.getfield 23, 3) := by decide +kernel
theorem dX11_knows_57 : decode cX11_knows 57 = .ok (.getfield 199, 3) := by decide +kernel
theorem dX11_knows_60 : decode cX11_knows 60 = .ok (.aload_n 0, 1) := by decide +kernel
theorem dX11_knows_61 : decode cX11_knows 61 = .ok (.getfield 87, 3) := by decide +kernel
theorem dX11_knows_64 : decode cX11_knows 64 = .ok (.invokevirtual 203, 3) := by decide +kernel
theorem dX11_knows_67 : decode cX11_knows 67 = .ok (.goto 10, 3) := by decide +kernel
theorem dX11_knows_70 : decode cX11_knows 70 = .ok (.aload_n 0, 1) := by decide +kernel
theorem dX11_knows_71 : decode cX11_knows 71 = .ok (.getfield 87, 3) := by decide +kernel
theorem dX11_knows_74 : decode cX11_knows 74 = .ok (.invokestatic 183, 3) := by decide +kernel
theorem dX11_knows_77 : decode cX11_knows 77 = .ok (.lreturn, 1) := by decide +kernel
theorem dX11_lost_0 : decode cX11_lost 0 = .ok (.aload_n 0, 1) := by decide +kernel
theorem dX11_lost_1 : decode cX11_lost 1 = .ok (.getfield 23, 3) := by decide +kernel
theorem dX11_lost_4 : decode cX11_lost 4 = .ok (.invokevirtual 156, 3) := by decide +kernel
theorem dX11_lost_7 : decode cX11_lost 7 = .ok (.ifCond .eq 7, 3) := by decide +kernel
theorem dX11_lost_10 : decode cX11_lost 10 = .ok (.lconst 0, 1) := by decide +kernel
theorem dX11_lost_11 : decode cX11_lost 11 = .ok (.goto 9, 3) := by decide +kernel
theorem dX11_lost_14 : decode cX11_lost 14 = .ok (.aload_n 0, 1) := by decide +kernel
theorem dX11_lost_15 : decode cX11_lost 15 = .ok (.iconst (-1), 1) := by decide +kernel
theorem dX11_lost_16 : decode cX11_lost 16 = .ok (.iconst (-1), 1) := by decide +kernel
theorem dX11_lost_17 : decode cX11_lost 17 = .ok (.invokevirtual 187, 3) := by decide +kernel
theorem dX11_lost_20 : decode cX11_lost 20 = .ok (.lreturn, 1) := by decide +kernel
theorem dX11_lostWithout_0 : decode cX11_lostWithout 0 = .ok (.aload_n 0, 1) := by decide +kernel
theorem dX11_lostWithout_1 : decode cX11_lostWithout 1 = .ok (.getfield 41, 3) := by decide +kernel
theorem dX11_lostWithout_4 : decode cX11_lostWithout 4 = .ok (.aload_n 0, 1) := by decide +kernel
theorem dX11_lostWithout_5 : decode cX11_lostWithout 5 = .ok (.getfield 23, 3) := by decide +kernel
theorem dX11_lostWithout_8 : decode cX11_lostWithout 8 = .ok (.aload_n 0, 1) := by decide +kernel
theorem dX11_lostWithout_9 : decode cX11_lostWithout 9 = .ok (.getfield 23, 3) := by decide +kernel
theorem dX11_lostWithout_12 : decode cX11_lostWithout 12 = .ok (.getfield 168, 3) := by decide +kernel
theorem dX11_lostWithout_15 : decode cX11_lostWithout 15 = .ok (.invokevirtual 175, 3) := by decide +kernel
theorem dX11_lostWithout_18 : decode cX11_lostWithout 18 = .ok (.aload_n 0, 1) := by decide +kernel
theorem dX11_lostWithout_19 : decode cX11_lostWithout 19 = .ok (.getfield 23, 3) := by decide +kernel
theorem dX11_lostWithout_22 : decode cX11_lostWithout 22 = .ok (.iload_n 1, 1) := by decide +kernel
theorem dX11_lostWithout_23 : decode cX11_lostWithout 23 = .ok (.invokevirtual 126, 3) := by decide +kernel
theorem dX11_lostWithout_26 : decode cX11_lostWithout 26 = .ok (.ifCond .eq 11, 3) := by decide +kernel
theorem dX11_lostWithout_29 : decode cX11_lostWithout 29 = .ok (.aload_n 0, 1) := by decide +kernel
theorem dX11_lostWithout_30 : decode cX11_lostWithout 30 = .ok (.getfield 41, 3) := by decide +kernel
theorem dX11_lostWithout_33 : decode cX11_lostWithout 33 = .ok (.iload_n 1, 1) := by decide +kernel
theorem dX11_lostWithout_34 : decode cX11_lostWithout 34 = .ok (.invokevirtual 325, 3) := by decide +kernel
theorem dX11_lostWithout_37 : decode cX11_lostWithout 37 = .ok (.aload_n 0, 1) := by decide +kernel
theorem dX11_lostWithout_38 : decode cX11_lostWithout 38 = .ok (.getfield 23, 3) := by decide +kernel
theorem dX11_lostWithout_41 : decode cX11_lostWithout 41 = .ok (.iload_n 2, 1) := by decide +kernel
theorem dX11_lostWithout_42 : decode cX11_lostWithout 42 = .ok (.invokevirtual 126, 3) := by decide +kernel
theorem dX11_lostWithout_45 : decode cX11_lostWithout 45 = .ok (.ifCond .eq 11, 3) := by decide +kernel
theorem dX11_lostWithout_48 : decode cX11_lostWithout 48 = .ok (.aload_n 0, 1) := by decide +kernel
theorem dX11_lostWithout_49 : decode cX11_lostWithout 49 = .ok (.getfield 41, 3) := by decide +kernel
theorem dX11_lostWithout_52 : decode cX11_lostWithout 52 = .ok (.iload_n 2, 1) := by decide +kernel
theorem dX11_lostWithout_53 : decode cX11_lostWithout 53 = .ok (.invokevirtual 325, 3) := by decide +kernel
theorem dX11_lostWithout_56 : decode cX11_lostWithout 56 = .ok (.aload_n 0, 1) := by decide +kernel
theorem dX11_lostWithout_57 : decode cX11_lostWithout 57 = .ok (.getfield 41, 3) := by decide +kernel
theorem dX11_lostWithout_60 : decode cX11_lostWithout 60 = .ok (.aload_n 0, 1) := by decide +kernel
theorem dX11_lostWithout_61 : decode cX11_lostWithout 61 = .ok (.getfield 87, 3) := by decide +kernel
theorem dX11_lostWithout_64 : decode cX11_lostWithout 64 = .ok (.invokevirtual 179, 3) := by decide +kernel
theorem dX11_lostWithout_67 : decode cX11_lostWithout 67 = .ok (.aload_n 0, 1) := by decide +kernel
theorem dX11_lostWithout_68 : decode cX11_lostWithout 68 = .ok (.getfield 23, 3) := by decide +kernel
theorem dX11_lostWithout_71 : decode cX11_lostWithout 71 = .ok (.getfield 199, 3) := by decide +kernel
theorem dX11_lostWithout_74 : decode cX11_lostWithout 74 = .ok (.aload_n 0, 1) := by decide +kernel
theorem dX11_lostWithout_75 : decode cX11_lostWithout 75 = .ok (.getfield 87, 3) := by decide +kernel
theorem dX11_lostWithout_78 : decode cX11_lostWithout 78 = .ok (.invokevirtual 203, 3) := by decide +kernel
theorem dX11_lostWithout_81 : decode cX11_lostWithout 81 = .ok (.lreturn, 1) := by decide +kernel
theorem dX11_many_0 : decode cX11_many 0 = .ok (.iload_n 1, 1) := by decide +kernel
theorem dX11_many_1 : decode cX11_many 1 = .ok (.iconst 1, 1) := by decide +kernel
theorem dX11_many_2 : decode cX11_many 2 = .ok (.if_icmp .lt 25, 3) := by decide +kernel
theorem dX11_many_5 : decode cX11_many 5 = .ok (.iload_n 1, 1) := by decide +kernel
theorem dX11_many_6 : decode cX11_many 6 = .ok (.bipush 11, 2) := by decide +kernel
theorem dX11_many_8 : decode cX11_many 8 = .ok (.if_icmp .gt 19, 3) := by decide +kernel
theorem dX11_many_11 : decode cX11_many 11 = .ok (.iload_n 1, 1) := by decide +kernel
theorem dX11_many_12 : decode cX11_many 12 = .ok (.iconst 2, 1) := by decide +kernel
theorem dX11_many_13 : decode cX11_many 13 = .ok (.irem, 1) := by decide +kernel
theorem dX11_many_14 : decode cX11_many 14 = .ok (.ifCond .eq 13, 3) := by decide +kernel
theorem dX11_many_17 : decode cX11_many 17 = .ok (.iload_n 2, 1) := by decide +kernel
theorem dX11_many_18 : decode cX11_many 18 = .ok (.ifCond .lt 9, 3) := by decide +kernel
theorem dX11_many_21 : decode cX11_many 21 = .ok (.iload_n 2, 1) := by decide +kernel
theorem dX11_many_22 : decode cX11_many 22 = .ok (.bipush 20, 2) := by decide +kernel
theorem dX11_many_24 : decode cX11_many 24 = .ok (.if_icmp .le 11, 3) := by decide +kernel
theorem dX11_many_27 : decode cX11_many 27 = .ok (.new 145, 3) := by decide +kernel
theorem dX11_many_30 : decode cX11_many 30 = .ok (.dup, 1) := by decide +kernel
theorem dX11_many_31 : decode cX11_many 31 = .ok (.invokespecial 147, 3) := by decide +kernel
theorem dX11_many_34 : decode cX11_many 34 = .ok (.athrow, 1) := by decide +kernel
theorem dX11_many_35 : decode cX11_many 35 = .ok (.lconst 0, 1) := by decide +kernel
theorem dX11_many_36 : decode cX11_many 36 = .ok (.lstore_n 3, 1) := by decide +kernel
theorem dX11_many_37 : decode cX11_many 37 = .ok (.lconst 1, 1) := by decide +kernel
theorem dX11_many_38 : decode cX11_many 38 = .ok (.lstore 5, 2) := by decide +kernel
theorem dX11_many_40 : decode cX11_many 40 = .ok (.iconst 0, 1) := by decide +kernel
theorem dX11_many_41 : decode cX11_many 41 = .ok (.istore 7, 2) := by decide +kernel
theorem dX11_many_43 : decode cX11_many 43 = .ok (.iload 7, 2) := by decide +kernel
theorem dX11_many_45 : decode cX11_many 45 = .ok (.iload_n 1, 1) := by decide +kernel
theorem dX11_many_46 : decode cX11_many 46 = .ok (.iconst 2, 1) := by decide +kernel
theorem dX11_many_47 : decode cX11_many 47 = .ok (.idiv, 1) := by decide +kernel
theorem dX11_many_48 : decode cX11_many 48 = .ok (.if_icmp .gt 49, 3) := by decide +kernel
theorem dX11_many_51 : decode cX11_many 51 = .ok (.lload_n 3, 1) := by decide +kernel
theorem dX11_many_52 : decode cX11_many 52 = .ok (.lload 5, 2) := by decide +kernel
theorem dX11_many_54 : decode cX11_many 54 = .ok (.iload_n 2, 1) := by decide +kernel
theorem dX11_many_55 : decode cX11_many 55 = .ok (.iload_n 1, 1) := by decide +kernel
theorem dX11_many_56 : decode cX11_many 56 = .ok (.iload 7, 2) := by decide +kernel
theorem dX11_many_58 : decode cX11_many 58 = .ok (.isub, 1) := by decide +kernel
theorem dX11_many_59 : decode cX11_many 59 = .ok (.invokestatic 160, 3) := by decide +kernel
theorem dX11_many_62 : decode cX11_many 62 = .ok (.lmul, 1) := by decide +kernel
theorem dX11_many_63 : decode cX11_many 63 = .ok (.bipush 20, 2) := by decide +kernel
theorem dX11_many_65 : decode cX11_many 65 = .ok (.iload_n 2, 1) := by decide +kernel
theorem dX11_many_66 : decode cX11_many 66 = .ok (.isub, 1) := by decide +kernel
theorem dX11_many_67 : decode cX11_many 67 = .ok (.iload 7, 2) := by decide +kernel
theorem dX11_many_69 : decode cX11_many 69 = .ok (.invokestatic 160, 3) := by decide +kernel
theorem dX11_many_72 : decode cX11_many 72 = .ok (.lmul, 1) := by decide +kernel
theorem dX11_many_73 : decode cX11_many 73 = .ok (.ladd, 1) := by decide +kernel
theorem dX11_many_74 : decode cX11_many 74 = .ok (.lstore_n 3, 1) := by decide +kernel
theorem dX11_many_75 : decode cX11_many 75 = .ok (.lload 5, 2) := by decide +kernel
theorem dX11_many_77 : decode cX11_many 77 = .ok (.iload_n 1, 1) := by decide +kernel
theorem dX11_many_78 : decode cX11_many 78 = .ok (.iload 7, 2) := by decide +kernel
theorem dX11_many_80 : decode cX11_many 80 = .ok (.isub, 1) := by decide +kernel
theorem dX11_many_81 : decode cX11_many 81 = .ok (.i2l, 1) := by decide +kernel
theorem dX11_many_82 : decode cX11_many 82 = .ok (.lmul, 1) := by decide +kernel
theorem dX11_many_83 : decode cX11_many 83 = .ok (.iload 7, 2) := by decide +kernel
theorem dX11_many_85 : decode cX11_many 85 = .ok (.iconst 1, 1) := by decide +kernel
theorem dX11_many_86 : decode cX11_many 86 = .ok (.iadd, 1) := by decide +kernel
theorem dX11_many_87 : decode cX11_many 87 = .ok (.i2l, 1) := by decide +kernel
theorem dX11_many_88 : decode cX11_many 88 = .ok (.ldiv, 1) := by decide +kernel
theorem dX11_many_89 : decode cX11_many 89 = .ok (.lstore 5, 2) := by decide +kernel
theorem dX11_many_91 : decode cX11_many 91 = .ok (.iinc 7 1, 3) := by decide +kernel
theorem dX11_many_94 : decode cX11_many 94 = .ok (.goto (-51), 3) := by decide +kernel
theorem dX11_many_97 : decode cX11_many 97 = .ok (.lload_n 3, 1) := by decide +kernel
theorem dX11_many_98 : decode cX11_many 98 = .ok (.lreturn, 1) := by decide +kernel
theorem dX11_matter_0 : decode cX11_matter 0 = .ok (.aload_n 0, 1) := by decide +kernel
theorem dX11_matter_1 : decode cX11_matter 1 = .ok (.invokevirtual 99, 3) := by decide +kernel
theorem dX11_matter_4 : decode cX11_matter 4 = .ok (.astore_n 1, 1) := by decide +kernel
theorem dX11_matter_5 : decode cX11_matter 5 = .ok (.aload_n 0, 1) := by decide +kernel
theorem dX11_matter_6 : decode cX11_matter 6 = .ok (.getfield 32, 3) := by decide +kernel
theorem dX11_matter_9 : decode cX11_matter 9 = .ok (.aload_n 1, 1) := by decide +kernel
theorem dX11_matter_10 : decode cX11_matter 10 = .ok (.invokevirtual 103, 3) := by decide +kernel
theorem dX11_matter_13 : decode cX11_matter 13 = .ok (.istore_n 2, 1) := by decide +kernel
theorem dX11_matter_14 : decode cX11_matter 14 = .ok (.iload_n 2, 1) := by decide +kernel
theorem dX11_matter_15 : decode cX11_matter 15 = .ok (.ifCond .lt 12, 3) := by decide +kernel
theorem dX11_matter_18 : decode cX11_matter 18 = .ok (.aload_n 1, 1) := by decide +kernel
theorem dX11_matter_19 : decode cX11_matter 19 = .ok (.invokevirtual 107, 3) := by decide +kernel
theorem dX11_matter_22 : decode cX11_matter 22 = .ok (.aload_n 0, 1) := by decide +kernel
theorem dX11_matter_23 : decode cX11_matter 23 = .ok (.aload_n 1, 1) := by decide +kernel
theorem dX11_matter_24 : decode cX11_matter 24 = .ok (.putfield 23, 3) := by decide +kernel
theorem dX11_matter_27 : decode cX11_matter 27 = .ok (.aload_n 0, 1) := by decide +kernel
theorem dX11_matter_28 : decode cX11_matter 28 = .ok (.getfield 10, 3) := by decide +kernel
theorem dX11_matter_31 : decode cX11_matter 31 = .ok (.invokevirtual 110, 3) := by decide +kernel
theorem dX11_matter_34 : decode cX11_matter 34 = .ok (.iload_n 2, 1) := by decide +kernel
theorem dX11_matter_35 : decode cX11_matter 35 = .ok (.ireturn, 1) := by decide +kernel
theorem dX11_minutes_0 : decode cX11_minutes 0 = .ok (.aload_n 0, 1) := by decide +kernel
theorem dX11_minutes_1 : decode cX11_minutes 1 = .ok (.getfield 23, 3) := by decide +kernel
theorem dX11_minutes_4 : decode cX11_minutes 4 = .ok (.iload_n 1, 1) := by decide +kernel
theorem dX11_minutes_5 : decode cX11_minutes 5 = .ok (.iload_n 2, 1) := by decide +kernel
theorem dX11_minutes_6 : decode cX11_minutes 6 = .ok (.invokevirtual 164, 3) := by decide +kernel
theorem dX11_minutes_9 : decode cX11_minutes 9 = .ok (.ifCond .eq 17, 3) := by decide +kernel
theorem dX11_minutes_12 : decode cX11_minutes 12 = .ok (.aload_n 0, 1) := by decide +kernel
theorem dX11_minutes_13 : decode cX11_minutes 13 = .ok (.getfield 23, 3) := by decide +kernel
theorem dX11_minutes_16 : decode cX11_minutes 16 = .ok (.aload_n 0, 1) := by decide +kernel
theorem dX11_minutes_17 : decode cX11_minutes 17 = .ok (.getfield 10, 3) := by decide +kernel
theorem dX11_minutes_20 : decode cX11_minutes 20 = .ok (.invokevirtual 290, 3) := by decide +kernel
theorem dX11_minutes_23 : decode cX11_minutes 23 = .ok (.ifCond .ne 11, 3) := by decide +kernel
theorem dX11_minutes_26 : decode cX11_minutes 26 = .ok (.new 145, 3) := by decide +kernel
theorem dX11_minutes_29 : decode cX11_minutes 29 = .ok (.dup, 1) := by decide +kernel
theorem dX11_minutes_30 : decode cX11_minutes 30 = .ok (.invokespecial 147, 3) := by decide +kernel
theorem dX11_minutes_33 : decode cX11_minutes 33 = .ok (.athrow, 1) := by decide +kernel
theorem dX11_minutes_34 : decode cX11_minutes 34 = .ok (.lconst 0, 1) := by decide +kernel
theorem dX11_minutes_35 : decode cX11_minutes 35 = .ok (.lstore_n 3, 1) := by decide +kernel
theorem dX11_minutes_36 : decode cX11_minutes 36 = .ok (.aload_n 0, 1) := by decide +kernel
theorem dX11_minutes_37 : decode cX11_minutes 37 = .ok (.getfield 23, 3) := by decide +kernel
theorem dX11_minutes_40 : decode cX11_minutes 40 = .ok (.getfield 168, 3) := by decide +kernel
theorem dX11_minutes_43 : decode cX11_minutes 43 = .ok (.iload_n 1, 1) := by decide +kernel
theorem dX11_minutes_44 : decode cX11_minutes 44 = .ok (.iconst 3, 1) := by decide +kernel
theorem dX11_minutes_45 : decode cX11_minutes 45 = .ok (.imul, 1) := by decide +kernel
theorem dX11_minutes_46 : decode cX11_minutes 46 = .ok (.iload_n 2, 1) := by decide +kernel
theorem dX11_minutes_47 : decode cX11_minutes 47 = .ok (.iadd, 1) := by decide +kernel
theorem dX11_minutes_48 : decode cX11_minutes 48 = .ok (.iaload, 1) := by decide +kernel
theorem dX11_minutes_49 : decode cX11_minutes 49 = .ok (.aload_n 0, 1) := by decide +kernel
theorem dX11_minutes_50 : decode cX11_minutes 50 = .ok (.getfield 10, 3) := by decide +kernel
theorem dX11_minutes_53 : decode cX11_minutes 53 = .ok (.getfield 148, 3) := by decide +kernel
theorem dX11_minutes_56 : decode cX11_minutes 56 = .ok (.iload_n 1, 1) := by decide +kernel
theorem dX11_minutes_57 : decode cX11_minutes 57 = .ok (.iaload, 1) := by decide +kernel
theorem dX11_minutes_58 : decode cX11_minutes 58 = .ok (.if_icmp .ne 51, 3) := by decide +kernel
theorem dX11_minutes_61 : decode cX11_minutes 61 = .ok (.aload_n 0, 1) := by decide +kernel
theorem dX11_minutes_62 : decode cX11_minutes 62 = .ok (.getfield 41, 3) := by decide +kernel
theorem dX11_minutes_65 : decode cX11_minutes 65 = .ok (.aload_n 0, 1) := by decide +kernel
theorem dX11_minutes_66 : decode cX11_minutes 66 = .ok (.getfield 23, 3) := by decide +kernel
theorem dX11_minutes_69 : decode cX11_minutes 69 = .ok (.aload_n 0, 1) := by decide +kernel
theorem dX11_minutes_70 : decode cX11_minutes 70 = .ok (.getfield 10, 3) := by decide +kernel
theorem dX11_minutes_73 : decode cX11_minutes 73 = .ok (.getfield 148, 3) := by decide +kernel
theorem dX11_minutes_76 : decode cX11_minutes 76 = .ok (.invokevirtual 293, 3) := by decide +kernel
theorem dX11_minutes_79 : decode cX11_minutes 79 = .ok (.aload_n 0, 1) := by decide +kernel
theorem dX11_minutes_80 : decode cX11_minutes 80 = .ok (.getfield 41, 3) := by decide +kernel
theorem dX11_minutes_83 : decode cX11_minutes 83 = .ok (.iload_n 1, 1) := by decide +kernel
theorem dX11_minutes_84 : decode cX11_minutes 84 = .ok (.iload_n 2, 1) := by decide +kernel
theorem dX11_minutes_85 : decode cX11_minutes 85 = .ok (.bipush 9, 2) := by decide +kernel
theorem dX11_minutes_87 : decode cX11_minutes 87 = .ok (.invokevirtual 296, 3) := by decide +kernel
theorem dX11_minutes_90 : decode cX11_minutes 90 = .ok (.aload_n 0, 1) := by decide +kernel
theorem dX11_minutes_91 : decode cX11_minutes 91 = .ok (.getfield 41, 3) := by decide +kernel
theorem dX11_minutes_94 : decode cX11_minutes 94 = .ok (.aload_n 0, 1) := by decide +kernel
theorem dX11_minutes_95 : decode cX11_minutes 95 = .ok (.getfield 87, 3) := by decide +kernel
theorem dX11_minutes_98 : decode cX11_minutes 98 = .ok (.invokevirtual 179, 3) := by decide +kernel
theorem dX11_minutes_101 : decode cX11_minutes 101 = .ok (.aload_n 0, 1) := by decide +kernel
theorem dX11_minutes_102 : decode cX11_minutes 102 = .ok (.getfield 87, 3) := by decide +kernel
theorem dX11_minutes_105 : decode cX11_minutes 105 = .ok (.invokestatic 300, 3) := by decide +kernel
theorem dX11_minutes_108 : decode cX11_minutes 108 = .ok (.lstore_n 3, 1) := by decide +kernel
theorem dX11_minutes_109 : decode cX11_minutes 109 = .ok (.aload_n 0, 1) := by decide +kernel
theorem dX11_minutes_110 : decode cX11_minutes 110 = .ok (.getfield 10, 3) := by decide +kernel
theorem dX11_minutes_113 : decode cX11_minutes 113 = .ok (.invokevirtual 110, 3) := by decide +kernel
theorem dX11_minutes_116 : decode cX11_minutes 116 = .ok (.lload_n 3, 1) := by decide +kernel
theorem dX11_minutes_117 : decode cX11_minutes 117 = .ok (.lreturn, 1) := by decide +kernel
theorem dX11_parts_0 : decode cX11_parts 0 = .ok (.aload_n 0, 1) := by decide +kernel
theorem dX11_parts_1 : decode cX11_parts 1 = .ok (.getfield 23, 3) := by decide +kernel
theorem dX11_parts_4 : decode cX11_parts 4 = .ok (.iload_n 1, 1) := by decide +kernel
theorem dX11_parts_5 : decode cX11_parts 5 = .ok (.invokevirtual 138, 3) := by decide +kernel
theorem dX11_parts_8 : decode cX11_parts 8 = .ok (.ifCond .eq 17, 3) := by decide +kernel
theorem dX11_parts_11 : decode cX11_parts 11 = .ok (.aload_n 0, 1) := by decide +kernel
theorem dX11_parts_12 : decode cX11_parts 12 = .ok (.getfield 23, 3) := by decide +kernel
theorem dX11_parts_15 : decode cX11_parts 15 = .ok (.aload_n 0, 1) := by decide +kernel
theorem dX11_parts_16 : decode cX11_parts 16 = .ok (.getfield 10, 3) := by decide +kernel
theorem dX11_parts_19 : decode cX11_parts 19 = .ok (.invokevirtual 141, 3) := by decide +kernel
theorem dX11_parts_22 : decode cX11_parts 22 = .ok (.ifCond .ne 11, 3) := by decide +kernel
theorem dX11_parts_25 : decode cX11_parts 25 = .ok (.new 145, 3) := by decide +kernel
theorem dX11_parts_28 : decode cX11_parts 28 = .ok (.dup, 1) := by decide +kernel
theorem dX11_parts_29 : decode cX11_parts 29 = .ok (.invokespecial 147, 3) := by decide +kernel
theorem dX11_parts_32 : decode cX11_parts 32 = .ok (.athrow, 1) := by decide +kernel
theorem dX11_parts_33 : decode cX11_parts 33 = .ok (.aload_n 0, 1) := by decide +kernel
theorem dX11_parts_34 : decode cX11_parts 34 = .ok (.getfield 23, 3) := by decide +kernel
theorem dX11_parts_37 : decode cX11_parts 37 = .ok (.iload_n 1, 1) := by decide +kernel
theorem dX11_parts_38 : decode cX11_parts 38 = .ok (.aload_n 0, 1) := by decide +kernel
theorem dX11_parts_39 : decode cX11_parts 39 = .ok (.getfield 10, 3) := by decide +kernel
theorem dX11_parts_42 : decode cX11_parts 42 = .ok (.getfield 148, 3) := by decide +kernel
theorem dX11_parts_45 : decode cX11_parts 45 = .ok (.invokevirtual 152, 3) := by decide +kernel
theorem dX11_parts_48 : decode cX11_parts 48 = .ok (.lstore_n 2, 1) := by decide +kernel
theorem dX11_parts_49 : decode cX11_parts 49 = .ok (.aload_n 0, 1) := by decide +kernel
theorem dX11_parts_50 : decode cX11_parts 50 = .ok (.getfield 10, 3) := by decide +kernel
theorem dX11_parts_53 : decode cX11_parts 53 = .ok (.invokevirtual 110, 3) := by decide +kernel
theorem dX11_parts_56 : decode cX11_parts 56 = .ok (.lload_n 2, 1) := by decide +kernel
theorem dX11_parts_57 : decode cX11_parts 57 = .ok (.lreturn, 1) := by decide +kernel
theorem dX11_power_0 : decode cX11_power 0 = .ok (.lconst 1, 1) := by decide +kernel
theorem dX11_power_1 : decode cX11_power 1 = .ok (.lstore_n 2, 1) := by decide +kernel
theorem dX11_power_2 : decode cX11_power 2 = .ok (.iconst 0, 1) := by decide +kernel
theorem dX11_power_3 : decode cX11_power 3 = .ok (.istore 4, 2) := by decide +kernel
theorem dX11_power_5 : decode cX11_power 5 = .ok (.iload 4, 2) := by decide +kernel
theorem dX11_power_7 : decode cX11_power 7 = .ok (.iload_n 1, 1) := by decide +kernel
theorem dX11_power_8 : decode cX11_power 8 = .ok (.if_icmp .ge 14, 3) := by decide +kernel
theorem dX11_power_11 : decode cX11_power 11 = .ok (.lload_n 2, 1) := by decide +kernel
theorem dX11_power_12 : decode cX11_power 12 = .ok (.iload_n 0, 1) := by decide +kernel
theorem dX11_power_13 : decode cX11_power 13 = .ok (.i2l, 1) := by decide +kernel
theorem dX11_power_14 : decode cX11_power 14 = .ok (.lmul, 1) := by decide +kernel
theorem dX11_power_15 : decode cX11_power 15 = .ok (.lstore_n 2, 1) := by decide +kernel
theorem dX11_power_16 : decode cX11_power 16 = .ok (.iinc 4 1, 3) := by decide +kernel
theorem dX11_power_19 : decode cX11_power 19 = .ok (.goto (-14), 3) := by decide +kernel
theorem dX11_power_22 : decode cX11_power 22 = .ok (.lload_n 2, 1) := by decide +kernel
theorem dX11_power_23 : decode cX11_power 23 = .ok (.lreturn, 1) := by decide +kernel
theorem dX11_reply_0 : decode cX11_reply 0 = .ok (.aload_n 0, 1) := by decide +kernel
theorem dX11_reply_1 : decode cX11_reply 1 = .ok (.getfield 23, 3) := by decide +kernel
theorem dX11_reply_4 : decode cX11_reply 4 = .ok (.iload_n 1, 1) := by decide +kernel
theorem dX11_reply_5 : decode cX11_reply 5 = .ok (.iload_n 2, 1) := by decide +kernel
theorem dX11_reply_6 : decode cX11_reply 6 = .ok (.invokevirtual 164, 3) := by decide +kernel
theorem dX11_reply_9 : decode cX11_reply 9 = .ok (.ifCond .ne 5, 3) := by decide +kernel
theorem dX11_reply_12 : decode cX11_reply 12 = .ok (.iconst (-1), 1) := by decide +kernel
theorem dX11_reply_13 : decode cX11_reply 13 = .ok (.ireturn, 1) := by decide +kernel
theorem dX11_reply_14 : decode cX11_reply 14 = .ok (.aload_n 0, 1) := by decide +kernel
theorem dX11_reply_15 : decode cX11_reply 15 = .ok (.getfield 50, 3) := by decide +kernel
theorem dX11_reply_18 : decode cX11_reply 18 = .ok (.aload_n 0, 1) := by decide +kernel
theorem dX11_reply_19 : decode cX11_reply 19 = .ok (.getfield 23, 3) := by decide +kernel
theorem dX11_reply_22 : decode cX11_reply 22 = .ok (.aload_n 0, 1) := by decide +kernel
theorem dX11_reply_23 : decode cX11_reply 23 = .ok (.getfield 23, 3) := by decide +kernel
theorem dX11_reply_26 : decode cX11_reply 26 = .ok (.getfield 168, 3) := by decide +kernel
theorem dX11_reply_29 : decode cX11_reply 29 = .ok (.iload_n 1, 1) := by decide +kernel
theorem dX11_reply_30 : decode cX11_reply 30 = .ok (.invokevirtual 215, 3) := by decide +kernel
theorem dX11_reply_33 : decode cX11_reply 33 = .ok (.aload_n 0, 1) := by decide +kernel
theorem dX11_reply_34 : decode cX11_reply 34 = .ok (.getfield 50, 3) := by decide +kernel
theorem dX11_reply_37 : decode cX11_reply 37 = .ok (.iload_n 1, 1) := by decide +kernel
theorem dX11_reply_38 : decode cX11_reply 38 = .ok (.iload_n 2, 1) := by decide +kernel
theorem dX11_reply_39 : decode cX11_reply 39 = .ok (.aload_n 0, 1) := by decide +kernel
theorem dX11_reply_40 : decode cX11_reply 40 = .ok (.getfield 23, 3) := by decide +kernel
theorem dX11_reply_43 : decode cX11_reply 43 = .ok (.getfield 168, 3) := by decide +kernel
theorem dX11_reply_46 : decode cX11_reply 46 = .ok (.iload_n 1, 1) := by decide +kernel
theorem dX11_reply_47 : decode cX11_reply 47 = .ok (.iconst 3, 1) := by decide +kernel
theorem dX11_reply_48 : decode cX11_reply 48 = .ok (.imul, 1) := by decide +kernel
theorem dX11_reply_49 : decode cX11_reply 49 = .ok (.iload_n 2, 1) := by decide +kernel
theorem dX11_reply_50 : decode cX11_reply 50 = .ok (.iadd, 1) := by decide +kernel
theorem dX11_reply_51 : decode cX11_reply 51 = .ok (.iaload, 1) := by decide +kernel
theorem dX11_reply_52 : decode cX11_reply 52 = .ok (.invokevirtual 219, 3) := by decide +kernel
theorem dX11_reply_55 : decode cX11_reply 55 = .ok (.ireturn, 1) := by decide +kernel
theorem dX11_right_0 : decode cX11_right 0 = .ok (.aload_n 0, 1) := by decide +kernel
theorem dX11_right_1 : decode cX11_right 1 = .ok (.getfield 23, 3) := by decide +kernel
theorem dX11_right_4 : decode cX11_right 4 = .ok (.invokevirtual 156, 3) := by decide +kernel
theorem dX11_right_7 : decode cX11_right 7 = .ok (.ifCond .eq 5, 3) := by decide +kernel
theorem dX11_right_10 : decode cX11_right 10 = .ok (.lconst 0, 1) := by decide +kernel
theorem dX11_right_11 : decode cX11_right 11 = .ok (.lreturn, 1) := by decide +kernel
theorem dX11_right_12 : decode cX11_right 12 = .ok (.aload_n 0, 1) := by decide +kernel
theorem dX11_right_13 : decode cX11_right 13 = .ok (.getfield 41, 3) := by decide +kernel
theorem dX11_right_16 : decode cX11_right 16 = .ok (.aload_n 0, 1) := by decide +kernel
theorem dX11_right_17 : decode cX11_right 17 = .ok (.getfield 23, 3) := by decide +kernel
theorem dX11_right_20 : decode cX11_right 20 = .ok (.aload_n 0, 1) := by decide +kernel
theorem dX11_right_21 : decode cX11_right 21 = .ok (.getfield 23, 3) := by decide +kernel
theorem dX11_right_24 : decode cX11_right 24 = .ok (.getfield 168, 3) := by decide +kernel
theorem dX11_right_27 : decode cX11_right 27 = .ok (.invokevirtual 175, 3) := by decide +kernel
theorem dX11_right_30 : decode cX11_right 30 = .ok (.aload_n 0, 1) := by decide +kernel
theorem dX11_right_31 : decode cX11_right 31 = .ok (.getfield 41, 3) := by decide +kernel
theorem dX11_right_34 : decode cX11_right 34 = .ok (.aload_n 0, 1) := by decide +kernel
theorem dX11_right_35 : decode cX11_right 35 = .ok (.getfield 87, 3) := by decide +kernel
theorem dX11_right_38 : decode cX11_right 38 = .ok (.invokevirtual 179, 3) := by decide +kernel
theorem dX11_right_41 : decode cX11_right 41 = .ok (.aload_n 0, 1) := by decide +kernel
theorem dX11_right_42 : decode cX11_right 42 = .ok (.getfield 87, 3) := by decide +kernel
theorem dX11_right_45 : decode cX11_right 45 = .ok (.invokestatic 183, 3) := by decide +kernel
theorem dX11_right_48 : decode cX11_right 48 = .ok (.lreturn, 1) := by decide +kernel
theorem dX11_rightOf_0 : decode cX11_rightOf 0 = .ok (.aload_n 0, 1) := by decide +kernel
theorem dX11_rightOf_1 : decode cX11_rightOf 1 = .ok (.iconst 0, 1) := by decide +kernel
theorem dX11_rightOf_2 : decode cX11_rightOf 2 = .ok (.laload, 1) := by decide +kernel
theorem dX11_rightOf_3 : decode cX11_rightOf 3 = .ok (.aload_n 0, 1) := by decide +kernel
theorem dX11_rightOf_4 : decode cX11_rightOf 4 = .ok (.iconst 4, 1) := by decide +kernel
theorem dX11_rightOf_5 : decode cX11_rightOf 5 = .ok (.laload, 1) := by decide +kernel
theorem dX11_rightOf_6 : decode cX11_rightOf 6 = .ok (.ladd, 1) := by decide +kernel
theorem dX11_rightOf_7 : decode cX11_rightOf 7 = .ok (.aload_n 0, 1) := by decide +kernel
theorem dX11_rightOf_8 : decode cX11_rightOf 8 = .ok (.bipush 8, 2) := by decide +kernel
theorem dX11_rightOf_10 : decode cX11_rightOf 10 = .ok (.laload, 1) := by decide +kernel
theorem dX11_rightOf_11 : decode cX11_rightOf 11 = .ok (.ladd, 1) := by decide +kernel
theorem dX11_rightOf_12 : decode cX11_rightOf 12 = .ok (.lreturn, 1) := by decide +kernel
theorem dX11_run_0 : decode cX11_run 0 = .ok (.aload_n 0, 1) := by decide +kernel
theorem dX11_run_1 : decode cX11_run 1 = .ok (.getfield 23, 3) := by decide +kernel
theorem dX11_run_4 : decode cX11_run 4 = .ok (.invokevirtual 156, 3) := by decide +kernel
theorem dX11_run_7 : decode cX11_run 7 = .ok (.ifCond .ne 15, 3) := by decide +kernel
theorem dX11_run_10 : decode cX11_run 10 = .ok (.iload_n 2, 1) := by decide +kernel
theorem dX11_run_11 : decode cX11_run 11 = .ok (.iconst 1, 1) := by decide +kernel
theorem dX11_run_12 : decode cX11_run 12 = .ok (.if_icmp .lt 10, 3) := by decide +kernel
theorem dX11_run_15 : decode cX11_run 15 = .ok (.iload_n 2, 1) := by decide +kernel
theorem dX11_run_16 : decode cX11_run 16 = .ok (.sipush 1000, 3) := by decide +kernel
theorem dX11_run_19 : decode cX11_run 19 = .ok (.if_icmp .le 5, 3) := by decide +kernel
theorem dX11_run_22 : decode cX11_run 22 = .ok (.iconst (-1), 1) := by decide +kernel
theorem dX11_run_23 : decode cX11_run 23 = .ok (.ireturn, 1) := by decide +kernel
theorem dX11_run_24 : decode cX11_run 24 = .ok (.aload_n 0, 1) := by decide +kernel
theorem dX11_run_25 : decode cX11_run 25 = .ok (.getfield 83, 3) := by decide +kernel
theorem dX11_run_28 : decode cX11_run 28 = .ok (.aload_n 0, 1) := by decide +kernel
theorem dX11_run_29 : decode cX11_run 29 = .ok (.getfield 23, 3) := by decide +kernel
theorem dX11_run_32 : decode cX11_run 32 = .ok (.iload_n 1, 1) := by decide +kernel
theorem dX11_run_33 : decode cX11_run 33 = .ok (.iload_n 2, 1) := by decide +kernel
theorem dX11_run_34 : decode cX11_run 34 = .ok (.invokevirtual 323, 3) := by decide +kernel
theorem dX11_run_37 : decode cX11_run 37 = .ok (.ireturn, 1) := by decide +kernel
theorem dX11_says_0 : decode cX11_says 0 = .ok (.aload_n 0, 1) := by decide +kernel
theorem dX11_says_1 : decode cX11_says 1 = .ok (.getfield 57, 3) := by decide +kernel
theorem dX11_says_4 : decode cX11_says 4 = .ok (.aload_n 0, 1) := by decide +kernel
theorem dX11_says_5 : decode cX11_says 5 = .ok (.getfield 10, 3) := by decide +kernel
theorem dX11_says_8 : decode cX11_says 8 = .ok (.invokevirtual 261, 3) := by decide +kernel
theorem dX11_says_11 : decode cX11_says 11 = .ok (.ifCond .eq 20, 3) := by decide +kernel
theorem dX11_says_14 : decode cX11_says 14 = .ok (.aload_n 0, 1) := by decide +kernel
theorem dX11_says_15 : decode cX11_says 15 = .ok (.getfield 57, 3) := by decide +kernel
theorem dX11_says_18 : decode cX11_says 18 = .ok (.aload_n 0, 1) := by decide +kernel
theorem dX11_says_19 : decode cX11_says 19 = .ok (.getfield 10, 3) := by decide +kernel
theorem dX11_says_22 : decode cX11_says 22 = .ok (.getfield 148, 3) := by decide +kernel
theorem dX11_says_25 : decode cX11_says 25 = .ok (.invokevirtual 262, 3) := by decide +kernel
theorem dX11_says_28 : decode cX11_says 28 = .ok (.goto 4, 3) := by decide +kernel
theorem dX11_says_31 : decode cX11_says 31 = .ok (.iconst (-1), 1) := by decide +kernel
theorem dX11_says_32 : decode cX11_says 32 = .ok (.istore_n 1, 1) := by decide +kernel
theorem dX11_says_33 : decode cX11_says 33 = .ok (.aload_n 0, 1) := by decide +kernel
theorem dX11_says_34 : decode cX11_says 34 = .ok (.getfield 10, 3) := by decide +kernel
theorem dX11_says_37 : decode cX11_says 37 = .ok (.invokevirtual 110, 3) := by decide +kernel
theorem dX11_says_40 : decode cX11_says 40 = .ok (.iload_n 1, 1) := by decide +kernel
theorem dX11_says_41 : decode cX11_says 41 = .ok (.ireturn, 1) := by decide +kernel
theorem dX11_settle_0 : decode cX11_settle 0 = .ok (.aload_n 0, 1) := by decide +kernel
theorem dX11_settle_1 : decode cX11_settle 1 = .ok (.getfield 23, 3) := by decide +kernel
theorem dX11_settle_4 : decode cX11_settle 4 = .ok (.invokevirtual 156, 3) := by decide +kernel
theorem dX11_settle_7 : decode cX11_settle 7 = .ok (.ifCond .eq 7, 3) := by decide +kernel
theorem dX11_settle_10 : decode cX11_settle 10 = .ok (.iconst (-1), 1) := by decide +kernel
theorem dX11_settle_11 : decode cX11_settle 11 = .ok (.goto 14, 3) := by decide +kernel
theorem dX11_settle_14 : decode cX11_settle 14 = .ok (.aload_n 0, 1) := by decide +kernel
theorem dX11_settle_15 : decode cX11_settle 15 = .ok (.getfield 50, 3) := by decide +kernel
theorem dX11_settle_18 : decode cX11_settle 18 = .ok (.aload_n 0, 1) := by decide +kernel
theorem dX11_settle_19 : decode cX11_settle 19 = .ok (.getfield 23, 3) := by decide +kernel
theorem dX11_settle_22 : decode cX11_settle 22 = .ok (.invokevirtual 227, 3) := by decide +kernel
theorem dX11_settle_25 : decode cX11_settle 25 = .ok (.ireturn, 1) := by decide +kernel
theorem dX11_settled_0 : decode cX11_settled 0 = .ok (.iload_n 1, 1) := by decide +kernel
theorem dX11_settled_1 : decode cX11_settled 1 = .ok (.iload_n 2, 1) := by decide +kernel
theorem dX11_settled_2 : decode cX11_settled 2 = .ok (.invokestatic 230, 3) := by decide +kernel
theorem dX11_settled_5 : decode cX11_settled 5 = .ok (.ifCond .eq 19, 3) := by decide +kernel
theorem dX11_settled_8 : decode cX11_settled 8 = .ok (.aload_n 0, 1) := by decide +kernel
theorem dX11_settled_9 : decode cX11_settled 9 = .ok (.getfield 50, 3) := by decide +kernel
theorem dX11_settled_12 : decode cX11_settled 12 = .ok (.getfield 233, 3) := by decide +kernel
theorem dX11_settled_15 : decode cX11_settled 15 = .ok (.iload_n 1, 1) := by decide +kernel
theorem dX11_settled_16 : decode cX11_settled 16 = .ok (.iconst 3, 1) := by decide +kernel
theorem dX11_settled_17 : decode cX11_settled 17 = .ok (.imul, 1) := by decide +kernel
theorem dX11_settled_18 : decode cX11_settled 18 = .ok (.iload_n 2, 1) := by decide +kernel
theorem dX11_settled_19 : decode cX11_settled 19 = .ok (.iadd, 1) := by decide +kernel
theorem dX11_settled_20 : decode cX11_settled 20 = .ok (.iaload, 1) := by decide +kernel
theorem dX11_settled_21 : decode cX11_settled 21 = .ok (.goto 4, 3) := by decide +kernel
theorem dX11_settled_24 : decode cX11_settled 24 = .ok (.iconst (-1), 1) := by decide +kernel
theorem dX11_settled_25 : decode cX11_settled 25 = .ok (.ireturn, 1) := by decide +kernel
theorem dX11_settles_0 : decode cX11_settles 0 = .ok (.iload_n 1, 1) := by decide +kernel
theorem dX11_settles_1 : decode cX11_settles 1 = .ok (.lookupswitch 43 #[(0, 27), (1, 35)], 27) := by decide +kernel
theorem dX11_settles_28 : decode cX11_settles 28 = .ok (.aload_n 0, 1) := by decide +kernel
theorem dX11_settles_29 : decode cX11_settles 29 = .ok (.getfield 50, 3) := by decide +kernel
theorem dX11_settles_32 : decode cX11_settles 32 = .ok (.getfield 236, 3) := by decide +kernel
theorem dX11_settles_35 : decode cX11_settles 35 = .ok (.lreturn, 1) := by decide +kernel
theorem dX11_settles_36 : decode cX11_settles 36 = .ok (.aload_n 0, 1) := by decide +kernel
theorem dX11_settles_37 : decode cX11_settles 37 = .ok (.getfield 50, 3) := by decide +kernel
theorem dX11_settles_40 : decode cX11_settles 40 = .ok (.getfield 240, 3) := by decide +kernel
theorem dX11_settles_43 : decode cX11_settles 43 = .ok (.lreturn, 1) := by decide +kernel
theorem dX11_settles_44 : decode cX11_settles 44 = .ok (.ldc2_w 243, 3) := by decide +kernel
theorem dX11_settles_47 : decode cX11_settles 47 = .ok (.lreturn, 1) := by decide +kernel
theorem dX11_shut_0 : decode cX11_shut 0 = .ok (.aload_n 0, 1) := by decide +kernel
theorem dX11_shut_1 : decode cX11_shut 1 = .ok (.getfield 23, 3) := by decide +kernel
theorem dX11_shut_4 : decode cX11_shut 4 = .ok (.iload_n 1, 1) := by decide +kernel
theorem dX11_shut_5 : decode cX11_shut 5 = .ok (.invokevirtual 138, 3) := by decide +kernel
theorem dX11_shut_8 : decode cX11_shut 8 = .ok (.ifCond .eq 15, 3) := by decide +kernel
theorem dX11_shut_11 : decode cX11_shut 11 = .ok (.aload_n 0, 1) := by decide +kernel
theorem dX11_shut_12 : decode cX11_shut 12 = .ok (.getfield 23, 3) := by decide +kernel
theorem dX11_shut_15 : decode cX11_shut 15 = .ok (.iload_n 2, 1) := by decide +kernel
theorem dX11_shut_16 : decode cX11_shut 16 = .ok (.iload_n 3, 1) := by decide +kernel
theorem dX11_shut_17 : decode cX11_shut 17 = .ok (.invokevirtual 164, 3) := by decide +kernel
theorem dX11_shut_20 : decode cX11_shut 20 = .ok (.ifCond .ne 11, 3) := by decide +kernel
theorem dX11_shut_23 : decode cX11_shut 23 = .ok (.new 145, 3) := by decide +kernel
theorem dX11_shut_26 : decode cX11_shut 26 = .ok (.dup, 1) := by decide +kernel
theorem dX11_shut_27 : decode cX11_shut 27 = .ok (.invokespecial 147, 3) := by decide +kernel
theorem dX11_shut_30 : decode cX11_shut 30 = .ok (.athrow, 1) := by decide +kernel
theorem dX11_shut_31 : decode cX11_shut 31 = .ok (.aload_n 0, 1) := by decide +kernel
theorem dX11_shut_32 : decode cX11_shut 32 = .ok (.getfield 41, 3) := by decide +kernel
theorem dX11_shut_35 : decode cX11_shut 35 = .ok (.aload_n 0, 1) := by decide +kernel
theorem dX11_shut_36 : decode cX11_shut 36 = .ok (.getfield 23, 3) := by decide +kernel
theorem dX11_shut_39 : decode cX11_shut 39 = .ok (.aload_n 0, 1) := by decide +kernel
theorem dX11_shut_40 : decode cX11_shut 40 = .ok (.getfield 23, 3) := by decide +kernel
theorem dX11_shut_43 : decode cX11_shut 43 = .ok (.getfield 168, 3) := by decide +kernel
theorem dX11_shut_46 : decode cX11_shut 46 = .ok (.invokevirtual 175, 3) := by decide +kernel
theorem dX11_shut_49 : decode cX11_shut 49 = .ok (.aload_n 0, 1) := by decide +kernel
theorem dX11_shut_50 : decode cX11_shut 50 = .ok (.getfield 41, 3) := by decide +kernel
theorem dX11_shut_53 : decode cX11_shut 53 = .ok (.iload_n 2, 1) := by decide +kernel
theorem dX11_shut_54 : decode cX11_shut 54 = .ok (.iload_n 3, 1) := by decide +kernel
theorem dX11_shut_55 : decode cX11_shut 55 = .ok (.aload_n 0, 1) := by decide +kernel
theorem dX11_shut_56 : decode cX11_shut 56 = .ok (.getfield 23, 3) := by decide +kernel
theorem dX11_shut_59 : decode cX11_shut 59 = .ok (.getfield 168, 3) := by decide +kernel
theorem dX11_shut_62 : decode cX11_shut 62 = .ok (.iload_n 2, 1) := by decide +kernel
theorem dX11_shut_63 : decode cX11_shut 63 = .ok (.iconst 3, 1) := by decide +kernel
theorem dX11_shut_64 : decode cX11_shut 64 = .ok (.imul, 1) := by decide +kernel
theorem dX11_shut_65 : decode cX11_shut 65 = .ok (.iload_n 3, 1) := by decide +kernel
theorem dX11_shut_66 : decode cX11_shut 66 = .ok (.iadd, 1) := by decide +kernel
theorem dX11_shut_67 : decode cX11_shut 67 = .ok (.iaload, 1) := by decide +kernel
theorem dX11_shut_68 : decode cX11_shut 68 = .ok (.invokevirtual 296, 3) := by decide +kernel
theorem dX11_shut_71 : decode cX11_shut 71 = .ok (.aload_n 0, 1) := by decide +kernel
theorem dX11_shut_72 : decode cX11_shut 72 = .ok (.getfield 41, 3) := by decide +kernel
theorem dX11_shut_75 : decode cX11_shut 75 = .ok (.aload_n 0, 1) := by decide +kernel
theorem dX11_shut_76 : decode cX11_shut 76 = .ok (.getfield 87, 3) := by decide +kernel
theorem dX11_shut_79 : decode cX11_shut 79 = .ok (.invokevirtual 179, 3) := by decide +kernel
theorem dX11_shut_82 : decode cX11_shut 82 = .ok (.aload_n 0, 1) := by decide +kernel
theorem dX11_shut_83 : decode cX11_shut 83 = .ok (.getfield 87, 3) := by decide +kernel
theorem dX11_shut_86 : decode cX11_shut 86 = .ok (.iload_n 1, 1) := by decide +kernel
theorem dX11_shut_87 : decode cX11_shut 87 = .ok (.laload, 1) := by decide +kernel
theorem dX11_shut_88 : decode cX11_shut 88 = .ok (.aload_n 0, 1) := by decide +kernel
theorem dX11_shut_89 : decode cX11_shut 89 = .ok (.getfield 87, 3) := by decide +kernel
theorem dX11_shut_92 : decode cX11_shut 92 = .ok (.iconst 3, 1) := by decide +kernel
theorem dX11_shut_93 : decode cX11_shut 93 = .ok (.iload_n 1, 1) := by decide +kernel
theorem dX11_shut_94 : decode cX11_shut 94 = .ok (.iadd, 1) := by decide +kernel
theorem dX11_shut_95 : decode cX11_shut 95 = .ok (.laload, 1) := by decide +kernel
theorem dX11_shut_96 : decode cX11_shut 96 = .ok (.ladd, 1) := by decide +kernel
theorem dX11_shut_97 : decode cX11_shut 97 = .ok (.aload_n 0, 1) := by decide +kernel
theorem dX11_shut_98 : decode cX11_shut 98 = .ok (.getfield 87, 3) := by decide +kernel
theorem dX11_shut_101 : decode cX11_shut 101 = .ok (.bipush 6, 2) := by decide +kernel
theorem dX11_shut_103 : decode cX11_shut 103 = .ok (.iload_n 1, 1) := by decide +kernel
theorem dX11_shut_104 : decode cX11_shut 104 = .ok (.iadd, 1) := by decide +kernel
theorem dX11_shut_105 : decode cX11_shut 105 = .ok (.laload, 1) := by decide +kernel
theorem dX11_shut_106 : decode cX11_shut 106 = .ok (.ladd, 1) := by decide +kernel
theorem dX11_shut_107 : decode cX11_shut 107 = .ok (.lreturn, 1) := by decide +kernel
theorem dX11_signs_0 : decode cX11_signs 0 = .ok (.aload_n 0, 1) := by decide +kernel
theorem dX11_signs_1 : decode cX11_signs 1 = .ok (.getfield 23, 3) := by decide +kernel
theorem dX11_signs_4 : decode cX11_signs 4 = .ok (.iload_n 1, 1) := by decide +kernel
theorem dX11_signs_5 : decode cX11_signs 5 = .ok (.invokevirtual 126, 3) := by decide +kernel
theorem dX11_signs_8 : decode cX11_signs 8 = .ok (.ifCond .eq 18, 3) := by decide +kernel
theorem dX11_signs_11 : decode cX11_signs 11 = .ok (.aload_n 0, 1) := by decide +kernel
theorem dX11_signs_12 : decode cX11_signs 12 = .ok (.getfield 23, 3) := by decide +kernel
theorem dX11_signs_15 : decode cX11_signs 15 = .ok (.getfield 129, 3) := by decide +kernel
theorem dX11_signs_18 : decode cX11_signs 18 = .ok (.iload_n 1, 1) := by decide +kernel
theorem dX11_signs_19 : decode cX11_signs 19 = .ok (.aaload, 1) := by decide +kernel
theorem dX11_signs_20 : decode cX11_signs 20 = .ok (.getfield 133, 3) := by decide +kernel
theorem dX11_signs_23 : decode cX11_signs 23 = .ok (.goto 4, 3) := by decide +kernel
theorem dX11_signs_26 : decode cX11_signs 26 = .ok (.iconst (-1), 1) := by decide +kernel
theorem dX11_signs_27 : decode cX11_signs 27 = .ok (.ireturn, 1) := by decide +kernel
theorem dX11_silent_0 : decode cX11_silent 0 = .ok (.iconst (-1), 1) := by decide +kernel
theorem dX11_silent_1 : decode cX11_silent 1 = .ok (.istore_n 1, 1) := by decide +kernel
theorem dX11_silent_2 : decode cX11_silent 2 = .ok (.aload_n 0, 1) := by decide +kernel
theorem dX11_silent_3 : decode cX11_silent 3 = .ok (.invokevirtual 278, 3) := by decide +kernel
theorem dX11_silent_6 : decode cX11_silent 6 = .ok (.lstore_n 2, 1) := by decide +kernel
theorem dX11_silent_7 : decode cX11_silent 7 = .ok (.iconst 0, 1) := by decide +kernel
theorem dX11_silent_8 : decode cX11_silent 8 = .ok (.istore 4, 2) := by decide +kernel
theorem dX11_silent_10 : decode cX11_silent 10 = .ok (.iload 4, 2) := by decide +kernel
theorem dX11_silent_12 : decode cX11_silent 12 = .ok (.aload_n 0, 1) := by decide +kernel
theorem dX11_silent_13 : decode cX11_silent 13 = .ok (.getfield 23, 3) := by decide +kernel
theorem dX11_silent_16 : decode cX11_silent 16 = .ok (.getfield 120, 3) := by decide +kernel
theorem dX11_silent_19 : decode cX11_silent 19 = .ok (.if_icmp .ge 31, 3) := by decide +kernel
theorem dX11_silent_22 : decode cX11_silent 22 = .ok (.aload_n 0, 1) := by decide +kernel
theorem dX11_silent_23 : decode cX11_silent 23 = .ok (.iload 4, 2) := by decide +kernel
theorem dX11_silent_25 : decode cX11_silent 25 = .ok (.iconst (-1), 1) := by decide +kernel
theorem dX11_silent_26 : decode cX11_silent 26 = .ok (.invokevirtual 187, 3) := by decide +kernel
theorem dX11_silent_29 : decode cX11_silent 29 = .ok (.lstore 5, 2) := by decide +kernel
theorem dX11_silent_31 : decode cX11_silent 31 = .ok (.lload 5, 2) := by decide +kernel
theorem dX11_silent_33 : decode cX11_silent 33 = .ok (.lload_n 2, 1) := by decide +kernel
theorem dX11_silent_34 : decode cX11_silent 34 = .ok (.lcmp, 1) := by decide +kernel
theorem dX11_silent_35 : decode cX11_silent 35 = .ok (.ifCond .ge 9, 3) := by decide +kernel
theorem dX11_silent_38 : decode cX11_silent 38 = .ok (.lload 5, 2) := by decide +kernel
theorem dX11_silent_40 : decode cX11_silent 40 = .ok (.lstore_n 2, 1) := by decide +kernel
theorem dX11_silent_41 : decode cX11_silent 41 = .ok (.iload 4, 2) := by decide +kernel
theorem dX11_silent_43 : decode cX11_silent 43 = .ok (.istore_n 1, 1) := by decide +kernel
theorem dX11_silent_44 : decode cX11_silent 44 = .ok (.iinc 4 1, 3) := by decide +kernel
theorem dX11_silent_47 : decode cX11_silent 47 = .ok (.goto (-37), 3) := by decide +kernel
theorem dX11_silent_50 : decode cX11_silent 50 = .ok (.iload_n 1, 1) := by decide +kernel
theorem dX11_silent_51 : decode cX11_silent 51 = .ok (.ireturn, 1) := by decide +kernel
theorem dX11_spareMatter_0 : decode cX11_spareMatter 0 = .ok (.iconst 0, 1) := by decide +kernel
theorem dX11_spareMatter_1 : decode cX11_spareMatter 1 = .ok (.istore_n 1, 1) := by decide +kernel
theorem dX11_spareMatter_2 : decode cX11_spareMatter 2 = .ok (.iload_n 1, 1) := by decide +kernel
theorem dX11_spareMatter_3 : decode cX11_spareMatter 3 = .ok (.iconst 2, 1) := by decide +kernel
theorem dX11_spareMatter_4 : decode cX11_spareMatter 4 = .ok (.if_icmp .ge 45, 3) := by decide +kernel
theorem dX11_spareMatter_7 : decode cX11_spareMatter 7 = .ok (.aload_n 0, 1) := by decide +kernel
theorem dX11_spareMatter_8 : decode cX11_spareMatter 8 = .ok (.getfield 18, 3) := by decide +kernel
theorem dX11_spareMatter_11 : decode cX11_spareMatter 11 = .ok (.iload_n 1, 1) := by decide +kernel
theorem dX11_spareMatter_12 : decode cX11_spareMatter 12 = .ok (.aaload, 1) := by decide +kernel
theorem dX11_spareMatter_13 : decode cX11_spareMatter 13 = .ok (.aload_n 0, 1) := by decide +kernel
theorem dX11_spareMatter_14 : decode cX11_spareMatter 14 = .ok (.getfield 23, 3) := by decide +kernel
theorem dX11_spareMatter_17 : decode cX11_spareMatter 17 = .ok (.if_acmp .eq 26, 3) := by decide +kernel
theorem dX11_spareMatter_20 : decode cX11_spareMatter 20 = .ok (.aload_n 0, 1) := by decide +kernel
theorem dX11_spareMatter_21 : decode cX11_spareMatter 21 = .ok (.getfield 18, 3) := by decide +kernel
theorem dX11_spareMatter_24 : decode cX11_spareMatter 24 = .ok (.iload_n 1, 1) := by decide +kernel
theorem dX11_spareMatter_25 : decode cX11_spareMatter 25 = .ok (.aaload, 1) := by decide +kernel
theorem dX11_spareMatter_26 : decode cX11_spareMatter 26 = .ok (.aload_n 0, 1) := by decide +kernel
theorem dX11_spareMatter_27 : decode cX11_spareMatter 27 = .ok (.getfield 57, 3) := by decide +kernel
theorem dX11_spareMatter_30 : decode cX11_spareMatter 30 = .ok (.getfield 329, 3) := by decide +kernel
theorem dX11_spareMatter_33 : decode cX11_spareMatter 33 = .ok (.if_acmp .eq 10, 3) := by decide +kernel
theorem dX11_spareMatter_36 : decode cX11_spareMatter 36 = .ok (.aload_n 0, 1) := by decide +kernel
theorem dX11_spareMatter_37 : decode cX11_spareMatter 37 = .ok (.getfield 18, 3) := by decide +kernel
theorem dX11_spareMatter_40 : decode cX11_spareMatter 40 = .ok (.iload_n 1, 1) := by decide +kernel
theorem dX11_spareMatter_41 : decode cX11_spareMatter 41 = .ok (.aaload, 1) := by decide +kernel
theorem dX11_spareMatter_42 : decode cX11_spareMatter 42 = .ok (.areturn, 1) := by decide +kernel
theorem dX11_spareMatter_43 : decode cX11_spareMatter 43 = .ok (.iinc 1 1, 3) := by decide +kernel
theorem dX11_spareMatter_46 : decode cX11_spareMatter 46 = .ok (.goto (-44), 3) := by decide +kernel
theorem dX11_spareMatter_49 : decode cX11_spareMatter 49 = .ok (.aload_n 0, 1) := by decide +kernel
theorem dX11_spareMatter_50 : decode cX11_spareMatter 50 = .ok (.getfield 18, 3) := by decide +kernel
theorem dX11_spareMatter_53 : decode cX11_spareMatter 53 = .ok (.iconst 2, 1) := by decide +kernel
theorem dX11_spareMatter_54 : decode cX11_spareMatter 54 = .ok (.aaload, 1) := by decide +kernel
theorem dX11_spareMatter_55 : decode cX11_spareMatter 55 = .ok (.areturn, 1) := by decide +kernel
theorem dX11_sumOf_0 : decode cX11_sumOf 0 = .ok (.lconst 0, 1) := by decide +kernel
theorem dX11_sumOf_1 : decode cX11_sumOf 1 = .ok (.lstore_n 1, 1) := by decide +kernel
theorem dX11_sumOf_2 : decode cX11_sumOf 2 = .ok (.iconst 0, 1) := by decide +kernel
theorem dX11_sumOf_3 : decode cX11_sumOf 3 = .ok (.istore_n 3, 1) := by decide +kernel
theorem dX11_sumOf_4 : decode cX11_sumOf 4 = .ok (.iload_n 3, 1) := by decide +kernel
theorem dX11_sumOf_5 : decode cX11_sumOf 5 = .ok (.bipush 9, 2) := by decide +kernel
theorem dX11_sumOf_7 : decode cX11_sumOf 7 = .ok (.if_icmp .ge 15, 3) := by decide +kernel
theorem dX11_sumOf_10 : decode cX11_sumOf 10 = .ok (.lload_n 1, 1) := by decide +kernel
theorem dX11_sumOf_11 : decode cX11_sumOf 11 = .ok (.aload_n 0, 1) := by decide +kernel
theorem dX11_sumOf_12 : decode cX11_sumOf 12 = .ok (.iload_n 3, 1) := by decide +kernel
theorem dX11_sumOf_13 : decode cX11_sumOf 13 = .ok (.laload, 1) := by decide +kernel
theorem dX11_sumOf_14 : decode cX11_sumOf 14 = .ok (.ladd, 1) := by decide +kernel
theorem dX11_sumOf_15 : decode cX11_sumOf 15 = .ok (.lstore_n 1, 1) := by decide +kernel
theorem dX11_sumOf_16 : decode cX11_sumOf 16 = .ok (.iinc 3 1, 3) := by decide +kernel
theorem dX11_sumOf_19 : decode cX11_sumOf 19 = .ok (.goto (-15), 3) := by decide +kernel
theorem dX11_sumOf_22 : decode cX11_sumOf 22 = .ok (.lload_n 1, 1) := by decide +kernel
theorem dX11_sumOf_23 : decode cX11_sumOf 23 = .ok (.lreturn, 1) := by decide +kernel
theorem dX11_think_0 : decode cX11_think 0 = .ok (.aload_n 0, 1) := by decide +kernel
theorem dX11_think_1 : decode cX11_think 1 = .ok (.getfield 23, 3) := by decide +kernel
theorem dX11_think_4 : decode cX11_think 4 = .ok (.iload_n 1, 1) := by decide +kernel
theorem dX11_think_5 : decode cX11_think 5 = .ok (.iload_n 2, 1) := by decide +kernel
theorem dX11_think_6 : decode cX11_think 6 = .ok (.invokevirtual 164, 3) := by decide +kernel
theorem dX11_think_9 : decode cX11_think 9 = .ok (.ifCond .eq 14, 3) := by decide +kernel
theorem dX11_think_12 : decode cX11_think 12 = .ok (.aload_n 0, 1) := by decide +kernel
theorem dX11_think_13 : decode cX11_think 13 = .ok (.getfield 23, 3) := by decide +kernel
theorem dX11_think_16 : decode cX11_think 16 = .ok (.iload_n 3, 1) := by decide +kernel
theorem dX11_think_17 : decode cX11_think 17 = .ok (.invokevirtual 138, 3) := by decide +kernel
theorem dX11_think_20 : decode cX11_think 20 = .ok (.ifCond .ne 11, 3) := by decide +kernel
theorem dX11_think_23 : decode cX11_think 23 = .ok (.new 145, 3) := by decide +kernel
theorem dX11_think_26 : decode cX11_think 26 = .ok (.dup, 1) := by decide +kernel
theorem dX11_think_27 : decode cX11_think 27 = .ok (.invokespecial 147, 3) := by decide +kernel
theorem dX11_think_30 : decode cX11_think 30 = .ok (.athrow, 1) := by decide +kernel
theorem dX11_think_31 : decode cX11_think 31 = .ok (.aload_n 0, 1) := by decide +kernel
theorem dX11_think_32 : decode cX11_think 32 = .ok (.getfield 50, 3) := by decide +kernel
theorem dX11_think_35 : decode cX11_think 35 = .ok (.aload_n 0, 1) := by decide +kernel
theorem dX11_think_36 : decode cX11_think 36 = .ok (.getfield 23, 3) := by decide +kernel
theorem dX11_think_39 : decode cX11_think 39 = .ok (.iload_n 1, 1) := by decide +kernel
theorem dX11_think_40 : decode cX11_think 40 = .ok (.iload_n 2, 1) := by decide +kernel
theorem dX11_think_41 : decode cX11_think 41 = .ok (.invokevirtual 208, 3) := by decide +kernel
theorem dX11_think_44 : decode cX11_think 44 = .ok (.aload_n 0, 1) := by decide +kernel
theorem dX11_think_45 : decode cX11_think 45 = .ok (.getfield 50, 3) := by decide +kernel
theorem dX11_think_48 : decode cX11_think 48 = .ok (.getfield 212, 3) := by decide +kernel
theorem dX11_think_51 : decode cX11_think 51 = .ok (.iload_n 3, 1) := by decide +kernel
theorem dX11_think_52 : decode cX11_think 52 = .ok (.laload, 1) := by decide +kernel
theorem dX11_think_53 : decode cX11_think 53 = .ok (.lreturn, 1) := by decide +kernel
theorem dX11_turns_0 : decode cX11_turns 0 = .ok (.aload_n 0, 1) := by decide +kernel
theorem dX11_turns_1 : decode cX11_turns 1 = .ok (.getfield 23, 3) := by decide +kernel
theorem dX11_turns_4 : decode cX11_turns 4 = .ok (.iload_n 1, 1) := by decide +kernel
theorem dX11_turns_5 : decode cX11_turns 5 = .ok (.iload_n 2, 1) := by decide +kernel
theorem dX11_turns_6 : decode cX11_turns 6 = .ok (.invokevirtual 164, 3) := by decide +kernel
theorem dX11_turns_9 : decode cX11_turns 9 = .ok (.ifCond .ne 11, 3) := by decide +kernel
theorem dX11_turns_12 : decode cX11_turns 12 = .ok (.new 145, 3) := by decide +kernel
theorem dX11_turns_15 : decode cX11_turns 15 = .ok (.dup, 1) := by decide +kernel
theorem dX11_turns_16 : decode cX11_turns 16 = .ok (.invokespecial 147, 3) := by decide +kernel
theorem dX11_turns_19 : decode cX11_turns 19 = .ok (.athrow, 1) := by decide +kernel
theorem dX11_turns_20 : decode cX11_turns 20 = .ok (.aload_n 0, 1) := by decide +kernel
theorem dX11_turns_21 : decode cX11_turns 21 = .ok (.getfield 50, 3) := by decide +kernel
theorem dX11_turns_24 : decode cX11_turns 24 = .ok (.aload_n 0, 1) := by decide +kernel
theorem dX11_turns_25 : decode cX11_turns 25 = .ok (.getfield 23, 3) := by decide +kernel
theorem dX11_turns_28 : decode cX11_turns 28 = .ok (.iload_n 1, 1) := by decide +kernel
theorem dX11_turns_29 : decode cX11_turns 29 = .ok (.iload_n 2, 1) := by decide +kernel
theorem dX11_turns_30 : decode cX11_turns 30 = .ok (.invokevirtual 208, 3) := by decide +kernel
theorem dX11_turns_33 : decode cX11_turns 33 = .ok (.aload_n 0, 1) := by decide +kernel
theorem dX11_turns_34 : decode cX11_turns 34 = .ok (.getfield 50, 3) := by decide +kernel
theorem dX11_turns_37 : decode cX11_turns 37 = .ok (.getfield 212, 3) := by decide +kernel
theorem dX11_turns_40 : decode cX11_turns 40 = .ok (.iconst 0, 1) := by decide +kernel
theorem dX11_turns_41 : decode cX11_turns 41 = .ok (.laload, 1) := by decide +kernel
theorem dX11_turns_42 : decode cX11_turns 42 = .ok (.aload_n 0, 1) := by decide +kernel
theorem dX11_turns_43 : decode cX11_turns 43 = .ok (.getfield 50, 3) := by decide +kernel
theorem dX11_turns_46 : decode cX11_turns 46 = .ok (.getfield 212, 3) := by decide +kernel
theorem dX11_turns_49 : decode cX11_turns 49 = .ok (.iconst 1, 1) := by decide +kernel
theorem dX11_turns_50 : decode cX11_turns 50 = .ok (.laload, 1) := by decide +kernel
theorem dX11_turns_51 : decode cX11_turns 51 = .ok (.ladd, 1) := by decide +kernel
theorem dX11_turns_52 : decode cX11_turns 52 = .ok (.aload_n 0, 1) := by decide +kernel
theorem dX11_turns_53 : decode cX11_turns 53 = .ok (.getfield 50, 3) := by decide +kernel
theorem dX11_turns_56 : decode cX11_turns 56 = .ok (.getfield 212, 3) := by decide +kernel
theorem dX11_turns_59 : decode cX11_turns 59 = .ok (.iconst 2, 1) := by decide +kernel
theorem dX11_turns_60 : decode cX11_turns 60 = .ok (.laload, 1) := by decide +kernel
theorem dX11_turns_61 : decode cX11_turns 61 = .ok (.ladd, 1) := by decide +kernel
theorem dX11_turns_62 : decode cX11_turns 62 = .ok (.lreturn, 1) := by decide +kernel
theorem dX11_vote_0 : decode cX11_vote 0 = .ok (.aload_n 0, 1) := by decide +kernel
theorem dX11_vote_1 : decode cX11_vote 1 = .ok (.getfield 23, 3) := by decide +kernel
theorem dX11_vote_4 : decode cX11_vote 4 = .ok (.iload_n 1, 1) := by decide +kernel
theorem dX11_vote_5 : decode cX11_vote 5 = .ok (.iload_n 2, 1) := by decide +kernel
theorem dX11_vote_6 : decode cX11_vote 6 = .ok (.invokevirtual 164, 3) := by decide +kernel
theorem dX11_vote_9 : decode cX11_vote 9 = .ok (.ifCond .eq 19, 3) := by decide +kernel
theorem dX11_vote_12 : decode cX11_vote 12 = .ok (.aload_n 0, 1) := by decide +kernel
theorem dX11_vote_13 : decode cX11_vote 13 = .ok (.getfield 23, 3) := by decide +kernel
theorem dX11_vote_16 : decode cX11_vote 16 = .ok (.getfield 168, 3) := by decide +kernel
theorem dX11_vote_19 : decode cX11_vote 19 = .ok (.iload_n 1, 1) := by decide +kernel
theorem dX11_vote_20 : decode cX11_vote 20 = .ok (.iconst 3, 1) := by decide +kernel
theorem dX11_vote_21 : decode cX11_vote 21 = .ok (.imul, 1) := by decide +kernel
theorem dX11_vote_22 : decode cX11_vote 22 = .ok (.iload_n 2, 1) := by decide +kernel
theorem dX11_vote_23 : decode cX11_vote 23 = .ok (.iadd, 1) := by decide +kernel
theorem dX11_vote_24 : decode cX11_vote 24 = .ok (.iaload, 1) := by decide +kernel
theorem dX11_vote_25 : decode cX11_vote 25 = .ok (.goto 4, 3) := by decide +kernel
theorem dX11_vote_28 : decode cX11_vote 28 = .ok (.iconst (-1), 1) := by decide +kernel
theorem dX11_vote_29 : decode cX11_vote 29 = .ok (.ireturn, 1) := by decide +kernel
theorem dX11_weighed_0 : decode cX11_weighed 0 = .ok (.aload_n 0, 1) := by decide +kernel
theorem dX11_weighed_1 : decode cX11_weighed 1 = .ok (.getfield 23, 3) := by decide +kernel
theorem dX11_weighed_4 : decode cX11_weighed 4 = .ok (.invokevirtual 156, 3) := by decide +kernel
theorem dX11_weighed_7 : decode cX11_weighed 7 = .ok (.ifCond .ne 14, 3) := by decide +kernel
theorem dX11_weighed_10 : decode cX11_weighed 10 = .ok (.aload_n 0, 1) := by decide +kernel
theorem dX11_weighed_11 : decode cX11_weighed 11 = .ok (.getfield 23, 3) := by decide +kernel
theorem dX11_weighed_14 : decode cX11_weighed 14 = .ok (.getfield 120, 3) := by decide +kernel
theorem dX11_weighed_17 : decode cX11_weighed 17 = .ok (.iconst 5, 1) := by decide +kernel
theorem dX11_weighed_18 : decode cX11_weighed 18 = .ok (.if_icmp .le 7, 3) := by decide +kernel
theorem dX11_weighed_21 : decode cX11_weighed 21 = .ok (.ldc2_w 243, 3) := by decide +kernel
theorem dX11_weighed_24 : decode cX11_weighed 24 = .ok (.lreturn, 1) := by decide +kernel
theorem dX11_weighed_25 : decode cX11_weighed 25 = .ok (.aload_n 0, 1) := by decide +kernel
theorem dX11_weighed_26 : decode cX11_weighed 26 = .ok (.getfield 69, 3) := by decide +kernel
theorem dX11_weighed_29 : decode cX11_weighed 29 = .ok (.aload_n 0, 1) := by decide +kernel
theorem dX11_weighed_30 : decode cX11_weighed 30 = .ok (.getfield 23, 3) := by decide +kernel
theorem dX11_weighed_33 : decode cX11_weighed 33 = .ok (.invokevirtual 313, 3) := by decide +kernel
theorem dX11_weighed_36 : decode cX11_weighed 36 = .ok (.lreturn, 1) := by decide +kernel
theorem dX11_weighedAt_0 : decode cX11_weighedAt 0 = .ok (.iload_n 1, 1) := by decide +kernel
theorem dX11_weighedAt_1 : decode cX11_weighedAt 1 = .ok (.ifCond .lt 21, 3) := by decide +kernel
theorem dX11_weighedAt_4 : decode cX11_weighedAt 4 = .ok (.iload_n 1, 1) := by decide +kernel
theorem dX11_weighedAt_5 : decode cX11_weighedAt 5 = .ok (.bipush 8, 2) := by decide +kernel
theorem dX11_weighedAt_7 : decode cX11_weighedAt 7 = .ok (.if_icmp .ge 15, 3) := by decide +kernel
theorem dX11_weighedAt_10 : decode cX11_weighedAt 10 = .ok (.aload_n 0, 1) := by decide +kernel
theorem dX11_weighedAt_11 : decode cX11_weighedAt 11 = .ok (.getfield 69, 3) := by decide +kernel
theorem dX11_weighedAt_14 : decode cX11_weighedAt 14 = .ok (.getfield 317, 3) := by decide +kernel
theorem dX11_weighedAt_17 : decode cX11_weighedAt 17 = .ok (.iload_n 1, 1) := by decide +kernel
theorem dX11_weighedAt_18 : decode cX11_weighedAt 18 = .ok (.iaload, 1) := by decide +kernel
theorem dX11_weighedAt_19 : decode cX11_weighedAt 19 = .ok (.goto 4, 3) := by decide +kernel
theorem dX11_weighedAt_22 : decode cX11_weighedAt 22 = .ok (.iconst (-1), 1) := by decide +kernel
theorem dX11_weighedAt_23 : decode cX11_weighedAt 23 = .ok (.ireturn, 1) := by decide +kernel
theorem dX12_all_0 : decode cX12_all 0 = .ok (.aload_n 0, 1) := by decide +kernel
theorem dX12_all_1 : decode cX12_all 1 = .ok (.iconst 0, 1) := by decide +kernel
theorem dX12_all_2 : decode cX12_all 2 = .ok (.putfield 149, 3) := by decide +kernel
theorem dX12_all_5 : decode cX12_all 5 = .ok (.aload_n 0, 1) := by decide +kernel
theorem dX12_all_6 : decode cX12_all 6 = .ok (.getfield 306, 3) := by decide +kernel
theorem dX12_all_9 : decode cX12_all 9 = .ok (.ifCond .ne 7, 3) := by decide +kernel
theorem dX12_all_12 : decode cX12_all 12 = .ok (.lconst 0, 1) := by decide +kernel
theorem dX12_all_13 : decode cX12_all 13 = .ok (.goto 6, 3) := by decide +kernel
theorem dX12_all_16 : decode cX12_all 16 = .ok (.ldc2_w 328, 3) := by decide +kernel
theorem dX12_all_19 : decode cX12_all 19 = .ok (.lstore_n 1, 1) := by decide +kernel
theorem dX12_all_20 : decode cX12_all 20 = .ok (.iconst 0, 1) := by decide +kernel
theorem dX12_all_21 : decode cX12_all 21 = .ok (.istore_n 3, 1) := by decide +kernel
theorem dX12_all_22 : decode cX12_all 22 = .ok (.iload_n 3, 1) := by decide +kernel
theorem dX12_all_23 : decode cX12_all 23 = .ok (.aload_n 0, 1) := by decide +kernel
theorem dX12_all_24 : decode cX12_all 24 = .ok (.getfield 306, 3) := by decide +kernel
theorem dX12_all_27 : decode cX12_all 27 = .ok (.if_icmp .ge 15, 3) := by decide +kernel
theorem dX12_all_30 : decode cX12_all 30 = .ok (.lload_n 1, 1) := by decide +kernel
theorem dX12_all_31 : decode cX12_all 31 = .ok (.ldc2_w 328, 3) := by decide +kernel
theorem dX12_all_34 : decode cX12_all 34 = .ok (.lmul, 1) := by decide +kernel
theorem dX12_all_35 : decode cX12_all 35 = .ok (.lstore_n 1, 1) := by decide +kernel
theorem dX12_all_36 : decode cX12_all 36 = .ok (.iinc 3 1, 3) := by decide +kernel
theorem dX12_all_39 : decode cX12_all 39 = .ok (.goto (-17), 3) := by decide +kernel
theorem dX12_all_42 : decode cX12_all 42 = .ok (.lload_n 1, 1) := by decide +kernel
theorem dX12_all_43 : decode cX12_all 43 = .ok (.lreturn, 1) := by decide +kernel
theorem dX12_allOf_0 : decode cX12_allOf 0 = .ok (.lconst 0, 1) := by decide +kernel
theorem dX12_allOf_1 : decode cX12_allOf 1 = .ok (.lstore_n 2, 1) := by decide +kernel
theorem dX12_allOf_2 : decode cX12_allOf 2 = .ok (.iconst 0, 1) := by decide +kernel
theorem dX12_allOf_3 : decode cX12_allOf 3 = .ok (.istore 4, 2) := by decide +kernel
theorem dX12_allOf_5 : decode cX12_allOf 5 = .ok (.iload 4, 2) := by decide +kernel
theorem dX12_allOf_7 : decode cX12_allOf 7 = .ok (.aload_n 0, 1) := by decide +kernel
theorem dX12_allOf_8 : decode cX12_allOf 8 = .ok (.getfield 303, 3) := by decide +kernel
theorem dX12_allOf_11 : decode cX12_allOf 11 = .ok (.if_icmp .ge 23, 3) := by decide +kernel
theorem dX12_allOf_14 : decode cX12_allOf 14 = .ok (.lload_n 2, 1) := by decide +kernel
theorem dX12_allOf_15 : decode cX12_allOf 15 = .ok (.aload_n 0, 1) := by decide +kernel
theorem dX12_allOf_16 : decode cX12_allOf 16 = .ok (.getfield 65, 3) := by decide +kernel
theorem dX12_allOf_19 : decode cX12_allOf 19 = .ok (.iconst 3, 1) := by decide +kernel
theorem dX12_allOf_20 : decode cX12_allOf 20 = .ok (.iload_n 1, 1) := by decide +kernel
theorem dX12_allOf_21 : decode cX12_allOf 21 = .ok (.imul, 1) := by decide +kernel
theorem dX12_allOf_22 : decode cX12_allOf 22 = .ok (.iload 4, 2) := by decide +kernel
theorem dX12_allOf_24 : decode cX12_allOf 24 = .ok (.iadd, 1) := by decide +kernel
theorem dX12_allOf_25 : decode cX12_allOf 25 = .ok (.laload, 1) := by decide +kernel
theorem dX12_allOf_26 : decode cX12_allOf 26 = .ok (.ladd, 1) := by decide +kernel
theorem dX12_allOf_27 : decode cX12_allOf 27 = .ok (.lstore_n 2, 1) := by decide +kernel
theorem dX12_allOf_28 : decode cX12_allOf 28 = .ok (.iinc 4 1, 3) := by decide +kernel
theorem dX12_allOf_31 : decode cX12_allOf 31 = .ok (.goto (-26), 3) := by decide +kernel
theorem dX12_allOf_34 : decode cX12_allOf 34 = .ok (.lload_n 2, 1) := by decide +kernel
theorem dX12_allOf_35 : decode cX12_allOf 35 = .ok (.lreturn, 1) := by decide +kernel
theorem dX12_areTruths_0 : decode cX12_areTruths 0 = .ok (.iconst 0, 1) := by decide +kernel
theorem dX12_areTruths_1 : decode cX12_areTruths 1 = .ok (.istore_n 1, 1) := by decide +kernel
theorem dX12_areTruths_2 : decode cX12_areTruths 2 = .ok (.iconst 0, 1) := by decide +kernel
theorem dX12_areTruths_3 : decode cX12_areTruths 3 = .ok (.istore_n 2, 1) := by decide +kernel
theorem dX12_areTruths_4 : decode cX12_areTruths 4 = .ok (.iload_n 2, 1) := by decide +kernel
theorem dX12_areTruths_5 : decode cX12_areTruths 5 = .ok (.aload_n 0, 1) := by decide +kernel
theorem dX12_areTruths_6 : decode cX12_areTruths 6 = .ok (.getfield 20, 3) := by decide +kernel
theorem dX12_areTruths_9 : decode cX12_areTruths 9 = .ok (.iconst 1, 1) := by decide +kernel
theorem dX12_areTruths_10 : decode cX12_areTruths 10 = .ok (.iaload, 1) := by decide +kernel
theorem dX12_areTruths_11 : decode cX12_areTruths 11 = .ok (.if_icmp .ge 20, 3) := by decide +kernel
theorem dX12_areTruths_14 : decode cX12_areTruths 14 = .ok (.iload_n 1, 1) := by decide +kernel
theorem dX12_areTruths_15 : decode cX12_areTruths 15 = .ok (.aload_n 0, 1) := by decide +kernel
theorem dX12_areTruths_16 : decode cX12_areTruths 16 = .ok (.getfield 26, 3) := by decide +kernel
theorem dX12_areTruths_19 : decode cX12_areTruths 19 = .ok (.iconst 3, 1) := by decide +kernel
theorem dX12_areTruths_20 : decode cX12_areTruths 20 = .ok (.iload_n 2, 1) := by decide +kernel
theorem dX12_areTruths_21 : decode cX12_areTruths 21 = .ok (.iadd, 1) := by decide +kernel
theorem dX12_areTruths_22 : decode cX12_areTruths 22 = .ok (.iaload, 1) := by decide +kernel
theorem dX12_areTruths_23 : decode cX12_areTruths 23 = .ok (.iadd, 1) := by decide +kernel
theorem dX12_areTruths_24 : decode cX12_areTruths 24 = .ok (.istore_n 1, 1) := by decide +kernel
theorem dX12_areTruths_25 : decode cX12_areTruths 25 = .ok (.iinc 2 1, 3) := by decide +kernel
theorem dX12_areTruths_28 : decode cX12_areTruths 28 = .ok (.goto (-24), 3) := by decide +kernel
theorem dX12_areTruths_31 : decode cX12_areTruths 31 = .ok (.aload_n 0, 1) := by decide +kernel
theorem dX12_areTruths_32 : decode cX12_areTruths 32 = .ok (.getfield 20, 3) := by decide +kernel
theorem dX12_areTruths_35 : decode cX12_areTruths 35 = .ok (.iconst 1, 1) := by decide +kernel
theorem dX12_areTruths_36 : decode cX12_areTruths 36 = .ok (.iaload, 1) := by decide +kernel
theorem dX12_areTruths_37 : decode cX12_areTruths 37 = .ok (.iconst 1, 1) := by decide +kernel
theorem dX12_areTruths_38 : decode cX12_areTruths 38 = .ok (.if_icmp .le 13, 3) := by decide +kernel
theorem dX12_areTruths_41 : decode cX12_areTruths 41 = .ok (.iload_n 1, 1) := by decide +kernel
theorem dX12_areTruths_42 : decode cX12_areTruths 42 = .ok (.bipush 20, 2) := by decide +kernel
theorem dX12_areTruths_44 : decode cX12_areTruths 44 = .ok (.if_icmp .ne 7, 3) := by decide +kernel
theorem dX12_areTruths_47 : decode cX12_areTruths 47 = .ok (.iconst 1, 1) := by decide +kernel
theorem dX12_areTruths_48 : decode cX12_areTruths 48 = .ok (.goto 4, 3) := by decide +kernel
theorem dX12_areTruths_51 : decode cX12_areTruths 51 = .ok (.iconst 0, 1) := by decide +kernel
theorem dX12_areTruths_52 : decode cX12_areTruths 52 = .ok (.ireturn, 1) := by decide +kernel
theorem dX12_areVotesTold_0 : decode cX12_areVotesTold 0 = .ok (.aload_n 0, 1) := by decide +kernel
theorem dX12_areVotesTold_1 : decode cX12_areVotesTold 1 = .ok (.getfield 306, 3) := by decide +kernel
theorem dX12_areVotesTold_4 : decode cX12_areVotesTold 4 = .ok (.ifCond .eq 14, 3) := by decide +kernel
theorem dX12_areVotesTold_7 : decode cX12_areVotesTold 7 = .ok (.aload_n 0, 1) := by decide +kernel
theorem dX12_areVotesTold_8 : decode cX12_areVotesTold 8 = .ok (.getfield 153, 3) := by decide +kernel
theorem dX12_areVotesTold_11 : decode cX12_areVotesTold 11 = .ok (.aload_n 0, 1) := by decide +kernel
theorem dX12_areVotesTold_12 : decode cX12_areVotesTold 12 = .ok (.getfield 306, 3) := by decide +kernel
theorem dX12_areVotesTold_15 : decode cX12_areVotesTold 15 = .ok (.if_icmp .eq 5, 3) := by decide +kernel
theorem dX12_areVotesTold_18 : decode cX12_areVotesTold 18 = .ok (.iconst 0, 1) := by decide +kernel
theorem dX12_areVotesTold_19 : decode cX12_areVotesTold 19 = .ok (.ireturn, 1) := by decide +kernel
theorem dX12_areVotesTold_20 : decode cX12_areVotesTold 20 = .ok (.iconst 0, 1) := by decide +kernel
theorem dX12_areVotesTold_21 : decode cX12_areVotesTold 21 = .ok (.istore_n 1, 1) := by decide +kernel
theorem dX12_areVotesTold_22 : decode cX12_areVotesTold 22 = .ok (.iload_n 1, 1) := by decide +kernel
theorem dX12_areVotesTold_23 : decode cX12_areVotesTold 23 = .ok (.aload_n 0, 1) := by decide +kernel
theorem dX12_areVotesTold_24 : decode cX12_areVotesTold 24 = .ok (.getfield 306, 3) := by decide +kernel
theorem dX12_areVotesTold_27 : decode cX12_areVotesTold 27 = .ok (.if_icmp .ge 35, 3) := by decide +kernel
theorem dX12_areVotesTold_30 : decode cX12_areVotesTold 30 = .ok (.aload_n 0, 1) := by decide +kernel
theorem dX12_areVotesTold_31 : decode cX12_areVotesTold 31 = .ok (.getfield 7, 3) := by decide +kernel
theorem dX12_areVotesTold_34 : decode cX12_areVotesTold 34 = .ok (.iload_n 1, 1) := by decide +kernel
theorem dX12_areVotesTold_35 : decode cX12_areVotesTold 35 = .ok (.iaload, 1) := by decide +kernel
theorem dX12_areVotesTold_36 : decode cX12_areVotesTold 36 = .ok (.aload_n 0, 1) := by decide +kernel
theorem dX12_areVotesTold_37 : decode cX12_areVotesTold 37 = .ok (.getfield 303, 3) := by decide +kernel
theorem dX12_areVotesTold_40 : decode cX12_areVotesTold 40 = .ok (.if_icmp .lt 16, 3) := by decide +kernel
theorem dX12_areVotesTold_43 : decode cX12_areVotesTold 43 = .ok (.aload_n 0, 1) := by decide +kernel
theorem dX12_areVotesTold_44 : decode cX12_areVotesTold 44 = .ok (.getfield 7, 3) := by decide +kernel
theorem dX12_areVotesTold_47 : decode cX12_areVotesTold 47 = .ok (.iload_n 1, 1) := by decide +kernel
theorem dX12_areVotesTold_48 : decode cX12_areVotesTold 48 = .ok (.iaload, 1) := by decide +kernel
theorem dX12_areVotesTold_49 : decode cX12_areVotesTold 49 = .ok (.bipush 9, 2) := by decide +kernel
theorem dX12_areVotesTold_51 : decode cX12_areVotesTold 51 = .ok (.if_icmp .eq 5, 3) := by decide +kernel
theorem dX12_areVotesTold_54 : decode cX12_areVotesTold 54 = .ok (.iconst 0, 1) := by decide +kernel
theorem dX12_areVotesTold_55 : decode cX12_areVotesTold 55 = .ok (.ireturn, 1) := by decide +kernel
theorem dX12_areVotesTold_56 : decode cX12_areVotesTold 56 = .ok (.iinc 1 1, 3) := by decide +kernel
theorem dX12_areVotesTold_59 : decode cX12_areVotesTold 59 = .ok (.goto (-37), 3) := by decide +kernel
theorem dX12_areVotesTold_62 : decode cX12_areVotesTold 62 = .ok (.iconst 1, 1) := by decide +kernel
theorem dX12_areVotesTold_63 : decode cX12_areVotesTold 63 = .ok (.ireturn, 1) := by decide +kernel
theorem dX12_bad_0 : decode cX12_bad 0 = .ok (.aload_n 0, 1) := by decide +kernel
theorem dX12_bad_1 : decode cX12_bad 1 = .ok (.aload_n 0, 1) := by decide +kernel
theorem dX12_bad_2 : decode cX12_bad 2 = .ok (.getfield 169, 3) := by decide +kernel
theorem dX12_bad_5 : decode cX12_bad 5 = .ok (.iconst 1, 1) := by decide +kernel
theorem dX12_bad_6 : decode cX12_bad 6 = .ok (.if_icmp .ne 7, 3) := by decide +kernel
theorem dX12_bad_9 : decode cX12_bad 9 = .ok (.iconst 1, 1) := by decide +kernel
theorem dX12_bad_10 : decode cX12_bad 10 = .ok (.goto 4, 3) := by decide +kernel
theorem dX12_bad_13 : decode cX12_bad 13 = .ok (.iload_n 1, 1) := by decide +kernel
theorem dX12_bad_14 : decode cX12_bad 14 = .ok (.putfield 197, 3) := by decide +kernel
theorem dX12_bad_17 : decode cX12_bad 17 = .ok (.aload_n 0, 1) := by decide +kernel
theorem dX12_bad_18 : decode cX12_bad 18 = .ok (.aload_n 0, 1) := by decide +kernel
theorem dX12_bad_19 : decode cX12_bad 19 = .ok (.getfield 166, 3) := by decide +kernel
theorem dX12_bad_22 : decode cX12_bad 22 = .ok (.putfield 200, 3) := by decide +kernel
theorem dX12_bad_25 : decode cX12_bad 25 = .ok (.iconst 0, 1) := by decide +kernel
theorem dX12_bad_26 : decode cX12_bad 26 = .ok (.ireturn, 1) := by decide +kernel
theorem dX12_bar_0 : decode cX12_bar 0 = .ok (.aload_n 0, 1) := by decide +kernel
theorem dX12_bar_1 : decode cX12_bar 1 = .ok (.iconst 0, 1) := by decide +kernel
theorem dX12_bar_2 : decode cX12_bar 2 = .ok (.putfield 149, 3) := by decide +kernel
theorem dX12_bar_5 : decode cX12_bar 5 = .ok (.aload_n 0, 1) := by decide +kernel
theorem dX12_bar_6 : decode cX12_bar 6 = .ok (.iload_n 1, 1) := by decide +kernel
theorem dX12_bar_7 : decode cX12_bar 7 = .ok (.invokevirtual 322, 3) := by decide +kernel
theorem dX12_bar_10 : decode cX12_bar 10 = .ok (.ifCond .eq 16, 3) := by decide +kernel
theorem dX12_bar_13 : decode cX12_bar 13 = .ok (.aload_n 0, 1) := by decide +kernel
theorem dX12_bar_14 : decode cX12_bar 14 = .ok (.iload_n 2, 1) := by decide +kernel
theorem dX12_bar_15 : decode cX12_bar 15 = .ok (.invokevirtual 322, 3) := by decide +kernel
theorem dX12_bar_18 : decode cX12_bar 18 = .ok (.ifCond .eq 8, 3) := by decide +kernel
theorem dX12_bar_21 : decode cX12_bar 21 = .ok (.iload_n 1, 1) := by decide +kernel
theorem dX12_bar_22 : decode cX12_bar 22 = .ok (.iload_n 2, 1) := by decide +kernel
theorem dX12_bar_23 : decode cX12_bar 23 = .ok (.if_icmp .ne 5, 3) := by decide +kernel
theorem dX12_bar_26 : decode cX12_bar 26 = .ok (.iconst (-1), 1) := by decide +kernel
theorem dX12_bar_27 : decode cX12_bar 27 = .ok (.ireturn, 1) := by decide +kernel
theorem dX12_bar_28 : decode cX12_bar 28 = .ok (.aload_n 0, 1) := by decide +kernel
theorem dX12_bar_29 : decode cX12_bar 29 = .ok (.invokevirtual 441, 3) := by decide +kernel
theorem dX12_bar_32 : decode cX12_bar 32 = .ok (.aload_n 0, 1) := by decide +kernel
theorem dX12_bar_33 : decode cX12_bar 33 = .ok (.iload_n 1, 1) := by decide +kernel
theorem dX12_bar_34 : decode cX12_bar 34 = .ok (.aload_n 0, 1) := by decide +kernel
theorem dX12_bar_35 : decode cX12_bar 35 = .ok (.getfield 47, 3) := by decide +kernel
theorem dX12_bar_38 : decode cX12_bar 38 = .ok (.bipush 81, 2) := by decide +kernel
theorem dX12_bar_40 : decode cX12_bar 40 = .ok (.invokevirtual 444, 3) := by decide +kernel
theorem dX12_bar_43 : decode cX12_bar 43 = .ok (.iconst (-1), 1) := by decide +kernel
theorem dX12_bar_44 : decode cX12_bar 44 = .ok (.istore_n 3, 1) := by decide +kernel
theorem dX12_bar_45 : decode cX12_bar 45 = .ok (.iconst 1, 1) := by decide +kernel
theorem dX12_bar_46 : decode cX12_bar 46 = .ok (.istore 4, 2) := by decide +kernel
theorem dX12_bar_48 : decode cX12_bar 48 = .ok (.iload 4, 2) := by decide +kernel
theorem dX12_bar_50 : decode cX12_bar 50 = .ok (.bipush 82, 2) := by decide +kernel
theorem dX12_bar_52 : decode cX12_bar 52 = .ok (.if_icmp .gt 48, 3) := by decide +kernel
theorem dX12_bar_55 : decode cX12_bar 55 = .ok (.aload_n 0, 1) := by decide +kernel
theorem dX12_bar_56 : decode cX12_bar 56 = .ok (.iload 4, 2) := by decide +kernel
theorem dX12_bar_58 : decode cX12_bar 58 = .ok (.iload_n 1, 1) := by decide +kernel
theorem dX12_bar_59 : decode cX12_bar 59 = .ok (.iload_n 2, 1) := by decide +kernel
theorem dX12_bar_60 : decode cX12_bar 60 = .ok (.bipush 81, 2) := by decide +kernel
theorem dX12_bar_62 : decode cX12_bar 62 = .ok (.invokevirtual 448, 3) := by decide +kernel
theorem dX12_bar_65 : decode cX12_bar 65 = .ok (.lstore 5, 2) := by decide +kernel
theorem dX12_bar_67 : decode cX12_bar 67 = .ok (.iload_n 3, 1) := by decide +kernel
theorem dX12_bar_68 : decode cX12_bar 68 = .ok (.iconst (-1), 1) := by decide +kernel
theorem dX12_bar_69 : decode cX12_bar 69 = .ok (.if_icmp .eq 16, 3) := by decide +kernel
theorem dX12_bar_72 : decode cX12_bar 72 = .ok (.lload 5, 2) := by decide +kernel
theorem dX12_bar_74 : decode cX12_bar 74 = .ok (.aload_n 0, 1) := by decide +kernel
theorem dX12_bar_75 : decode cX12_bar 75 = .ok (.getfield 130, 3) := by decide +kernel
theorem dX12_bar_78 : decode cX12_bar 78 = .ok (.lcmp, 1) := by decide +kernel
theorem dX12_bar_79 : decode cX12_bar 79 = .ok (.ifCond .lt 6, 3) := by decide +kernel
theorem dX12_bar_82 : decode cX12_bar 82 = .ok (.goto 12, 3) := by decide +kernel
theorem dX12_bar_85 : decode cX12_bar 85 = .ok (.aload_n 0, 1) := by decide +kernel
theorem dX12_bar_86 : decode cX12_bar 86 = .ok (.lload 5, 2) := by decide +kernel
theorem dX12_bar_88 : decode cX12_bar 88 = .ok (.putfield 130, 3) := by decide +kernel
theorem dX12_bar_91 : decode cX12_bar 91 = .ok (.iload 4, 2) := by decide +kernel
theorem dX12_bar_93 : decode cX12_bar 93 = .ok (.istore_n 3, 1) := by decide +kernel
theorem dX12_bar_94 : decode cX12_bar 94 = .ok (.iinc 4 1, 3) := by decide +kernel
theorem dX12_bar_97 : decode cX12_bar 97 = .ok (.goto (-49), 3) := by decide +kernel
theorem dX12_bar_100 : decode cX12_bar 100 = .ok (.iload_n 3, 1) := by decide +kernel
theorem dX12_bar_101 : decode cX12_bar 101 = .ok (.ireturn, 1) := by decide +kernel
theorem dX12_barLost_0 : decode cX12_barLost 0 = .ok (.aload_n 0, 1) := by decide +kernel
theorem dX12_barLost_1 : decode cX12_barLost 1 = .ok (.iconst 0, 1) := by decide +kernel
theorem dX12_barLost_2 : decode cX12_barLost 2 = .ok (.putfield 149, 3) := by decide +kernel
theorem dX12_barLost_5 : decode cX12_barLost 5 = .ok (.aload_n 0, 1) := by decide +kernel
theorem dX12_barLost_6 : decode cX12_barLost 6 = .ok (.getfield 130, 3) := by decide +kernel
theorem dX12_barLost_9 : decode cX12_barLost 9 = .ok (.lreturn, 1) := by decide +kernel
theorem dX12_believed_0 : decode cX12_believed 0 = .ok (.aload_n 0, 1) := by decide +kernel
theorem dX12_believed_1 : decode cX12_believed 1 = .ok (.iconst 0, 1) := by decide +kernel
theorem dX12_believed_2 : decode cX12_believed 2 = .ok (.putfield 149, 3) := by decide +kernel
theorem dX12_believed_5 : decode cX12_believed 5 = .ok (.aload_n 0, 1) := by decide +kernel
theorem dX12_believed_6 : decode cX12_believed 6 = .ok (.iload_n 1, 1) := by decide +kernel
theorem dX12_believed_7 : decode cX12_believed 7 = .ok (.invokevirtual 316, 3) := by decide +kernel
theorem dX12_believed_10 : decode cX12_believed 10 = .ok (.ifCond .eq 39, 3) := by decide +kernel
theorem dX12_believed_13 : decode cX12_believed 13 = .ok (.aload_n 0, 1) := by decide +kernel
theorem dX12_believed_14 : decode cX12_believed 14 = .ok (.iload_n 2, 1) := by decide +kernel
theorem dX12_believed_15 : decode cX12_believed 15 = .ok (.invokevirtual 316, 3) := by decide +kernel
theorem dX12_believed_18 : decode cX12_believed 18 = .ok (.ifCond .eq 31, 3) := by decide +kernel
theorem dX12_believed_21 : decode cX12_believed 21 = .ok (.iload_n 1, 1) := by decide +kernel
theorem dX12_believed_22 : decode cX12_believed 22 = .ok (.iload_n 2, 1) := by decide +kernel
theorem dX12_believed_23 : decode cX12_believed 23 = .ok (.if_icmp .eq 26, 3) := by decide +kernel
theorem dX12_believed_26 : decode cX12_believed 26 = .ok (.iload_n 3, 1) := by decide +kernel
theorem dX12_believed_27 : decode cX12_believed 27 = .ok (.iconst 0, 1) := by decide +kernel
theorem dX12_believed_28 : decode cX12_believed 28 = .ok (.aload_n 0, 1) := by decide +kernel
theorem dX12_believed_29 : decode cX12_believed 29 = .ok (.getfield 29, 3) := by decide +kernel
theorem dX12_believed_32 : decode cX12_believed 32 = .ok (.iload_n 1, 1) := by decide +kernel
theorem dX12_believed_33 : decode cX12_believed 33 = .ok (.iaload, 1) := by decide +kernel
theorem dX12_believed_34 : decode cX12_believed 34 = .ok (.iconst 3, 1) := by decide +kernel
theorem dX12_believed_35 : decode cX12_believed 35 = .ok (.if_icmp .ne 7, 3) := by decide +kernel
theorem dX12_believed_38 : decode cX12_believed 38 = .ok (.iconst 4, 1) := by decide +kernel
theorem dX12_believed_39 : decode cX12_believed 39 = .ok (.goto 4, 3) := by decide +kernel
theorem dX12_believed_42 : decode cX12_believed 42 = .ok (.iconst 1, 1) := by decide +kernel
theorem dX12_believed_43 : decode cX12_believed 43 = .ok (.invokestatic 234, 3) := by decide +kernel
theorem dX12_believed_46 : decode cX12_believed 46 = .ok (.ifCond .ne 5, 3) := by decide +kernel
theorem dX12_believed_49 : decode cX12_believed 49 = .ok (.iconst (-1), 1) := by decide +kernel
theorem dX12_believed_50 : decode cX12_believed 50 = .ok (.ireturn, 1) := by decide +kernel
theorem dX12_believed_51 : decode cX12_believed 51 = .ok (.iconst 0, 1) := by decide +kernel
theorem dX12_believed_52 : decode cX12_believed 52 = .ok (.istore 4, 2) := by decide +kernel
theorem dX12_believed_54 : decode cX12_believed 54 = .ok (.iconst 0, 1) := by decide +kernel
theorem dX12_believed_55 : decode cX12_believed 55 = .ok (.istore 5, 2) := by decide +kernel
theorem dX12_believed_57 : decode cX12_believed 57 = .ok (.iload 5, 2) := by decide +kernel
theorem dX12_believed_59 : decode cX12_believed 59 = .ok (.aload_n 0, 1) := by decide +kernel
theorem dX12_believed_60 : decode cX12_believed 60 = .ok (.getfield 29, 3) := by decide +kernel
theorem dX12_believed_63 : decode cX12_believed 63 = .ok (.iload_n 1, 1) := by decide +kernel
theorem dX12_believed_64 : decode cX12_believed 64 = .ok (.iaload, 1) := by decide +kernel
theorem dX12_believed_65 : decode cX12_believed 65 = .ok (.if_icmp .ge 42, 3) := by decide +kernel
theorem dX12_believed_68 : decode cX12_believed 68 = .ok (.iload 5, 2) := by decide +kernel
theorem dX12_believed_70 : decode cX12_believed 70 = .ok (.aload_n 0, 1) := by decide +kernel
theorem dX12_believed_71 : decode cX12_believed 71 = .ok (.getfield 29, 3) := by decide +kernel
theorem dX12_believed_74 : decode cX12_believed 74 = .ok (.iload_n 1, 1) := by decide +kernel
theorem dX12_believed_75 : decode cX12_believed 75 = .ok (.iaload, 1) := by decide +kernel
theorem dX12_believed_76 : decode cX12_believed 76 = .ok (.iload_n 3, 1) := by decide +kernel
theorem dX12_believed_77 : decode cX12_believed 77 = .ok (.invokestatic 461, 3) := by decide +kernel
theorem dX12_believed_80 : decode cX12_believed 80 = .ok (.iload 4, 2) := by decide +kernel
theorem dX12_believed_82 : decode cX12_believed 82 = .ok (.if_icmp .lt 19, 3) := by decide +kernel
theorem dX12_believed_85 : decode cX12_believed 85 = .ok (.iload 5, 2) := by decide +kernel
theorem dX12_believed_87 : decode cX12_believed 87 = .ok (.aload_n 0, 1) := by decide +kernel
theorem dX12_believed_88 : decode cX12_believed 88 = .ok (.getfield 29, 3) := by decide +kernel
theorem dX12_believed_91 : decode cX12_believed 91 = .ok (.iload_n 1, 1) := by decide +kernel
theorem dX12_believed_92 : decode cX12_believed 92 = .ok (.iaload, 1) := by decide +kernel
theorem dX12_believed_93 : decode cX12_believed 93 = .ok (.iload_n 3, 1) := by decide +kernel
theorem dX12_believed_94 : decode cX12_believed 94 = .ok (.invokestatic 461, 3) := by decide +kernel
theorem dX12_believed_97 : decode cX12_believed 97 = .ok (.iconst 1, 1) := by decide +kernel
theorem dX12_believed_98 : decode cX12_believed 98 = .ok (.iadd, 1) := by decide +kernel
theorem dX12_believed_99 : decode cX12_believed 99 = .ok (.istore 4, 2) := by decide +kernel
theorem dX12_believed_101 : decode cX12_believed 101 = .ok (.iinc 5 1, 3) := by decide +kernel
theorem dX12_believed_104 : decode cX12_believed 104 = .ok (.goto (-47), 3) := by decide +kernel
theorem dX12_believed_107 : decode cX12_believed 107 = .ok (.iconst 0, 1) := by decide +kernel
theorem dX12_believed_108 : decode cX12_believed 108 = .ok (.istore 5, 2) := by decide +kernel
theorem dX12_believed_110 : decode cX12_believed 110 = .ok (.iload 5, 2) := by decide +kernel
theorem dX12_believed_112 : decode cX12_believed 112 = .ok (.aload_n 0, 1) := by decide +kernel
theorem dX12_believed_113 : decode cX12_believed 113 = .ok (.getfield 29, 3) := by decide +kernel
theorem dX12_believed_116 : decode cX12_believed 116 = .ok (.iload_n 2, 1) := by decide +kernel
theorem dX12_believed_117 : decode cX12_believed 117 = .ok (.iaload, 1) := by decide +kernel
theorem dX12_believed_118 : decode cX12_believed 118 = .ok (.if_icmp .ge 191, 3) := by decide +kernel
theorem dX12_believed_121 : decode cX12_believed 121 = .ok (.iconst 0, 1) := by decide +kernel
theorem dX12_believed_122 : decode cX12_believed 122 = .ok (.istore 6, 2) := by decide +kernel
theorem dX12_believed_124 : decode cX12_believed 124 = .ok (.iload 6, 2) := by decide +kernel
theorem dX12_believed_126 : decode cX12_believed 126 = .ok (.iload 4, 2) := by decide +kernel
theorem dX12_believed_128 : decode cX12_believed 128 = .ok (.if_icmp .ge 175, 3) := by decide +kernel
theorem dX12_believed_131 : decode cX12_believed 131 = .ok (.iconst 0, 1) := by decide +kernel
theorem dX12_believed_132 : decode cX12_believed 132 = .ok (.istore 7, 2) := by decide +kernel
theorem dX12_believed_134 : decode cX12_believed 134 = .ok (.iload 7, 2) := by decide +kernel
theorem dX12_believed_136 : decode cX12_believed 136 = .ok (.iconst 3, 1) := by decide +kernel
theorem dX12_believed_137 : decode cX12_believed 137 = .ok (.if_icmp .ge 17, 3) := by decide +kernel
theorem dX12_believed_140 : decode cX12_believed 140 = .ok (.aload_n 0, 1) := by decide +kernel
theorem dX12_believed_141 : decode cX12_believed 141 = .ok (.getfield 77, 3) := by decide +kernel
theorem dX12_believed_144 : decode cX12_believed 144 = .ok (.iload 7, 2) := by decide +kernel
theorem dX12_believed_146 : decode cX12_believed 146 = .ok (.lconst 0, 1) := by decide +kernel
theorem dX12_believed_147 : decode cX12_believed 147 = .ok (.lastore, 1) := by decide +kernel
theorem dX12_believed_148 : decode cX12_believed 148 = .ok (.iinc 7 1, 3) := by decide +kernel
theorem dX12_believed_151 : decode cX12_believed 151 = .ok (.goto (-17), 3) := by decide +kernel
theorem dX12_believed_154 : decode cX12_believed 154 = .ok (.iconst 0, 1) := by decide +kernel
theorem dX12_believed_155 : decode cX12_believed 155 = .ok (.istore 7, 2) := by decide +kernel
theorem dX12_believed_157 : decode cX12_believed 157 = .ok (.iload 7, 2) := by decide +kernel
theorem dX12_believed_159 : decode cX12_believed 159 = .ok (.aload_n 0, 1) := by decide +kernel
theorem dX12_believed_160 : decode cX12_believed 160 = .ok (.getfield 29, 3) := by decide +kernel
theorem dX12_believed_163 : decode cX12_believed 163 = .ok (.iload_n 1, 1) := by decide +kernel
theorem dX12_believed_164 : decode cX12_believed 164 = .ok (.iaload, 1) := by decide +kernel
theorem dX12_believed_165 : decode cX12_believed 165 = .ok (.if_icmp .ge 98, 3) := by decide +kernel
theorem dX12_believed_168 : decode cX12_believed 168 = .ok (.iload 7, 2) := by decide +kernel
theorem dX12_believed_170 : decode cX12_believed 170 = .ok (.aload_n 0, 1) := by decide +kernel
theorem dX12_believed_171 : decode cX12_believed 171 = .ok (.getfield 29, 3) := by decide +kernel
theorem dX12_believed_174 : decode cX12_believed 174 = .ok (.iload_n 1, 1) := by decide +kernel
theorem dX12_believed_175 : decode cX12_believed 175 = .ok (.iaload, 1) := by decide +kernel
theorem dX12_believed_176 : decode cX12_believed 176 = .ok (.iload_n 3, 1) := by decide +kernel
theorem dX12_believed_177 : decode cX12_believed 177 = .ok (.invokestatic 461, 3) := by decide +kernel
theorem dX12_believed_180 : decode cX12_believed 180 = .ok (.iload 6, 2) := by decide +kernel
theorem dX12_believed_182 : decode cX12_believed 182 = .ok (.if_icmp .eq 6, 3) := by decide +kernel
theorem dX12_believed_185 : decode cX12_believed 185 = .ok (.goto 72, 3) := by decide +kernel
theorem dX12_believed_188 : decode cX12_believed 188 = .ok (.iconst 0, 1) := by decide +kernel
theorem dX12_believed_189 : decode cX12_believed 189 = .ok (.istore 8, 2) := by decide +kernel
theorem dX12_believed_191 : decode cX12_believed 191 = .ok (.iload 8, 2) := by decide +kernel
theorem dX12_believed_193 : decode cX12_believed 193 = .ok (.aload_n 0, 1) := by decide +kernel
theorem dX12_believed_194 : decode cX12_believed 194 = .ok (.getfield 303, 3) := by decide +kernel
theorem dX12_believed_197 : decode cX12_believed 197 = .ok (.if_icmp .ge 60, 3) := by decide +kernel
theorem dX12_believed_200 : decode cX12_believed 200 = .ok (.iconst 0, 1) := by decide +kernel
theorem dX12_believed_201 : decode cX12_believed 201 = .ok (.istore 9, 2) := by decide +kernel
theorem dX12_believed_203 : decode cX12_believed 203 = .ok (.iload 9, 2) := by decide +kernel
theorem dX12_believed_205 : decode cX12_believed 205 = .ok (.aload_n 0, 1) := by decide +kernel
theorem dX12_believed_206 : decode cX12_believed 206 = .ok (.getfield 303, 3) := by decide +kernel
theorem dX12_believed_209 : decode cX12_believed 209 = .ok (.if_icmp .ge 42, 3) := by decide +kernel
theorem dX12_believed_212 : decode cX12_believed 212 = .ok (.aload_n 0, 1) := by decide +kernel
theorem dX12_believed_213 : decode cX12_believed 213 = .ok (.getfield 77, 3) := by decide +kernel
theorem dX12_believed_216 : decode cX12_believed 216 = .ok (.iload 9, 2) := by decide +kernel
theorem dX12_believed_218 : decode cX12_believed 218 = .ok (.dup2, 1) := by decide +kernel
theorem dX12_believed_219 : decode cX12_believed 219 = .ok (.laload, 1) := by decide +kernel
theorem dX12_believed_220 : decode cX12_believed 220 = .ok (.aload_n 0, 1) := by decide +kernel
theorem dX12_believed_221 : decode cX12_believed 221 = .ok (.iload_n 1, 1) := by decide +kernel
theorem dX12_believed_222 : decode cX12_believed 222 = .ok (.iload 7, 2) := by decide +kernel
theorem dX12_believed_224 : decode cX12_believed 224 = .ok (.iload_n 2, 1) := by decide +kernel
theorem dX12_believed_225 : decode cX12_believed 225 = .ok (.iload 5, 2) := by decide +kernel
theorem dX12_believed_227 : decode cX12_believed 227 = .ok (.iload 8, 2) := by decide +kernel
theorem dX12_believed_229 : decode cX12_believed 229 = .ok (.invokevirtual 464, 3) := by decide +kernel
theorem dX12_believed_232 : decode cX12_believed 232 = .ok (.aload_n 0, 1) := by decide +kernel
theorem dX12_believed_233 : decode cX12_believed 233 = .ok (.iload_n 2, 1) := by decide +kernel
theorem dX12_believed_234 : decode cX12_believed 234 = .ok (.iload 8, 2) := by decide +kernel
theorem dX12_believed_236 : decode cX12_believed 236 = .ok (.iload 9, 2) := by decide +kernel
theorem dX12_believed_238 : decode cX12_believed 238 = .ok (.invokevirtual 334, 3) := by decide +kernel
theorem dX12_believed_241 : decode cX12_believed 241 = .ok (.i2l, 1) := by decide +kernel
theorem dX12_believed_242 : decode cX12_believed 242 = .ok (.lmul, 1) := by decide +kernel
theorem dX12_believed_243 : decode cX12_believed 243 = .ok (.ladd, 1) := by decide +kernel
theorem dX12_believed_244 : decode cX12_believed 244 = .ok (.lastore, 1) := by decide +kernel
theorem dX12_believed_245 : decode cX12_believed 245 = .ok (.iinc 9 1, 3) := by decide +kernel
theorem dX12_believed_248 : decode cX12_believed 248 = .ok (.goto (-45), 3) := by decide +kernel
theorem dX12_believed_251 : decode cX12_believed 251 = .ok (.iinc 8 1, 3) := by decide +kernel
theorem dX12_believed_254 : decode cX12_believed 254 = .ok (.goto (-63), 3) := by decide +kernel
theorem dX12_believed_257 : decode cX12_believed 257 = .ok (.iinc 7 1, 3) := by decide +kernel
theorem dX12_believed_260 : decode cX12_believed 260 = .ok (.goto (-103), 3) := by decide +kernel
theorem dX12_believed_263 : decode cX12_believed 263 = .ok (.aload_n 0, 1) := by decide +kernel
theorem dX12_believed_264 : decode cX12_believed 264 = .ok (.getfield 140, 3) := by decide +kernel
theorem dX12_believed_267 : decode cX12_believed 267 = .ok (.iconst 3, 1) := by decide +kernel
theorem dX12_believed_268 : decode cX12_believed 268 = .ok (.iload 5, 2) := by decide +kernel
theorem dX12_believed_270 : decode cX12_believed 270 = .ok (.imul, 1) := by decide +kernel
theorem dX12_believed_271 : decode cX12_believed 271 = .ok (.iload 6, 2) := by decide +kernel
theorem dX12_believed_273 : decode cX12_believed 273 = .ok (.iadd, 1) := by decide +kernel
theorem dX12_believed_274 : decode cX12_believed 274 = .ok (.aload_n 0, 1) := by decide +kernel
theorem dX12_believed_275 : decode cX12_believed 275 = .ok (.aload_n 0, 1) := by decide +kernel
theorem dX12_believed_276 : decode cX12_believed 276 = .ok (.getfield 77, 3) := by decide +kernel
theorem dX12_believed_279 : decode cX12_believed 279 = .ok (.iconst 0, 1) := by decide +kernel
theorem dX12_believed_280 : decode cX12_believed 280 = .ok (.laload, 1) := by decide +kernel
theorem dX12_believed_281 : decode cX12_believed 281 = .ok (.aload_n 0, 1) := by decide +kernel
theorem dX12_believed_282 : decode cX12_believed 282 = .ok (.getfield 77, 3) := by decide +kernel
theorem dX12_believed_285 : decode cX12_believed 285 = .ok (.iconst 1, 1) := by decide +kernel
theorem dX12_believed_286 : decode cX12_believed 286 = .ok (.laload, 1) := by decide +kernel
theorem dX12_believed_287 : decode cX12_believed 287 = .ok (.aload_n 0, 1) := by decide +kernel
theorem dX12_believed_288 : decode cX12_believed 288 = .ok (.getfield 77, 3) := by decide +kernel
theorem dX12_believed_291 : decode cX12_believed 291 = .ok (.iconst 2, 1) := by decide +kernel
theorem dX12_believed_292 : decode cX12_believed 292 = .ok (.laload, 1) := by decide +kernel
theorem dX12_believed_293 : decode cX12_believed 293 = .ok (.invokevirtual 340, 3) := by decide +kernel
theorem dX12_believed_296 : decode cX12_believed 296 = .ok (.iastore, 1) := by decide +kernel
theorem dX12_believed_297 : decode cX12_believed 297 = .ok (.iinc 6 1, 3) := by decide +kernel
theorem dX12_believed_300 : decode cX12_believed 300 = .ok (.goto (-176), 3) := by decide +kernel
theorem dX12_believed_303 : decode cX12_believed 303 = .ok (.iinc 5 1, 3) := by decide +kernel
theorem dX12_believed_306 : decode cX12_believed 306 = .ok (.goto (-196), 3) := by decide +kernel
theorem dX12_believed_309 : decode cX12_believed 309 = .ok (.iconst 0, 1) := by decide +kernel
theorem dX12_believed_310 : decode cX12_believed 310 = .ok (.istore 5, 2) := by decide +kernel
theorem dX12_believed_312 : decode cX12_believed 312 = .ok (.iload 5, 2) := by decide +kernel
theorem dX12_believed_314 : decode cX12_believed 314 = .ok (.aload_n 0, 1) := by decide +kernel
theorem dX12_believed_315 : decode cX12_believed 315 = .ok (.getfield 29, 3) := by decide +kernel
theorem dX12_believed_318 : decode cX12_believed 318 = .ok (.iload_n 1, 1) := by decide +kernel
theorem dX12_believed_319 : decode cX12_believed 319 = .ok (.iaload, 1) := by decide +kernel
theorem dX12_believed_320 : decode cX12_believed 320 = .ok (.if_icmp .ge 65, 3) := by decide +kernel
theorem dX12_believed_323 : decode cX12_believed 323 = .ok (.aload_n 0, 1) := by decide +kernel
theorem dX12_believed_324 : decode cX12_believed 324 = .ok (.iload_n 1, 1) := by decide +kernel
theorem dX12_believed_325 : decode cX12_believed 325 = .ok (.iload 5, 2) := by decide +kernel
theorem dX12_believed_327 : decode cX12_believed 327 = .ok (.iload_n 2, 1) := by decide +kernel
theorem dX12_believed_328 : decode cX12_believed 328 = .ok (.iload 5, 2) := by decide +kernel
theorem dX12_believed_330 : decode cX12_believed 330 = .ok (.aload_n 0, 1) := by decide +kernel
theorem dX12_believed_331 : decode cX12_believed 331 = .ok (.getfield 29, 3) := by decide +kernel
theorem dX12_believed_334 : decode cX12_believed 334 = .ok (.iload_n 1, 1) := by decide +kernel
theorem dX12_believed_335 : decode cX12_believed 335 = .ok (.iaload, 1) := by decide +kernel
theorem dX12_believed_336 : decode cX12_believed 336 = .ok (.iload_n 3, 1) := by decide +kernel
theorem dX12_believed_337 : decode cX12_believed 337 = .ok (.invokestatic 461, 3) := by decide +kernel
theorem dX12_believed_340 : decode cX12_believed 340 = .ok (.invokevirtual 467, 3) := by decide +kernel
theorem dX12_believed_343 : decode cX12_believed 343 = .ok (.lstore 6, 2) := by decide +kernel
theorem dX12_believed_345 : decode cX12_believed 345 = .ok (.iconst 0, 1) := by decide +kernel
theorem dX12_believed_346 : decode cX12_believed 346 = .ok (.istore 8, 2) := by decide +kernel
theorem dX12_believed_348 : decode cX12_believed 348 = .ok (.iload 8, 2) := by decide +kernel
theorem dX12_believed_350 : decode cX12_believed 350 = .ok (.iload 4, 2) := by decide +kernel
theorem dX12_believed_352 : decode cX12_believed 352 = .ok (.if_icmp .ge 27, 3) := by decide +kernel
theorem dX12_believed_355 : decode cX12_believed 355 = .ok (.aload_n 0, 1) := by decide +kernel
theorem dX12_believed_356 : decode cX12_believed 356 = .ok (.iload_n 1, 1) := by decide +kernel
theorem dX12_believed_357 : decode cX12_believed 357 = .ok (.iload 5, 2) := by decide +kernel
theorem dX12_believed_359 : decode cX12_believed 359 = .ok (.iload_n 2, 1) := by decide +kernel
theorem dX12_believed_360 : decode cX12_believed 360 = .ok (.iload 8, 2) := by decide +kernel
theorem dX12_believed_362 : decode cX12_believed 362 = .ok (.invokevirtual 467, 3) := by decide +kernel
theorem dX12_believed_365 : decode cX12_believed 365 = .ok (.lload 6, 2) := by decide +kernel
theorem dX12_believed_367 : decode cX12_believed 367 = .ok (.lcmp, 1) := by decide +kernel
theorem dX12_believed_368 : decode cX12_believed 368 = .ok (.ifCond .ge 5, 3) := by decide +kernel
theorem dX12_believed_371 : decode cX12_believed 371 = .ok (.iconst 0, 1) := by decide +kernel
theorem dX12_believed_372 : decode cX12_believed 372 = .ok (.ireturn, 1) := by decide +kernel
theorem dX12_believed_373 : decode cX12_believed 373 = .ok (.iinc 8 1, 3) := by decide +kernel
theorem dX12_believed_376 : decode cX12_believed 376 = .ok (.goto (-28), 3) := by decide +kernel
theorem dX12_believed_379 : decode cX12_believed 379 = .ok (.iinc 5 1, 3) := by decide +kernel
theorem dX12_believed_382 : decode cX12_believed 382 = .ok (.goto (-70), 3) := by decide +kernel
theorem dX12_believed_385 : decode cX12_believed 385 = .ok (.iconst 1, 1) := by decide +kernel
theorem dX12_believed_386 : decode cX12_believed 386 = .ok (.ireturn, 1) := by decide +kernel
theorem dX12_bestOrder_0 : decode cX12_bestOrder 0 = .ok (.aload_n 0, 1) := by decide +kernel
theorem dX12_bestOrder_1 : decode cX12_bestOrder 1 = .ok (.iconst 0, 1) := by decide +kernel
theorem dX12_bestOrder_2 : decode cX12_bestOrder 2 = .ok (.putfield 149, 3) := by decide +kernel
theorem dX12_bestOrder_5 : decode cX12_bestOrder 5 = .ok (.aload_n 0, 1) := by decide +kernel
theorem dX12_bestOrder_6 : decode cX12_bestOrder 6 = .ok (.getfield 306, 3) := by decide +kernel
theorem dX12_bestOrder_9 : decode cX12_bestOrder 9 = .ok (.ifCond .eq 11, 3) := by decide +kernel
theorem dX12_bestOrder_12 : decode cX12_bestOrder 12 = .ok (.aload_n 0, 1) := by decide +kernel
theorem dX12_bestOrder_13 : decode cX12_bestOrder 13 = .ok (.getfield 306, 3) := by decide +kernel
theorem dX12_bestOrder_16 : decode cX12_bestOrder 16 = .ok (.iconst 5, 1) := by decide +kernel
theorem dX12_bestOrder_17 : decode cX12_bestOrder 17 = .ok (.if_icmp .le 5, 3) := by decide +kernel
theorem dX12_bestOrder_20 : decode cX12_bestOrder 20 = .ok (.iconst (-1), 1) := by decide +kernel
theorem dX12_bestOrder_21 : decode cX12_bestOrder 21 = .ok (.ireturn, 1) := by decide +kernel
theorem dX12_bestOrder_22 : decode cX12_bestOrder 22 = .ok (.aload_n 0, 1) := by decide +kernel
theorem dX12_bestOrder_23 : decode cX12_bestOrder 23 = .ok (.aload_n 0, 1) := by decide +kernel
theorem dX12_bestOrder_24 : decode cX12_bestOrder 24 = .ok (.getfield 306, 3) := by decide +kernel
theorem dX12_bestOrder_27 : decode cX12_bestOrder 27 = .ok (.putfield 399, 3) := by decide +kernel
theorem dX12_bestOrder_30 : decode cX12_bestOrder 30 = .ok (.iconst 0, 1) := by decide +kernel
theorem dX12_bestOrder_31 : decode cX12_bestOrder 31 = .ok (.istore_n 1, 1) := by decide +kernel
theorem dX12_bestOrder_32 : decode cX12_bestOrder 32 = .ok (.iload_n 1, 1) := by decide +kernel
theorem dX12_bestOrder_33 : decode cX12_bestOrder 33 = .ok (.aload_n 0, 1) := by decide +kernel
theorem dX12_bestOrder_34 : decode cX12_bestOrder 34 = .ok (.getfield 306, 3) := by decide +kernel
theorem dX12_bestOrder_37 : decode cX12_bestOrder 37 = .ok (.if_icmp .ge 16, 3) := by decide +kernel
theorem dX12_bestOrder_40 : decode cX12_bestOrder 40 = .ok (.aload_n 0, 1) := by decide +kernel
theorem dX12_bestOrder_41 : decode cX12_bestOrder 41 = .ok (.getfield 89, 3) := by decide +kernel
theorem dX12_bestOrder_44 : decode cX12_bestOrder 44 = .ok (.iload_n 1, 1) := by decide +kernel
theorem dX12_bestOrder_45 : decode cX12_bestOrder 45 = .ok (.iload_n 1, 1) := by decide +kernel
theorem dX12_bestOrder_46 : decode cX12_bestOrder 46 = .ok (.iastore, 1) := by decide +kernel
theorem dX12_bestOrder_47 : decode cX12_bestOrder 47 = .ok (.iinc 1 1, 3) := by decide +kernel
theorem dX12_bestOrder_50 : decode cX12_bestOrder 50 = .ok (.goto (-18), 3) := by decide +kernel
theorem dX12_bestOrder_53 : decode cX12_bestOrder 53 = .ok (.ldc2_w 429, 3) := by decide +kernel
theorem dX12_bestOrder_56 : decode cX12_bestOrder 56 = .ok (.lstore_n 1, 1) := by decide +kernel
theorem dX12_bestOrder_57 : decode cX12_bestOrder 57 = .ok (.iconst (-1), 1) := by decide +kernel
theorem dX12_bestOrder_58 : decode cX12_bestOrder 58 = .ok (.istore_n 3, 1) := by decide +kernel
theorem dX12_bestOrder_59 : decode cX12_bestOrder 59 = .ok (.iconst 1, 1) := by decide +kernel
theorem dX12_bestOrder_60 : decode cX12_bestOrder 60 = .ok (.istore 4, 2) := by decide +kernel
theorem dX12_bestOrder_62 : decode cX12_bestOrder 62 = .ok (.iload 4, 2) := by decide +kernel
theorem dX12_bestOrder_64 : decode cX12_bestOrder 64 = .ok (.ifCond .eq 65, 3) := by decide +kernel
theorem dX12_bestOrder_67 : decode cX12_bestOrder 67 = .ok (.aload_n 0, 1) := by decide +kernel
theorem dX12_bestOrder_68 : decode cX12_bestOrder 68 = .ok (.invokevirtual 408, 3) := by decide +kernel
theorem dX12_bestOrder_71 : decode cX12_bestOrder 71 = .ok (.aload_n 0, 1) := by decide +kernel
theorem dX12_bestOrder_72 : decode cX12_bestOrder 72 = .ok (.invokevirtual 423, 3) := by decide +kernel
theorem dX12_bestOrder_75 : decode cX12_bestOrder 75 = .ok (.lstore 5, 2) := by decide +kernel
theorem dX12_bestOrder_77 : decode cX12_bestOrder 77 = .ok (.lload 5, 2) := by decide +kernel
theorem dX12_bestOrder_79 : decode cX12_bestOrder 79 = .ok (.lload_n 1, 1) := by decide +kernel
theorem dX12_bestOrder_80 : decode cX12_bestOrder 80 = .ok (.lcmp, 1) := by decide +kernel
theorem dX12_bestOrder_81 : decode cX12_bestOrder 81 = .ok (.ifCond .ge 39, 3) := by decide +kernel
theorem dX12_bestOrder_84 : decode cX12_bestOrder 84 = .ok (.lload 5, 2) := by decide +kernel
theorem dX12_bestOrder_86 : decode cX12_bestOrder 86 = .ok (.lstore_n 1, 1) := by decide +kernel
theorem dX12_bestOrder_87 : decode cX12_bestOrder 87 = .ok (.iconst 0, 1) := by decide +kernel
theorem dX12_bestOrder_88 : decode cX12_bestOrder 88 = .ok (.istore_n 3, 1) := by decide +kernel
theorem dX12_bestOrder_89 : decode cX12_bestOrder 89 = .ok (.iconst 0, 1) := by decide +kernel
theorem dX12_bestOrder_90 : decode cX12_bestOrder 90 = .ok (.istore 7, 2) := by decide +kernel
theorem dX12_bestOrder_92 : decode cX12_bestOrder 92 = .ok (.iload 7, 2) := by decide +kernel
theorem dX12_bestOrder_94 : decode cX12_bestOrder 94 = .ok (.aload_n 0, 1) := by decide +kernel
theorem dX12_bestOrder_95 : decode cX12_bestOrder 95 = .ok (.getfield 306, 3) := by decide +kernel
theorem dX12_bestOrder_98 : decode cX12_bestOrder 98 = .ok (.if_icmp .ge 22, 3) := by decide +kernel
theorem dX12_bestOrder_101 : decode cX12_bestOrder 101 = .ok (.bipush 10, 2) := by decide +kernel
theorem dX12_bestOrder_103 : decode cX12_bestOrder 103 = .ok (.iload_n 3, 1) := by decide +kernel
theorem dX12_bestOrder_104 : decode cX12_bestOrder 104 = .ok (.imul, 1) := by decide +kernel
theorem dX12_bestOrder_105 : decode cX12_bestOrder 105 = .ok (.aload_n 0, 1) := by decide +kernel
theorem dX12_bestOrder_106 : decode cX12_bestOrder 106 = .ok (.getfield 89, 3) := by decide +kernel
theorem dX12_bestOrder_109 : decode cX12_bestOrder 109 = .ok (.iload 7, 2) := by decide +kernel
theorem dX12_bestOrder_111 : decode cX12_bestOrder 111 = .ok (.iaload, 1) := by decide +kernel
theorem dX12_bestOrder_112 : decode cX12_bestOrder 112 = .ok (.iadd, 1) := by decide +kernel
theorem dX12_bestOrder_113 : decode cX12_bestOrder 113 = .ok (.istore_n 3, 1) := by decide +kernel
theorem dX12_bestOrder_114 : decode cX12_bestOrder 114 = .ok (.iinc 7 1, 3) := by decide +kernel
theorem dX12_bestOrder_117 : decode cX12_bestOrder 117 = .ok (.goto (-25), 3) := by decide +kernel
theorem dX12_bestOrder_120 : decode cX12_bestOrder 120 = .ok (.aload_n 0, 1) := by decide +kernel
theorem dX12_bestOrder_121 : decode cX12_bestOrder 121 = .ok (.invokevirtual 431, 3) := by decide +kernel
theorem dX12_bestOrder_124 : decode cX12_bestOrder 124 = .ok (.istore 4, 2) := by decide +kernel
theorem dX12_bestOrder_126 : decode cX12_bestOrder 126 = .ok (.goto (-64), 3) := by decide +kernel
theorem dX12_bestOrder_129 : decode cX12_bestOrder 129 = .ok (.iload_n 3, 1) := by decide +kernel
theorem dX12_bestOrder_130 : decode cX12_bestOrder 130 = .ok (.ireturn, 1) := by decide +kernel
theorem dX12_bestRule_0 : decode cX12_bestRule 0 = .ok (.aload_n 0, 1) := by decide +kernel
theorem dX12_bestRule_1 : decode cX12_bestRule 1 = .ok (.getfield 306, 3) := by decide +kernel
theorem dX12_bestRule_4 : decode cX12_bestRule 4 = .ok (.ifCond .ne 8, 3) := by decide +kernel
theorem dX12_bestRule_7 : decode cX12_bestRule 7 = .ok (.aload_n 0, 1) := by decide +kernel
theorem dX12_bestRule_8 : decode cX12_bestRule 8 = .ok (.invokevirtual 325, 3) := by decide +kernel
theorem dX12_bestRule_11 : decode cX12_bestRule 11 = .ok (.lreturn, 1) := by decide +kernel
theorem dX12_bestRule_12 : decode cX12_bestRule 12 = .ok (.aload_n 0, 1) := by decide +kernel
theorem dX12_bestRule_13 : decode cX12_bestRule 13 = .ok (.iconst 0, 1) := by decide +kernel
theorem dX12_bestRule_14 : decode cX12_bestRule 14 = .ok (.putfield 149, 3) := by decide +kernel
theorem dX12_bestRule_17 : decode cX12_bestRule 17 = .ok (.aload_n 0, 1) := by decide +kernel
theorem dX12_bestRule_18 : decode cX12_bestRule 18 = .ok (.invokevirtual 441, 3) := by decide +kernel
theorem dX12_bestRule_21 : decode cX12_bestRule 21 = .ok (.lconst 0, 1) := by decide +kernel
theorem dX12_bestRule_22 : decode cX12_bestRule 22 = .ok (.lstore_n 1, 1) := by decide +kernel
theorem dX12_bestRule_23 : decode cX12_bestRule 23 = .ok (.iconst 0, 1) := by decide +kernel
theorem dX12_bestRule_24 : decode cX12_bestRule 24 = .ok (.istore_n 3, 1) := by decide +kernel
theorem dX12_bestRule_25 : decode cX12_bestRule 25 = .ok (.iload_n 3, 1) := by decide +kernel
theorem dX12_bestRule_26 : decode cX12_bestRule 26 = .ok (.iconst 1, 1) := by decide +kernel
theorem dX12_bestRule_27 : decode cX12_bestRule 27 = .ok (.iconst 2, 1) := by decide +kernel
theorem dX12_bestRule_28 : decode cX12_bestRule 28 = .ok (.aload_n 0, 1) := by decide +kernel
theorem dX12_bestRule_29 : decode cX12_bestRule 29 = .ok (.getfield 306, 3) := by decide +kernel
theorem dX12_bestRule_32 : decode cX12_bestRule 32 = .ok (.imul, 1) := by decide +kernel
theorem dX12_bestRule_33 : decode cX12_bestRule 33 = .ok (.ishl, 1) := by decide +kernel
theorem dX12_bestRule_34 : decode cX12_bestRule 34 = .ok (.if_icmp .ge 62, 3) := by decide +kernel
theorem dX12_bestRule_37 : decode cX12_bestRule 37 = .ok (.aload_n 0, 1) := by decide +kernel
theorem dX12_bestRule_38 : decode cX12_bestRule 38 = .ok (.getfield 122, 3) := by decide +kernel
theorem dX12_bestRule_41 : decode cX12_bestRule 41 = .ok (.iload_n 3, 1) := by decide +kernel
theorem dX12_bestRule_42 : decode cX12_bestRule 42 = .ok (.baload, 1) := by decide +kernel
theorem dX12_bestRule_43 : decode cX12_bestRule 43 = .ok (.ifCond .eq 47, 3) := by decide +kernel
theorem dX12_bestRule_46 : decode cX12_bestRule 46 = .ok (.lload_n 1, 1) := by decide +kernel
theorem dX12_bestRule_47 : decode cX12_bestRule 47 = .ok (.aload_n 0, 1) := by decide +kernel
theorem dX12_bestRule_48 : decode cX12_bestRule 48 = .ok (.getfield 119, 3) := by decide +kernel
theorem dX12_bestRule_51 : decode cX12_bestRule 51 = .ok (.iconst 3, 1) := by decide +kernel
theorem dX12_bestRule_52 : decode cX12_bestRule 52 = .ok (.iload_n 3, 1) := by decide +kernel
theorem dX12_bestRule_53 : decode cX12_bestRule 53 = .ok (.imul, 1) := by decide +kernel
theorem dX12_bestRule_54 : decode cX12_bestRule 54 = .ok (.aload_n 0, 1) := by decide +kernel
theorem dX12_bestRule_55 : decode cX12_bestRule 55 = .ok (.aload_n 0, 1) := by decide +kernel
theorem dX12_bestRule_56 : decode cX12_bestRule 56 = .ok (.getfield 119, 3) := by decide +kernel
theorem dX12_bestRule_59 : decode cX12_bestRule 59 = .ok (.iconst 3, 1) := by decide +kernel
theorem dX12_bestRule_60 : decode cX12_bestRule 60 = .ok (.iload_n 3, 1) := by decide +kernel
theorem dX12_bestRule_61 : decode cX12_bestRule 61 = .ok (.imul, 1) := by decide +kernel
theorem dX12_bestRule_62 : decode cX12_bestRule 62 = .ok (.laload, 1) := by decide +kernel
theorem dX12_bestRule_63 : decode cX12_bestRule 63 = .ok (.aload_n 0, 1) := by decide +kernel
theorem dX12_bestRule_64 : decode cX12_bestRule 64 = .ok (.getfield 119, 3) := by decide +kernel
theorem dX12_bestRule_67 : decode cX12_bestRule 67 = .ok (.iconst 3, 1) := by decide +kernel
theorem dX12_bestRule_68 : decode cX12_bestRule 68 = .ok (.iload_n 3, 1) := by decide +kernel
theorem dX12_bestRule_69 : decode cX12_bestRule 69 = .ok (.imul, 1) := by decide +kernel
theorem dX12_bestRule_70 : decode cX12_bestRule 70 = .ok (.iconst 1, 1) := by decide +kernel
theorem dX12_bestRule_71 : decode cX12_bestRule 71 = .ok (.iadd, 1) := by decide +kernel
theorem dX12_bestRule_72 : decode cX12_bestRule 72 = .ok (.laload, 1) := by decide +kernel
theorem dX12_bestRule_73 : decode cX12_bestRule 73 = .ok (.aload_n 0, 1) := by decide +kernel
theorem dX12_bestRule_74 : decode cX12_bestRule 74 = .ok (.getfield 119, 3) := by decide +kernel
theorem dX12_bestRule_77 : decode cX12_bestRule 77 = .ok (.iconst 3, 1) := by decide +kernel
theorem dX12_bestRule_78 : decode cX12_bestRule 78 = .ok (.iload_n 3, 1) := by decide +kernel
theorem dX12_bestRule_79 : decode cX12_bestRule 79 = .ok (.imul, 1) := by decide +kernel
theorem dX12_bestRule_80 : decode cX12_bestRule 80 = .ok (.iconst 2, 1) := by decide +kernel
theorem dX12_bestRule_81 : decode cX12_bestRule 81 = .ok (.iadd, 1) := by decide +kernel
theorem dX12_bestRule_82 : decode cX12_bestRule 82 = .ok (.laload, 1) := by decide +kernel
theorem dX12_bestRule_83 : decode cX12_bestRule 83 = .ok (.invokevirtual 340, 3) := by decide +kernel
theorem dX12_bestRule_86 : decode cX12_bestRule 86 = .ok (.iadd, 1) := by decide +kernel
theorem dX12_bestRule_87 : decode cX12_bestRule 87 = .ok (.laload, 1) := by decide +kernel
theorem dX12_bestRule_88 : decode cX12_bestRule 88 = .ok (.ladd, 1) := by decide +kernel
theorem dX12_bestRule_89 : decode cX12_bestRule 89 = .ok (.lstore_n 1, 1) := by decide +kernel
theorem dX12_bestRule_90 : decode cX12_bestRule 90 = .ok (.iinc 3 1, 3) := by decide +kernel
theorem dX12_bestRule_93 : decode cX12_bestRule 93 = .ok (.goto (-68), 3) := by decide +kernel
theorem dX12_bestRule_96 : decode cX12_bestRule 96 = .ok (.lload_n 1, 1) := by decide +kernel
theorem dX12_bestRule_97 : decode cX12_bestRule 97 = .ok (.lreturn, 1) := by decide +kernel
theorem dX12_both_0 : decode cX12_both 0 = .ok (.aload_n 0, 1) := by decide +kernel
theorem dX12_both_1 : decode cX12_both 1 = .ok (.getfield 26, 3) := by decide +kernel
theorem dX12_both_4 : decode cX12_both 4 = .ok (.iload 5, 2) := by decide +kernel
theorem dX12_both_6 : decode cX12_both 6 = .ok (.iaload, 1) := by decide +kernel
theorem dX12_both_7 : decode cX12_both 7 = .ok (.i2l, 1) := by decide +kernel
theorem dX12_both_8 : decode cX12_both 8 = .ok (.aload_n 0, 1) := by decide +kernel
theorem dX12_both_9 : decode cX12_both 9 = .ok (.getfield 32, 3) := by decide +kernel
theorem dX12_both_12 : decode cX12_both 12 = .ok (.bipush 9, 2) := by decide +kernel
theorem dX12_both_14 : decode cX12_both 14 = .ok (.iload_n 1, 1) := by decide +kernel
theorem dX12_both_15 : decode cX12_both 15 = .ok (.imul, 1) := by decide +kernel
theorem dX12_both_16 : decode cX12_both 16 = .ok (.iconst 3, 1) := by decide +kernel
theorem dX12_both_17 : decode cX12_both 17 = .ok (.iload_n 2, 1) := by decide +kernel
theorem dX12_both_18 : decode cX12_both 18 = .ok (.imul, 1) := by decide +kernel
theorem dX12_both_19 : decode cX12_both 19 = .ok (.iadd, 1) := by decide +kernel
theorem dX12_both_20 : decode cX12_both 20 = .ok (.iload 5, 2) := by decide +kernel
theorem dX12_both_22 : decode cX12_both 22 = .ok (.iadd, 1) := by decide +kernel
theorem dX12_both_23 : decode cX12_both 23 = .ok (.iaload, 1) := by decide +kernel
theorem dX12_both_24 : decode cX12_both 24 = .ok (.i2l, 1) := by decide +kernel
theorem dX12_both_25 : decode cX12_both 25 = .ok (.lmul, 1) := by decide +kernel
theorem dX12_both_26 : decode cX12_both 26 = .ok (.aload_n 0, 1) := by decide +kernel
theorem dX12_both_27 : decode cX12_both 27 = .ok (.getfield 32, 3) := by decide +kernel
theorem dX12_both_30 : decode cX12_both 30 = .ok (.bipush 9, 2) := by decide +kernel
theorem dX12_both_32 : decode cX12_both 32 = .ok (.iload_n 3, 1) := by decide +kernel
theorem dX12_both_33 : decode cX12_both 33 = .ok (.imul, 1) := by decide +kernel
theorem dX12_both_34 : decode cX12_both 34 = .ok (.iconst 3, 1) := by decide +kernel
theorem dX12_both_35 : decode cX12_both 35 = .ok (.iload 4, 2) := by decide +kernel
theorem dX12_both_37 : decode cX12_both 37 = .ok (.imul, 1) := by decide +kernel
theorem dX12_both_38 : decode cX12_both 38 = .ok (.iadd, 1) := by decide +kernel
theorem dX12_both_39 : decode cX12_both 39 = .ok (.iload 5, 2) := by decide +kernel
theorem dX12_both_41 : decode cX12_both 41 = .ok (.iadd, 1) := by decide +kernel
theorem dX12_both_42 : decode cX12_both 42 = .ok (.iaload, 1) := by decide +kernel
theorem dX12_both_43 : decode cX12_both 43 = .ok (.i2l, 1) := by decide +kernel
theorem dX12_both_44 : decode cX12_both 44 = .ok (.lmul, 1) := by decide +kernel
theorem dX12_both_45 : decode cX12_both 45 = .ok (.lreturn, 1) := by decide +kernel
theorem dX12_byteAt_0 : decode cX12_byteAt 0 = .ok (.iload_n 1, 1) := by decide +kernel
theorem dX12_byteAt_1 : decode cX12_byteAt 1 = .ok (.aload_n 0, 1) := by decide +kernel
theorem dX12_byteAt_2 : decode cX12_byteAt 2 = .ok (.getfield 160, 3) := by decide +kernel
theorem dX12_byteAt_5 : decode cX12_byteAt 5 = .ok (.if_icmp .ge 12, 3) := by decide +kernel
theorem dX12_byteAt_8 : decode cX12_byteAt 8 = .ok (.aload_n 0, 1) := by decide +kernel
theorem dX12_byteAt_9 : decode cX12_byteAt 9 = .ok (.getfield 7, 3) := by decide +kernel
theorem dX12_byteAt_12 : decode cX12_byteAt 12 = .ok (.iload_n 1, 1) := by decide +kernel
theorem dX12_byteAt_13 : decode cX12_byteAt 13 = .ok (.iaload, 1) := by decide +kernel
theorem dX12_byteAt_14 : decode cX12_byteAt 14 = .ok (.goto 4, 3) := by decide +kernel
theorem dX12_byteAt_17 : decode cX12_byteAt 17 = .ok (.iconst 0, 1) := by decide +kernel
theorem dX12_byteAt_18 : decode cX12_byteAt 18 = .ok (.ireturn, 1) := by decide +kernel
theorem dX12_chair_0 : decode cX12_chair 0 = .ok (.bipush 99, 2) := by decide +kernel
theorem dX12_chair_2 : decode cX12_chair 2 = .ok (.bipush 104, 2) := by decide +kernel
theorem dX12_chair_4 : decode cX12_chair 4 = .ok (.bipush 97, 2) := by decide +kernel
theorem dX12_chair_6 : decode cX12_chair 6 = .ok (.bipush 105, 2) := by decide +kernel
theorem dX12_chair_8 : decode cX12_chair 8 = .ok (.bipush 114, 2) := by decide +kernel
theorem dX12_chair_10 : decode cX12_chair 10 = .ok (.invokestatic 193, 3) := by decide +kernel
theorem dX12_chair_13 : decode cX12_chair 13 = .ok (.lreturn, 1) := by decide +kernel
theorem dX12_cliff_0 : decode cX12_cliff 0 = .ok (.aload_n 0, 1) := by decide +kernel
theorem dX12_cliff_1 : decode cX12_cliff 1 = .ok (.iconst 0, 1) := by decide +kernel
theorem dX12_cliff_2 : decode cX12_cliff 2 = .ok (.putfield 149, 3) := by decide +kernel
theorem dX12_cliff_5 : decode cX12_cliff 5 = .ok (.aload_n 0, 1) := by decide +kernel
theorem dX12_cliff_6 : decode cX12_cliff 6 = .ok (.invokevirtual 426, 3) := by decide +kernel
theorem dX12_cliff_9 : decode cX12_cliff 9 = .ok (.ifCond .eq 14, 3) := by decide +kernel
theorem dX12_cliff_12 : decode cX12_cliff 12 = .ok (.aload_n 0, 1) := by decide +kernel
theorem dX12_cliff_13 : decode cX12_cliff 13 = .ok (.aload_n 0, 1) := by decide +kernel
theorem dX12_cliff_14 : decode cX12_cliff 14 = .ok (.getfield 405, 3) := by decide +kernel
theorem dX12_cliff_17 : decode cX12_cliff 17 = .ok (.invokevirtual 420, 3) := by decide +kernel
theorem dX12_cliff_20 : decode cX12_cliff 20 = .ok (.goto 4, 3) := by decide +kernel
theorem dX12_cliff_23 : decode cX12_cliff 23 = .ok (.iconst (-1), 1) := by decide +kernel
theorem dX12_cliff_24 : decode cX12_cliff 24 = .ok (.ireturn, 1) := by decide +kernel
theorem dX12_cliffOfSaid_0 : decode cX12_cliffOfSaid 0 = .ok (.iload_n 1, 1) := by decide +kernel
theorem dX12_cliffOfSaid_1 : decode cX12_cliffOfSaid 1 = .ok (.istore_n 2, 1) := by decide +kernel
theorem dX12_cliffOfSaid_2 : decode cX12_cliffOfSaid 2 = .ok (.iload_n 2, 1) := by decide +kernel
theorem dX12_cliffOfSaid_3 : decode cX12_cliffOfSaid 3 = .ok (.ifCond .le 22, 3) := by decide +kernel
theorem dX12_cliffOfSaid_6 : decode cX12_cliffOfSaid 6 = .ok (.aload_n 0, 1) := by decide +kernel
theorem dX12_cliffOfSaid_7 : decode cX12_cliffOfSaid 7 = .ok (.getfield 95, 3) := by decide +kernel
theorem dX12_cliffOfSaid_10 : decode cX12_cliffOfSaid 10 = .ok (.iload_n 2, 1) := by decide +kernel
theorem dX12_cliffOfSaid_11 : decode cX12_cliffOfSaid 11 = .ok (.iconst 1, 1) := by decide +kernel
theorem dX12_cliffOfSaid_12 : decode cX12_cliffOfSaid 12 = .ok (.isub, 1) := by decide +kernel
theorem dX12_cliffOfSaid_13 : decode cX12_cliffOfSaid 13 = .ok (.iaload, 1) := by decide +kernel
theorem dX12_cliffOfSaid_14 : decode cX12_cliffOfSaid 14 = .ok (.bipush 8, 2) := by decide +kernel
theorem dX12_cliffOfSaid_16 : decode cX12_cliffOfSaid 16 = .ok (.if_icmp .ge 9, 3) := by decide +kernel
theorem dX12_cliffOfSaid_19 : decode cX12_cliffOfSaid 19 = .ok (.iinc 2 (-1), 3) := by decide +kernel
theorem dX12_cliffOfSaid_22 : decode cX12_cliffOfSaid 22 = .ok (.goto (-20), 3) := by decide +kernel
theorem dX12_cliffOfSaid_25 : decode cX12_cliffOfSaid 25 = .ok (.iload_n 2, 1) := by decide +kernel
theorem dX12_cliffOfSaid_26 : decode cX12_cliffOfSaid 26 = .ok (.iload_n 1, 1) := by decide +kernel
theorem dX12_cliffOfSaid_27 : decode cX12_cliffOfSaid 27 = .ok (.if_icmp .ne 7, 3) := by decide +kernel
theorem dX12_cliffOfSaid_30 : decode cX12_cliffOfSaid 30 = .ok (.iconst (-1), 1) := by decide +kernel
theorem dX12_cliffOfSaid_31 : decode cX12_cliffOfSaid 31 = .ok (.goto 4, 3) := by decide +kernel
theorem dX12_cliffOfSaid_34 : decode cX12_cliffOfSaid 34 = .ok (.iload_n 2, 1) := by decide +kernel
theorem dX12_cliffOfSaid_35 : decode cX12_cliffOfSaid 35 = .ok (.ireturn, 1) := by decide +kernel
theorem dX12_come_0 : decode cX12_come 0 = .ok (.bipush 24, 2) := by decide +kernel
theorem dX12_come_2 : decode cX12_come 2 = .ok (.istore_n 2, 1) := by decide +kernel
theorem dX12_come_3 : decode cX12_come 3 = .ok (.iload_n 2, 1) := by decide +kernel
theorem dX12_come_4 : decode cX12_come 4 = .ok (.ifCond .lt 35, 3) := by decide +kernel
theorem dX12_come_7 : decode cX12_come 7 = .ok (.aload_n 0, 1) := by decide +kernel
theorem dX12_come_8 : decode cX12_come 8 = .ok (.getfield 7, 3) := by decide +kernel
theorem dX12_come_11 : decode cX12_come 11 = .ok (.aload_n 0, 1) := by decide +kernel
theorem dX12_come_12 : decode cX12_come 12 = .ok (.getfield 153, 3) := by decide +kernel
theorem dX12_come_15 : decode cX12_come 15 = .ok (.iload_n 1, 1) := by decide +kernel
theorem dX12_come_16 : decode cX12_come 16 = .ok (.iload_n 2, 1) := by decide +kernel
theorem dX12_come_17 : decode cX12_come 17 = .ok (.iushr, 1) := by decide +kernel
theorem dX12_come_18 : decode cX12_come 18 = .ok (.sipush 255, 3) := by decide +kernel
theorem dX12_come_21 : decode cX12_come 21 = .ok (.iand, 1) := by decide +kernel
theorem dX12_come_22 : decode cX12_come 22 = .ok (.iastore, 1) := by decide +kernel
theorem dX12_come_23 : decode cX12_come 23 = .ok (.aload_n 0, 1) := by decide +kernel
theorem dX12_come_24 : decode cX12_come 24 = .ok (.dup, 1) := by decide +kernel
theorem dX12_come_25 : decode cX12_come 25 = .ok (.getfield 153, 3) := by decide +kernel
theorem dX12_come_28 : decode cX12_come 28 = .ok (.iconst 1, 1) := by decide +kernel
theorem dX12_come_29 : decode cX12_come 29 = .ok (.iadd, 1) := by decide +kernel
theorem dX12_come_30 : decode cX12_come 30 = .ok (.putfield 153, 3) := by decide +kernel
theorem dX12_come_33 : decode cX12_come 33 = .ok (.iinc 2 (-8), 3) := by decide +kernel
theorem dX12_come_36 : decode cX12_come 36 = .ok (.goto (-33), 3) := by decide +kernel
theorem dX12_come_39 : decode cX12_come 39 = .ok (.return_, 1) := by decide +kernel
