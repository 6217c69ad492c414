theorem dX3_noteReplies_0 : decode cX3_noteReplies 0 = .ok (.aload_n 0, 1) := by decide +kernel
theorem dX3_noteReplies_1 : decode cX3_noteReplies 1 = .ok (.aload_n 0, 1) := by decide +kernel
theorem dX3_noteReplies_2 : decode cX3_noteReplies 2 = .ok (.getfield 15, 3) := by decide +kernel
theorem dX3_noteReplies_5 : decode cX3_noteReplies 5 = .ok (.aload_n 0, 1) := by decide +kernel
theorem dX3_noteReplies_6 : decode cX3_noteReplies 6 = .ok (.getfield 29, 3) := by decide +kernel
theorem dX3_noteReplies_9 : decode cX3_noteReplies 9 = .ok (.iload_n 1, 1) := by decide +kernel
theorem dX3_noteReplies_10 : decode cX3_noteReplies 10 = .ok (.invokevirtual 139, 3) := by decide +kernel
theorem dX3_noteReplies_13 : decode cX3_noteReplies 13 = .ok (.iconst 0, 1) := by decide +kernel
theorem dX3_noteReplies_14 : decode cX3_noteReplies 14 = .ok (.istore_n 2, 1) := by decide +kernel
theorem dX3_noteReplies_15 : decode cX3_noteReplies 15 = .ok (.iload_n 2, 1) := by decide +kernel
theorem dX3_noteReplies_16 : decode cX3_noteReplies 16 = .ok (.aload_n 0, 1) := by decide +kernel
theorem dX3_noteReplies_17 : decode cX3_noteReplies 17 = .ok (.getfield 15, 3) := by decide +kernel
theorem dX3_noteReplies_20 : decode cX3_noteReplies 20 = .ok (.getfield 111, 3) := by decide +kernel
theorem dX3_noteReplies_23 : decode cX3_noteReplies 23 = .ok (.iload_n 1, 1) := by decide +kernel
theorem dX3_noteReplies_24 : decode cX3_noteReplies 24 = .ok (.aaload, 1) := by decide +kernel
theorem dX3_noteReplies_25 : decode cX3_noteReplies 25 = .ok (.getfield 143, 3) := by decide +kernel
theorem dX3_noteReplies_28 : decode cX3_noteReplies 28 = .ok (.if_icmp .ge 66, 3) := by decide +kernel
theorem dX3_noteReplies_31 : decode cX3_noteReplies 31 = .ok (.aload_n 0, 1) := by decide +kernel
theorem dX3_noteReplies_32 : decode cX3_noteReplies 32 = .ok (.getfield 54, 3) := by decide +kernel
theorem dX3_noteReplies_35 : decode cX3_noteReplies 35 = .ok (.iload_n 2, 1) := by decide +kernel
theorem dX3_noteReplies_36 : decode cX3_noteReplies 36 = .ok (.iconst 0, 1) := by decide +kernel
theorem dX3_noteReplies_37 : decode cX3_noteReplies 37 = .ok (.iastore, 1) := by decide +kernel
theorem dX3_noteReplies_38 : decode cX3_noteReplies 38 = .ok (.iconst 0, 1) := by decide +kernel
theorem dX3_noteReplies_39 : decode cX3_noteReplies 39 = .ok (.istore_n 3, 1) := by decide +kernel
theorem dX3_noteReplies_40 : decode cX3_noteReplies 40 = .ok (.iload_n 3, 1) := by decide +kernel
theorem dX3_noteReplies_41 : decode cX3_noteReplies 41 = .ok (.aload_n 0, 1) := by decide +kernel
theorem dX3_noteReplies_42 : decode cX3_noteReplies 42 = .ok (.getfield 15, 3) := by decide +kernel
theorem dX3_noteReplies_45 : decode cX3_noteReplies 45 = .ok (.getfield 95, 3) := by decide +kernel
theorem dX3_noteReplies_48 : decode cX3_noteReplies 48 = .ok (.if_icmp .gt 40, 3) := by decide +kernel
theorem dX3_noteReplies_51 : decode cX3_noteReplies 51 = .ok (.aload_n 0, 1) := by decide +kernel
theorem dX3_noteReplies_52 : decode cX3_noteReplies 52 = .ok (.iload_n 1, 1) := by decide +kernel
theorem dX3_noteReplies_53 : decode cX3_noteReplies 53 = .ok (.iload_n 2, 1) := by decide +kernel
theorem dX3_noteReplies_54 : decode cX3_noteReplies 54 = .ok (.aload_n 0, 1) := by decide +kernel
theorem dX3_noteReplies_55 : decode cX3_noteReplies 55 = .ok (.iload_n 3, 1) := by decide +kernel
theorem dX3_noteReplies_56 : decode cX3_noteReplies 56 = .ok (.invokevirtual 107, 3) := by decide +kernel
theorem dX3_noteReplies_59 : decode cX3_noteReplies 59 = .ok (.invokevirtual 146, 3) := by decide +kernel
theorem dX3_noteReplies_62 : decode cX3_noteReplies 62 = .ok (.aload_n 0, 1) := by decide +kernel
theorem dX3_noteReplies_63 : decode cX3_noteReplies 63 = .ok (.iload_n 3, 1) := by decide +kernel
theorem dX3_noteReplies_64 : decode cX3_noteReplies 64 = .ok (.invokevirtual 107, 3) := by decide +kernel
theorem dX3_noteReplies_67 : decode cX3_noteReplies 67 = .ok (.if_icmp .ne 15, 3) := by decide +kernel
theorem dX3_noteReplies_70 : decode cX3_noteReplies 70 = .ok (.aload_n 0, 1) := by decide +kernel
theorem dX3_noteReplies_71 : decode cX3_noteReplies 71 = .ok (.getfield 54, 3) := by decide +kernel
theorem dX3_noteReplies_74 : decode cX3_noteReplies 74 = .ok (.iload_n 2, 1) := by decide +kernel
theorem dX3_noteReplies_75 : decode cX3_noteReplies 75 = .ok (.dup2, 1) := by decide +kernel
theorem dX3_noteReplies_76 : decode cX3_noteReplies 76 = .ok (.iaload, 1) := by decide +kernel
theorem dX3_noteReplies_77 : decode cX3_noteReplies 77 = .ok (.iconst 1, 1) := by decide +kernel
theorem dX3_noteReplies_78 : decode cX3_noteReplies 78 = .ok (.iload_n 3, 1) := by decide +kernel
theorem dX3_noteReplies_79 : decode cX3_noteReplies 79 = .ok (.ishl, 1) := by decide +kernel
theorem dX3_noteReplies_80 : decode cX3_noteReplies 80 = .ok (.ior, 1) := by decide +kernel
theorem dX3_noteReplies_81 : decode cX3_noteReplies 81 = .ok (.iastore, 1) := by decide +kernel
theorem dX3_noteReplies_82 : decode cX3_noteReplies 82 = .ok (.iinc 3 1, 3) := by decide +kernel
theorem dX3_noteReplies_85 : decode cX3_noteReplies 85 = .ok (.goto (-45), 3) := by decide +kernel
theorem dX3_noteReplies_88 : decode cX3_noteReplies 88 = .ok (.iinc 2 1, 3) := by decide +kernel
theorem dX3_noteReplies_91 : decode cX3_noteReplies 91 = .ok (.goto (-76), 3) := by decide +kernel
theorem dX3_noteReplies_94 : decode cX3_noteReplies 94 = .ok (.return_, 1) := by decide +kernel
theorem dX3_settleVotes_0 : decode cX3_settleVotes 0 = .ok (.iconst 0, 1) := by decide +kernel
theorem dX3_settleVotes_1 : decode cX3_settleVotes 1 = .ok (.istore_n 2, 1) := by decide +kernel
theorem dX3_settleVotes_2 : decode cX3_settleVotes 2 = .ok (.iload_n 2, 1) := by decide +kernel
theorem dX3_settleVotes_3 : decode cX3_settleVotes 3 = .ok (.bipush 21, 2) := by decide +kernel
theorem dX3_settleVotes_5 : decode cX3_settleVotes 5 = .ok (.if_icmp .ge 21, 3) := by decide +kernel
theorem dX3_settleVotes_8 : decode cX3_settleVotes 8 = .ok (.aload_n 0, 1) := by decide +kernel
theorem dX3_settleVotes_9 : decode cX3_settleVotes 9 = .ok (.getfield 29, 3) := by decide +kernel
theorem dX3_settleVotes_12 : decode cX3_settleVotes 12 = .ok (.iload_n 2, 1) := by decide +kernel
theorem dX3_settleVotes_13 : decode cX3_settleVotes 13 = .ok (.aload_n 1, 1) := by decide +kernel
theorem dX3_settleVotes_14 : decode cX3_settleVotes 14 = .ok (.getfield 61, 3) := by decide +kernel
theorem dX3_settleVotes_17 : decode cX3_settleVotes 17 = .ok (.iload_n 2, 1) := by decide +kernel
theorem dX3_settleVotes_18 : decode cX3_settleVotes 18 = .ok (.iaload, 1) := by decide +kernel
theorem dX3_settleVotes_19 : decode cX3_settleVotes 19 = .ok (.iastore, 1) := by decide +kernel
theorem dX3_settleVotes_20 : decode cX3_settleVotes 20 = .ok (.iinc 2 1, 3) := by decide +kernel
theorem dX3_settleVotes_23 : decode cX3_settleVotes 23 = .ok (.goto (-21), 3) := by decide +kernel
theorem dX3_settleVotes_26 : decode cX3_settleVotes 26 = .ok (.iconst 1, 1) := by decide +kernel
theorem dX3_settleVotes_27 : decode cX3_settleVotes 27 = .ok (.istore_n 2, 1) := by decide +kernel
theorem dX3_settleVotes_28 : decode cX3_settleVotes 28 = .ok (.iload_n 2, 1) := by decide +kernel
theorem dX3_settleVotes_29 : decode cX3_settleVotes 29 = .ok (.bipush 50, 2) := by decide +kernel
theorem dX3_settleVotes_31 : decode cX3_settleVotes 31 = .ok (.if_icmp .gt 59, 3) := by decide +kernel
theorem dX3_settleVotes_34 : decode cX3_settleVotes 34 = .ok (.aload_n 0, 1) := by decide +kernel
theorem dX3_settleVotes_35 : decode cX3_settleVotes 35 = .ok (.aload_n 1, 1) := by decide +kernel
theorem dX3_settleVotes_36 : decode cX3_settleVotes 36 = .ok (.invokevirtual 150, 3) := by decide +kernel
theorem dX3_settleVotes_39 : decode cX3_settleVotes 39 = .ok (.ifCond .ne 45, 3) := by decide +kernel
theorem dX3_settleVotes_42 : decode cX3_settleVotes 42 = .ok (.aload_n 0, 1) := by decide +kernel
theorem dX3_settleVotes_43 : decode cX3_settleVotes 43 = .ok (.aload_n 1, 1) := by decide +kernel
theorem dX3_settleVotes_44 : decode cX3_settleVotes 44 = .ok (.aload_n 0, 1) := by decide +kernel
theorem dX3_settleVotes_45 : decode cX3_settleVotes 45 = .ok (.getfield 33, 3) := by decide +kernel
theorem dX3_settleVotes_48 : decode cX3_settleVotes 48 = .ok (.invokevirtual 154, 3) := by decide +kernel
theorem dX3_settleVotes_51 : decode cX3_settleVotes 51 = .ok (.aload_n 0, 1) := by decide +kernel
theorem dX3_settleVotes_52 : decode cX3_settleVotes 52 = .ok (.aload_n 1, 1) := by decide +kernel
theorem dX3_settleVotes_53 : decode cX3_settleVotes 53 = .ok (.invokevirtual 157, 3) := by decide +kernel
theorem dX3_settleVotes_56 : decode cX3_settleVotes 56 = .ok (.aload_n 0, 1) := by decide +kernel
theorem dX3_settleVotes_57 : decode cX3_settleVotes 57 = .ok (.aload_n 0, 1) := by decide +kernel
theorem dX3_settleVotes_58 : decode cX3_settleVotes 58 = .ok (.getfield 26, 3) := by decide +kernel
theorem dX3_settleVotes_61 : decode cX3_settleVotes 61 = .ok (.invokestatic 161, 3) := by decide +kernel
theorem dX3_settleVotes_64 : decode cX3_settleVotes 64 = .ok (.putfield 41, 3) := by decide +kernel
theorem dX3_settleVotes_67 : decode cX3_settleVotes 67 = .ok (.aload_n 0, 1) := by decide +kernel
theorem dX3_settleVotes_68 : decode cX3_settleVotes 68 = .ok (.aload_n 1, 1) := by decide +kernel
theorem dX3_settleVotes_69 : decode cX3_settleVotes 69 = .ok (.getfield 165, 3) := by decide +kernel
theorem dX3_settleVotes_72 : decode cX3_settleVotes 72 = .ok (.aload_n 0, 1) := by decide +kernel
theorem dX3_settleVotes_73 : decode cX3_settleVotes 73 = .ok (.getfield 26, 3) := by decide +kernel
theorem dX3_settleVotes_76 : decode cX3_settleVotes 76 = .ok (.invokevirtual 168, 3) := by decide +kernel
theorem dX3_settleVotes_79 : decode cX3_settleVotes 79 = .ok (.putfield 45, 3) := by decide +kernel
theorem dX3_settleVotes_82 : decode cX3_settleVotes 82 = .ok (.iload_n 2, 1) := by decide +kernel
theorem dX3_settleVotes_83 : decode cX3_settleVotes 83 = .ok (.ireturn, 1) := by decide +kernel
theorem dX3_settleVotes_84 : decode cX3_settleVotes 84 = .ok (.iinc 2 1, 3) := by decide +kernel
theorem dX3_settleVotes_87 : decode cX3_settleVotes 87 = .ok (.goto (-59), 3) := by decide +kernel
theorem dX3_settleVotes_90 : decode cX3_settleVotes 90 = .ok (.iconst (-1), 1) := by decide +kernel
theorem dX3_settleVotes_91 : decode cX3_settleVotes 91 = .ok (.ireturn, 1) := by decide +kernel
theorem dX3_turnsNow_0 : decode cX3_turnsNow 0 = .ok (.aload_n 0, 1) := by decide +kernel
theorem dX3_turnsNow_1 : decode cX3_turnsNow 1 = .ok (.getfield 9, 3) := by decide +kernel
theorem dX3_turnsNow_4 : decode cX3_turnsNow 4 = .ok (.iload_n 1, 1) := by decide +kernel
theorem dX3_turnsNow_5 : decode cX3_turnsNow 5 = .ok (.bipush 9, 2) := by decide +kernel
theorem dX3_turnsNow_7 : decode cX3_turnsNow 7 = .ok (.invokevirtual 91, 3) := by decide +kernel
theorem dX3_turnsNow_10 : decode cX3_turnsNow 10 = .ok (.istore_n 2, 1) := by decide +kernel
theorem dX3_turnsNow_11 : decode cX3_turnsNow 11 = .ok (.iconst 0, 1) := by decide +kernel
theorem dX3_turnsNow_12 : decode cX3_turnsNow 12 = .ok (.istore_n 3, 1) := by decide +kernel
theorem dX3_turnsNow_13 : decode cX3_turnsNow 13 = .ok (.iload_n 3, 1) := by decide +kernel
theorem dX3_turnsNow_14 : decode cX3_turnsNow 14 = .ok (.aload_n 0, 1) := by decide +kernel
theorem dX3_turnsNow_15 : decode cX3_turnsNow 15 = .ok (.getfield 15, 3) := by decide +kernel
theorem dX3_turnsNow_18 : decode cX3_turnsNow 18 = .ok (.getfield 95, 3) := by decide +kernel
theorem dX3_turnsNow_21 : decode cX3_turnsNow 21 = .ok (.if_icmp .ge 24, 3) := by decide +kernel
theorem dX3_turnsNow_24 : decode cX3_turnsNow 24 = .ok (.aload_n 0, 1) := by decide +kernel
theorem dX3_turnsNow_25 : decode cX3_turnsNow 25 = .ok (.getfield 9, 3) := by decide +kernel
theorem dX3_turnsNow_28 : decode cX3_turnsNow 28 = .ok (.iload_n 1, 1) := by decide +kernel
theorem dX3_turnsNow_29 : decode cX3_turnsNow 29 = .ok (.iload_n 3, 1) := by decide +kernel
theorem dX3_turnsNow_30 : decode cX3_turnsNow 30 = .ok (.invokevirtual 91, 3) := by decide +kernel
theorem dX3_turnsNow_33 : decode cX3_turnsNow 33 = .ok (.iload_n 2, 1) := by decide +kernel
theorem dX3_turnsNow_34 : decode cX3_turnsNow 34 = .ok (.if_icmp .eq 5, 3) := by decide +kernel
theorem dX3_turnsNow_37 : decode cX3_turnsNow 37 = .ok (.iconst 1, 1) := by decide +kernel
theorem dX3_turnsNow_38 : decode cX3_turnsNow 38 = .ok (.ireturn, 1) := by decide +kernel
theorem dX3_turnsNow_39 : decode cX3_turnsNow 39 = .ok (.iinc 3 1, 3) := by decide +kernel
theorem dX3_turnsNow_42 : decode cX3_turnsNow 42 = .ok (.goto (-29), 3) := by decide +kernel
theorem dX3_turnsNow_45 : decode cX3_turnsNow 45 = .ok (.iconst 0, 1) := by decide +kernel
theorem dX3_turnsNow_46 : decode cX3_turnsNow 46 = .ok (.ireturn, 1) := by decide +kernel
theorem dX3_voteAt_0 : decode cX3_voteAt 0 = .ok (.iload_n 1, 1) := by decide +kernel
theorem dX3_voteAt_1 : decode cX3_voteAt 1 = .ok (.aload_n 0, 1) := by decide +kernel
theorem dX3_voteAt_2 : decode cX3_voteAt 2 = .ok (.getfield 15, 3) := by decide +kernel
theorem dX3_voteAt_5 : decode cX3_voteAt 5 = .ok (.getfield 95, 3) := by decide +kernel
theorem dX3_voteAt_8 : decode cX3_voteAt 8 = .ok (.if_icmp .ge 7, 3) := by decide +kernel
theorem dX3_voteAt_11 : decode cX3_voteAt 11 = .ok (.iload_n 1, 1) := by decide +kernel
theorem dX3_voteAt_12 : decode cX3_voteAt 12 = .ok (.goto 5, 3) := by decide +kernel
theorem dX3_voteAt_15 : decode cX3_voteAt 15 = .ok (.bipush 9, 2) := by decide +kernel
theorem dX3_voteAt_17 : decode cX3_voteAt 17 = .ok (.ireturn, 1) := by decide +kernel
theorem dX4_addChoice_0 : decode cX4_addChoice 0 = .ok (.iconst 0, 1) := by decide +kernel
theorem dX4_addChoice_1 : decode cX4_addChoice 1 = .ok (.istore 4, 2) := by decide +kernel
theorem dX4_addChoice_3 : decode cX4_addChoice 3 = .ok (.iload 4, 2) := by decide +kernel
theorem dX4_addChoice_5 : decode cX4_addChoice 5 = .ok (.aload_n 0, 1) := by decide +kernel
theorem dX4_addChoice_6 : decode cX4_addChoice 6 = .ok (.getfield 15, 3) := by decide +kernel
theorem dX4_addChoice_9 : decode cX4_addChoice 9 = .ok (.iload_n 1, 1) := by decide +kernel
theorem dX4_addChoice_10 : decode cX4_addChoice 10 = .ok (.iaload, 1) := by decide +kernel
theorem dX4_addChoice_11 : decode cX4_addChoice 11 = .ok (.if_icmp .ge 24, 3) := by decide +kernel
theorem dX4_addChoice_14 : decode cX4_addChoice 14 = .ok (.aload_n 0, 1) := by decide +kernel
theorem dX4_addChoice_15 : decode cX4_addChoice 15 = .ok (.getfield 22, 3) := by decide +kernel
theorem dX4_addChoice_18 : decode cX4_addChoice 18 = .ok (.iload_n 1, 1) := by decide +kernel
theorem dX4_addChoice_19 : decode cX4_addChoice 19 = .ok (.iconst 3, 1) := by decide +kernel
theorem dX4_addChoice_20 : decode cX4_addChoice 20 = .ok (.imul, 1) := by decide +kernel
theorem dX4_addChoice_21 : decode cX4_addChoice 21 = .ok (.iload 4, 2) := by decide +kernel
theorem dX4_addChoice_23 : decode cX4_addChoice 23 = .ok (.iadd, 1) := by decide +kernel
theorem dX4_addChoice_24 : decode cX4_addChoice 24 = .ok (.iaload, 1) := by decide +kernel
theorem dX4_addChoice_25 : decode cX4_addChoice 25 = .ok (.iload_n 3, 1) := by decide +kernel
theorem dX4_addChoice_26 : decode cX4_addChoice 26 = .ok (.if_icmp .eq 9, 3) := by decide +kernel
theorem dX4_addChoice_29 : decode cX4_addChoice 29 = .ok (.iinc 4 1, 3) := by decide +kernel
theorem dX4_addChoice_32 : decode cX4_addChoice 32 = .ok (.goto (-29), 3) := by decide +kernel
theorem dX4_addChoice_35 : decode cX4_addChoice 35 = .ok (.iload 4, 2) := by decide +kernel
theorem dX4_addChoice_37 : decode cX4_addChoice 37 = .ok (.aload_n 0, 1) := by decide +kernel
theorem dX4_addChoice_38 : decode cX4_addChoice 38 = .ok (.getfield 15, 3) := by decide +kernel
theorem dX4_addChoice_41 : decode cX4_addChoice 41 = .ok (.iload_n 1, 1) := by decide +kernel
theorem dX4_addChoice_42 : decode cX4_addChoice 42 = .ok (.iaload, 1) := by decide +kernel
theorem dX4_addChoice_43 : decode cX4_addChoice 43 = .ok (.if_icmp .ne 10, 3) := by decide +kernel
theorem dX4_addChoice_46 : decode cX4_addChoice 46 = .ok (.aload_n 0, 1) := by decide +kernel
theorem dX4_addChoice_47 : decode cX4_addChoice 47 = .ok (.iload_n 1, 1) := by decide +kernel
theorem dX4_addChoice_48 : decode cX4_addChoice 48 = .ok (.iload_n 3, 1) := by decide +kernel
theorem dX4_addChoice_49 : decode cX4_addChoice 49 = .ok (.iconst 0, 1) := by decide +kernel
theorem dX4_addChoice_50 : decode cX4_addChoice 50 = .ok (.invokevirtual 60, 3) := by decide +kernel
theorem dX4_addChoice_53 : decode cX4_addChoice 53 = .ok (.iconst 0, 1) := by decide +kernel
theorem dX4_addChoice_54 : decode cX4_addChoice 54 = .ok (.istore 5, 2) := by decide +kernel
theorem dX4_addChoice_56 : decode cX4_addChoice 56 = .ok (.iload 5, 2) := by decide +kernel
theorem dX4_addChoice_58 : decode cX4_addChoice 58 = .ok (.iconst 3, 1) := by decide +kernel
theorem dX4_addChoice_59 : decode cX4_addChoice 59 = .ok (.if_icmp .ge 47, 3) := by decide +kernel
theorem dX4_addChoice_62 : decode cX4_addChoice 62 = .ok (.aload_n 0, 1) := by decide +kernel
theorem dX4_addChoice_63 : decode cX4_addChoice 63 = .ok (.getfield 25, 3) := by decide +kernel
theorem dX4_addChoice_66 : decode cX4_addChoice 66 = .ok (.iload_n 1, 1) := by decide +kernel
theorem dX4_addChoice_67 : decode cX4_addChoice 67 = .ok (.iconst 3, 1) := by decide +kernel
theorem dX4_addChoice_68 : decode cX4_addChoice 68 = .ok (.imul, 1) := by decide +kernel
theorem dX4_addChoice_69 : decode cX4_addChoice 69 = .ok (.iload 4, 2) := by decide +kernel
theorem dX4_addChoice_71 : decode cX4_addChoice 71 = .ok (.iadd, 1) := by decide +kernel
theorem dX4_addChoice_72 : decode cX4_addChoice 72 = .ok (.iconst 3, 1) := by decide +kernel
theorem dX4_addChoice_73 : decode cX4_addChoice 73 = .ok (.imul, 1) := by decide +kernel
theorem dX4_addChoice_74 : decode cX4_addChoice 74 = .ok (.iload 5, 2) := by decide +kernel
theorem dX4_addChoice_76 : decode cX4_addChoice 76 = .ok (.iadd, 1) := by decide +kernel
theorem dX4_addChoice_77 : decode cX4_addChoice 77 = .ok (.dup2, 1) := by decide +kernel
theorem dX4_addChoice_78 : decode cX4_addChoice 78 = .ok (.iaload, 1) := by decide +kernel
theorem dX4_addChoice_79 : decode cX4_addChoice 79 = .ok (.aload_n 0, 1) := by decide +kernel
theorem dX4_addChoice_80 : decode cX4_addChoice 80 = .ok (.getfield 9, 3) := by decide +kernel
theorem dX4_addChoice_83 : decode cX4_addChoice 83 = .ok (.getfield 47, 3) := by decide +kernel
theorem dX4_addChoice_86 : decode cX4_addChoice 86 = .ok (.iload_n 1, 1) := by decide +kernel
theorem dX4_addChoice_87 : decode cX4_addChoice 87 = .ok (.aaload, 1) := by decide +kernel
theorem dX4_addChoice_88 : decode cX4_addChoice 88 = .ok (.getfield 66, 3) := by decide +kernel
theorem dX4_addChoice_91 : decode cX4_addChoice 91 = .ok (.iload 5, 2) := by decide +kernel
theorem dX4_addChoice_93 : decode cX4_addChoice 93 = .ok (.iconst 3, 1) := by decide +kernel
theorem dX4_addChoice_94 : decode cX4_addChoice 94 = .ok (.imul, 1) := by decide +kernel
theorem dX4_addChoice_95 : decode cX4_addChoice 95 = .ok (.iload_n 2, 1) := by decide +kernel
theorem dX4_addChoice_96 : decode cX4_addChoice 96 = .ok (.iadd, 1) := by decide +kernel
theorem dX4_addChoice_97 : decode cX4_addChoice 97 = .ok (.iaload, 1) := by decide +kernel
theorem dX4_addChoice_98 : decode cX4_addChoice 98 = .ok (.iadd, 1) := by decide +kernel
theorem dX4_addChoice_99 : decode cX4_addChoice 99 = .ok (.iastore, 1) := by decide +kernel
theorem dX4_addChoice_100 : decode cX4_addChoice 100 = .ok (.iinc 5 1, 3) := by decide +kernel
theorem dX4_addChoice_103 : decode cX4_addChoice 103 = .ok (.goto (-47), 3) := by decide +kernel
theorem dX4_addChoice_106 : decode cX4_addChoice 106 = .ok (.return_, 1) := by decide +kernel
theorem dX4_addRow_0 : decode cX4_addRow 0 = .ok (.iconst 0, 1) := by decide +kernel
theorem dX4_addRow_1 : decode cX4_addRow 1 = .ok (.istore_n 3, 1) := by decide +kernel
theorem dX4_addRow_2 : decode cX4_addRow 2 = .ok (.iload_n 3, 1) := by decide +kernel
theorem dX4_addRow_3 : decode cX4_addRow 3 = .ok (.iconst 3, 1) := by decide +kernel
theorem dX4_addRow_4 : decode cX4_addRow 4 = .ok (.if_icmp .ge 24, 3) := by decide +kernel
theorem dX4_addRow_7 : decode cX4_addRow 7 = .ok (.aload_n 1, 1) := by decide +kernel
theorem dX4_addRow_8 : decode cX4_addRow 8 = .ok (.iload_n 3, 1) := by decide +kernel
theorem dX4_addRow_9 : decode cX4_addRow 9 = .ok (.iconst 3, 1) := by decide +kernel
theorem dX4_addRow_10 : decode cX4_addRow 10 = .ok (.imul, 1) := by decide +kernel
theorem dX4_addRow_11 : decode cX4_addRow 11 = .ok (.iload_n 2, 1) := by decide +kernel
theorem dX4_addRow_12 : decode cX4_addRow 12 = .ok (.iadd, 1) := by decide +kernel
theorem dX4_addRow_13 : decode cX4_addRow 13 = .ok (.dup2, 1) := by decide +kernel
theorem dX4_addRow_14 : decode cX4_addRow 14 = .ok (.laload, 1) := by decide +kernel
theorem dX4_addRow_15 : decode cX4_addRow 15 = .ok (.aload_n 0, 1) := by decide +kernel
theorem dX4_addRow_16 : decode cX4_addRow 16 = .ok (.iload_n 3, 1) := by decide +kernel
theorem dX4_addRow_17 : decode cX4_addRow 17 = .ok (.invokevirtual 126, 3) := by decide +kernel
theorem dX4_addRow_20 : decode cX4_addRow 20 = .ok (.ladd, 1) := by decide +kernel
theorem dX4_addRow_21 : decode cX4_addRow 21 = .ok (.lastore, 1) := by decide +kernel
theorem dX4_addRow_22 : decode cX4_addRow 22 = .ok (.iinc 3 1, 3) := by decide +kernel
theorem dX4_addRow_25 : decode cX4_addRow 25 = .ok (.goto (-23), 3) := by decide +kernel
theorem dX4_addRow_28 : decode cX4_addRow 28 = .ok (.return_, 1) := by decide +kernel
theorem dX4_decidesIf_0 : decode cX4_decidesIf 0 = .ok (.aload_n 0, 1) := by decide +kernel
theorem dX4_decidesIf_1 : decode cX4_decidesIf 1 = .ok (.invokevirtual 87, 3) := by decide +kernel
theorem dX4_decidesIf_4 : decode cX4_decidesIf 4 = .ok (.aload_n 0, 1) := by decide +kernel
theorem dX4_decidesIf_5 : decode cX4_decidesIf 5 = .ok (.getfield 9, 3) := by decide +kernel
theorem dX4_decidesIf_8 : decode cX4_decidesIf 8 = .ok (.aload_n 0, 1) := by decide +kernel
theorem dX4_decidesIf_9 : decode cX4_decidesIf 9 = .ok (.getfield 38, 3) := by decide +kernel
theorem dX4_decidesIf_12 : decode cX4_decidesIf 12 = .ok (.iload_n 1, 1) := by decide +kernel
theorem dX4_decidesIf_13 : decode cX4_decidesIf 13 = .ok (.iload_n 2, 1) := by decide +kernel
theorem dX4_decidesIf_14 : decode cX4_decidesIf 14 = .ok (.invokevirtual 97, 3) := by decide +kernel
theorem dX4_decidesIf_17 : decode cX4_decidesIf 17 = .ok (.iload_n 2, 1) := by decide +kernel
theorem dX4_decidesIf_18 : decode cX4_decidesIf 18 = .ok (.istore_n 3, 1) := by decide +kernel
theorem dX4_decidesIf_19 : decode cX4_decidesIf 19 = .ok (.aload_n 0, 1) := by decide +kernel
theorem dX4_decidesIf_20 : decode cX4_decidesIf 20 = .ok (.getfield 9, 3) := by decide +kernel
theorem dX4_decidesIf_23 : decode cX4_decidesIf 23 = .ok (.getfield 90, 3) := by decide +kernel
theorem dX4_decidesIf_26 : decode cX4_decidesIf 26 = .ok (.iload_n 1, 1) := by decide +kernel
theorem dX4_decidesIf_27 : decode cX4_decidesIf 27 = .ok (.if_icmp .eq 32, 3) := by decide +kernel
theorem dX4_decidesIf_30 : decode cX4_decidesIf 30 = .ok (.aload_n 0, 1) := by decide +kernel
theorem dX4_decidesIf_31 : decode cX4_decidesIf 31 = .ok (.getfield 9, 3) := by decide +kernel
theorem dX4_decidesIf_34 : decode cX4_decidesIf 34 = .ok (.getfield 90, 3) := by decide +kernel
theorem dX4_decidesIf_37 : decode cX4_decidesIf 37 = .ok (.iconst (-1), 1) := by decide +kernel
theorem dX4_decidesIf_38 : decode cX4_decidesIf 38 = .ok (.if_icmp .ne 8, 3) := by decide +kernel
theorem dX4_decidesIf_41 : decode cX4_decidesIf 41 = .ok (.bipush 9, 2) := by decide +kernel
theorem dX4_decidesIf_43 : decode cX4_decidesIf 43 = .ok (.goto 15, 3) := by decide +kernel
theorem dX4_decidesIf_46 : decode cX4_decidesIf 46 = .ok (.aload_n 0, 1) := by decide +kernel
theorem dX4_decidesIf_47 : decode cX4_decidesIf 47 = .ok (.getfield 35, 3) := by decide +kernel
theorem dX4_decidesIf_50 : decode cX4_decidesIf 50 = .ok (.aload_n 0, 1) := by decide +kernel
theorem dX4_decidesIf_51 : decode cX4_decidesIf 51 = .ok (.getfield 9, 3) := by decide +kernel
theorem dX4_decidesIf_54 : decode cX4_decidesIf 54 = .ok (.getfield 90, 3) := by decide +kernel
theorem dX4_decidesIf_57 : decode cX4_decidesIf 57 = .ok (.iaload, 1) := by decide +kernel
theorem dX4_decidesIf_58 : decode cX4_decidesIf 58 = .ok (.istore_n 3, 1) := by decide +kernel
theorem dX4_decidesIf_59 : decode cX4_decidesIf 59 = .ok (.aload_n 0, 1) := by decide +kernel
theorem dX4_decidesIf_60 : decode cX4_decidesIf 60 = .ok (.getfield 9, 3) := by decide +kernel
theorem dX4_decidesIf_63 : decode cX4_decidesIf 63 = .ok (.aload_n 0, 1) := by decide +kernel
theorem dX4_decidesIf_64 : decode cX4_decidesIf 64 = .ok (.getfield 38, 3) := by decide +kernel
theorem dX4_decidesIf_67 : decode cX4_decidesIf 67 = .ok (.iload_n 3, 1) := by decide +kernel
theorem dX4_decidesIf_68 : decode cX4_decidesIf 68 = .ok (.invokevirtual 93, 3) := by decide +kernel
theorem dX4_decidesIf_71 : decode cX4_decidesIf 71 = .ok (.ireturn, 1) := by decide +kernel
theorem dX4_decidesNow_0 : decode cX4_decidesNow 0 = .ok (.aload_n 0, 1) := by decide +kernel
theorem dX4_decidesNow_1 : decode cX4_decidesNow 1 = .ok (.invokevirtual 87, 3) := by decide +kernel
theorem dX4_decidesNow_4 : decode cX4_decidesNow 4 = .ok (.aload_n 0, 1) := by decide +kernel
theorem dX4_decidesNow_5 : decode cX4_decidesNow 5 = .ok (.getfield 9, 3) := by decide +kernel
theorem dX4_decidesNow_8 : decode cX4_decidesNow 8 = .ok (.aload_n 0, 1) := by decide +kernel
theorem dX4_decidesNow_9 : decode cX4_decidesNow 9 = .ok (.getfield 38, 3) := by decide +kernel
theorem dX4_decidesNow_12 : decode cX4_decidesNow 12 = .ok (.aload_n 0, 1) := by decide +kernel
theorem dX4_decidesNow_13 : decode cX4_decidesNow 13 = .ok (.getfield 9, 3) := by decide +kernel
theorem dX4_decidesNow_16 : decode cX4_decidesNow 16 = .ok (.getfield 90, 3) := by decide +kernel
theorem dX4_decidesNow_19 : decode cX4_decidesNow 19 = .ok (.iconst (-1), 1) := by decide +kernel
theorem dX4_decidesNow_20 : decode cX4_decidesNow 20 = .ok (.if_icmp .ne 8, 3) := by decide +kernel
theorem dX4_decidesNow_23 : decode cX4_decidesNow 23 = .ok (.bipush 9, 2) := by decide +kernel
theorem dX4_decidesNow_25 : decode cX4_decidesNow 25 = .ok (.goto 15, 3) := by decide +kernel
theorem dX4_decidesNow_28 : decode cX4_decidesNow 28 = .ok (.aload_n 0, 1) := by decide +kernel
theorem dX4_decidesNow_29 : decode cX4_decidesNow 29 = .ok (.getfield 35, 3) := by decide +kernel
theorem dX4_decidesNow_32 : decode cX4_decidesNow 32 = .ok (.aload_n 0, 1) := by decide +kernel
theorem dX4_decidesNow_33 : decode cX4_decidesNow 33 = .ok (.getfield 9, 3) := by decide +kernel
theorem dX4_decidesNow_36 : decode cX4_decidesNow 36 = .ok (.getfield 90, 3) := by decide +kernel
theorem dX4_decidesNow_39 : decode cX4_decidesNow 39 = .ok (.iaload, 1) := by decide +kernel
theorem dX4_decidesNow_40 : decode cX4_decidesNow 40 = .ok (.invokevirtual 93, 3) := by decide +kernel
theorem dX4_decidesNow_43 : decode cX4_decidesNow 43 = .ok (.ireturn, 1) := by decide +kernel
theorem dX4_fillFrom_0 : decode cX4_fillFrom 0 = .ok (.iload_n 1, 1) := by decide +kernel
theorem dX4_fillFrom_1 : decode cX4_fillFrom 1 = .ok (.istore_n 2, 1) := by decide +kernel
theorem dX4_fillFrom_2 : decode cX4_fillFrom 2 = .ok (.iload_n 2, 1) := by decide +kernel
theorem dX4_fillFrom_3 : decode cX4_fillFrom 3 = .ok (.aload_n 0, 1) := by decide +kernel
theorem dX4_fillFrom_4 : decode cX4_fillFrom 4 = .ok (.getfield 9, 3) := by decide +kernel
theorem dX4_fillFrom_7 : decode cX4_fillFrom 7 = .ok (.getfield 41, 3) := by decide +kernel
theorem dX4_fillFrom_10 : decode cX4_fillFrom 10 = .ok (.if_icmp .ge 140, 3) := by decide +kernel
theorem dX4_fillFrom_13 : decode cX4_fillFrom 13 = .ok (.iload_n 2, 1) := by decide +kernel
theorem dX4_fillFrom_14 : decode cX4_fillFrom 14 = .ok (.iconst 3, 1) := by decide +kernel
theorem dX4_fillFrom_15 : decode cX4_fillFrom 15 = .ok (.imul, 1) := by decide +kernel
theorem dX4_fillFrom_16 : decode cX4_fillFrom 16 = .ok (.aload_n 0, 1) := by decide +kernel
theorem dX4_fillFrom_17 : decode cX4_fillFrom 17 = .ok (.getfield 19, 3) := by decide +kernel
theorem dX4_fillFrom_20 : decode cX4_fillFrom 20 = .ok (.iload_n 2, 1) := by decide +kernel
theorem dX4_fillFrom_21 : decode cX4_fillFrom 21 = .ok (.iaload, 1) := by decide +kernel
theorem dX4_fillFrom_22 : decode cX4_fillFrom 22 = .ok (.iadd, 1) := by decide +kernel
theorem dX4_fillFrom_23 : decode cX4_fillFrom 23 = .ok (.istore_n 3, 1) := by decide +kernel
theorem dX4_fillFrom_24 : decode cX4_fillFrom 24 = .ok (.aload_n 0, 1) := by decide +kernel
theorem dX4_fillFrom_25 : decode cX4_fillFrom 25 = .ok (.getfield 35, 3) := by decide +kernel
theorem dX4_fillFrom_28 : decode cX4_fillFrom 28 = .ok (.iload_n 2, 1) := by decide +kernel
theorem dX4_fillFrom_29 : decode cX4_fillFrom 29 = .ok (.aload_n 0, 1) := by decide +kernel
theorem dX4_fillFrom_30 : decode cX4_fillFrom 30 = .ok (.getfield 22, 3) := by decide +kernel
theorem dX4_fillFrom_33 : decode cX4_fillFrom 33 = .ok (.iload_n 3, 1) := by decide +kernel
theorem dX4_fillFrom_34 : decode cX4_fillFrom 34 = .ok (.iaload, 1) := by decide +kernel
theorem dX4_fillFrom_35 : decode cX4_fillFrom 35 = .ok (.iastore, 1) := by decide +kernel
theorem dX4_fillFrom_36 : decode cX4_fillFrom 36 = .ok (.iconst 0, 1) := by decide +kernel
theorem dX4_fillFrom_37 : decode cX4_fillFrom 37 = .ok (.istore 4, 2) := by decide +kernel
theorem dX4_fillFrom_39 : decode cX4_fillFrom 39 = .ok (.iload 4, 2) := by decide +kernel
theorem dX4_fillFrom_41 : decode cX4_fillFrom 41 = .ok (.iconst 3, 1) := by decide +kernel
theorem dX4_fillFrom_42 : decode cX4_fillFrom 42 = .ok (.if_icmp .ge 102, 3) := by decide +kernel
theorem dX4_fillFrom_45 : decode cX4_fillFrom 45 = .ok (.aload_n 0, 1) := by decide +kernel
theorem dX4_fillFrom_46 : decode cX4_fillFrom 46 = .ok (.getfield 28, 3) := by decide +kernel
theorem dX4_fillFrom_49 : decode cX4_fillFrom 49 = .ok (.iload_n 2, 1) := by decide +kernel
theorem dX4_fillFrom_50 : decode cX4_fillFrom 50 = .ok (.iconst 1, 1) := by decide +kernel
theorem dX4_fillFrom_51 : decode cX4_fillFrom 51 = .ok (.iadd, 1) := by decide +kernel
theorem dX4_fillFrom_52 : decode cX4_fillFrom 52 = .ok (.iconst 3, 1) := by decide +kernel
theorem dX4_fillFrom_53 : decode cX4_fillFrom 53 = .ok (.imul, 1) := by decide +kernel
theorem dX4_fillFrom_54 : decode cX4_fillFrom 54 = .ok (.iload 4, 2) := by decide +kernel
theorem dX4_fillFrom_56 : decode cX4_fillFrom 56 = .ok (.iadd, 1) := by decide +kernel
theorem dX4_fillFrom_57 : decode cX4_fillFrom 57 = .ok (.aload_n 0, 1) := by decide +kernel
theorem dX4_fillFrom_58 : decode cX4_fillFrom 58 = .ok (.getfield 28, 3) := by decide +kernel
theorem dX4_fillFrom_61 : decode cX4_fillFrom 61 = .ok (.iload_n 2, 1) := by decide +kernel
theorem dX4_fillFrom_62 : decode cX4_fillFrom 62 = .ok (.iconst 3, 1) := by decide +kernel
theorem dX4_fillFrom_63 : decode cX4_fillFrom 63 = .ok (.imul, 1) := by decide +kernel
theorem dX4_fillFrom_64 : decode cX4_fillFrom 64 = .ok (.iload 4, 2) := by decide +kernel
theorem dX4_fillFrom_66 : decode cX4_fillFrom 66 = .ok (.iadd, 1) := by decide +kernel
theorem dX4_fillFrom_67 : decode cX4_fillFrom 67 = .ok (.laload, 1) := by decide +kernel
theorem dX4_fillFrom_68 : decode cX4_fillFrom 68 = .ok (.aload_n 0, 1) := by decide +kernel
theorem dX4_fillFrom_69 : decode cX4_fillFrom 69 = .ok (.getfield 25, 3) := by decide +kernel
theorem dX4_fillFrom_72 : decode cX4_fillFrom 72 = .ok (.iload_n 3, 1) := by decide +kernel
theorem dX4_fillFrom_73 : decode cX4_fillFrom 73 = .ok (.iconst 3, 1) := by decide +kernel
theorem dX4_fillFrom_74 : decode cX4_fillFrom 74 = .ok (.imul, 1) := by decide +kernel
theorem dX4_fillFrom_75 : decode cX4_fillFrom 75 = .ok (.iload 4, 2) := by decide +kernel
theorem dX4_fillFrom_77 : decode cX4_fillFrom 77 = .ok (.iadd, 1) := by decide +kernel
theorem dX4_fillFrom_78 : decode cX4_fillFrom 78 = .ok (.iaload, 1) := by decide +kernel
theorem dX4_fillFrom_79 : decode cX4_fillFrom 79 = .ok (.i2l, 1) := by decide +kernel
theorem dX4_fillFrom_80 : decode cX4_fillFrom 80 = .ok (.lmul, 1) := by decide +kernel
theorem dX4_fillFrom_81 : decode cX4_fillFrom 81 = .ok (.lastore, 1) := by decide +kernel
theorem dX4_fillFrom_82 : decode cX4_fillFrom 82 = .ok (.aload_n 0, 1) := by decide +kernel
theorem dX4_fillFrom_83 : decode cX4_fillFrom 83 = .ok (.getfield 35, 3) := by decide +kernel
theorem dX4_fillFrom_86 : decode cX4_fillFrom 86 = .ok (.iload_n 2, 1) := by decide +kernel
theorem dX4_fillFrom_87 : decode cX4_fillFrom 87 = .ok (.iaload, 1) := by decide +kernel
theorem dX4_fillFrom_88 : decode cX4_fillFrom 88 = .ok (.iload 4, 2) := by decide +kernel
theorem dX4_fillFrom_90 : decode cX4_fillFrom 90 = .ok (.if_icmp .ne 18, 3) := by decide +kernel
theorem dX4_fillFrom_93 : decode cX4_fillFrom 93 = .ok (.aload_n 0, 1) := by decide +kernel
theorem dX4_fillFrom_94 : decode cX4_fillFrom 94 = .ok (.getfield 9, 3) := by decide +kernel
theorem dX4_fillFrom_97 : decode cX4_fillFrom 97 = .ok (.getfield 47, 3) := by decide +kernel
theorem dX4_fillFrom_100 : decode cX4_fillFrom 100 = .ok (.iload_n 2, 1) := by decide +kernel
theorem dX4_fillFrom_101 : decode cX4_fillFrom 101 = .ok (.aaload, 1) := by decide +kernel
theorem dX4_fillFrom_102 : decode cX4_fillFrom 102 = .ok (.getfield 74, 3) := by decide +kernel
theorem dX4_fillFrom_105 : decode cX4_fillFrom 105 = .ok (.goto 4, 3) := by decide +kernel
theorem dX4_fillFrom_108 : decode cX4_fillFrom 108 = .ok (.iconst 0, 1) := by decide +kernel
theorem dX4_fillFrom_109 : decode cX4_fillFrom 109 = .ok (.istore 5, 2) := by decide +kernel
theorem dX4_fillFrom_111 : decode cX4_fillFrom 111 = .ok (.aload_n 0, 1) := by decide +kernel
theorem dX4_fillFrom_112 : decode cX4_fillFrom 112 = .ok (.getfield 32, 3) := by decide +kernel
theorem dX4_fillFrom_115 : decode cX4_fillFrom 115 = .ok (.iload_n 2, 1) := by decide +kernel
theorem dX4_fillFrom_116 : decode cX4_fillFrom 116 = .ok (.iconst 1, 1) := by decide +kernel
theorem dX4_fillFrom_117 : decode cX4_fillFrom 117 = .ok (.iadd, 1) := by decide +kernel
theorem dX4_fillFrom_118 : decode cX4_fillFrom 118 = .ok (.iconst 3, 1) := by decide +kernel
theorem dX4_fillFrom_119 : decode cX4_fillFrom 119 = .ok (.imul, 1) := by decide +kernel
theorem dX4_fillFrom_120 : decode cX4_fillFrom 120 = .ok (.iload 4, 2) := by decide +kernel
theorem dX4_fillFrom_122 : decode cX4_fillFrom 122 = .ok (.iadd, 1) := by decide +kernel
theorem dX4_fillFrom_123 : decode cX4_fillFrom 123 = .ok (.aload_n 0, 1) := by decide +kernel
theorem dX4_fillFrom_124 : decode cX4_fillFrom 124 = .ok (.getfield 32, 3) := by decide +kernel
theorem dX4_fillFrom_127 : decode cX4_fillFrom 127 = .ok (.iload_n 2, 1) := by decide +kernel
theorem dX4_fillFrom_128 : decode cX4_fillFrom 128 = .ok (.iconst 3, 1) := by decide +kernel
theorem dX4_fillFrom_129 : decode cX4_fillFrom 129 = .ok (.imul, 1) := by decide +kernel
theorem dX4_fillFrom_130 : decode cX4_fillFrom 130 = .ok (.iload 4, 2) := by decide +kernel
theorem dX4_fillFrom_132 : decode cX4_fillFrom 132 = .ok (.iadd, 1) := by decide +kernel
theorem dX4_fillFrom_133 : decode cX4_fillFrom 133 = .ok (.iaload, 1) := by decide +kernel
theorem dX4_fillFrom_134 : decode cX4_fillFrom 134 = .ok (.iload 5, 2) := by decide +kernel
theorem dX4_fillFrom_136 : decode cX4_fillFrom 136 = .ok (.iadd, 1) := by decide +kernel
theorem dX4_fillFrom_137 : decode cX4_fillFrom 137 = .ok (.iastore, 1) := by decide +kernel
theorem dX4_fillFrom_138 : decode cX4_fillFrom 138 = .ok (.iinc 4 1, 3) := by decide +kernel
theorem dX4_fillFrom_141 : decode cX4_fillFrom 141 = .ok (.goto (-102), 3) := by decide +kernel
theorem dX4_fillFrom_144 : decode cX4_fillFrom 144 = .ok (.iinc 2 1, 3) := by decide +kernel
theorem dX4_fillFrom_147 : decode cX4_fillFrom 147 = .ok (.goto (-145), 3) := by decide +kernel
theorem dX4_fillFrom_150 : decode cX4_fillFrom 150 = .ok (.return_, 1) := by decide +kernel
theorem dX4_first_0 : decode cX4_first 0 = .ok (.iconst 1, 1) := by decide +kernel
theorem dX4_first_1 : decode cX4_first 1 = .ok (.istore_n 1, 1) := by decide +kernel
theorem dX4_first_2 : decode cX4_first 2 = .ok (.iconst 0, 1) := by decide +kernel
theorem dX4_first_3 : decode cX4_first 3 = .ok (.istore_n 2, 1) := by decide +kernel
theorem dX4_first_4 : decode cX4_first 4 = .ok (.iload_n 2, 1) := by decide +kernel
theorem dX4_first_5 : decode cX4_first 5 = .ok (.aload_n 0, 1) := by decide +kernel
theorem dX4_first_6 : decode cX4_first 6 = .ok (.getfield 9, 3) := by decide +kernel
theorem dX4_first_9 : decode cX4_first 9 = .ok (.getfield 41, 3) := by decide +kernel
theorem dX4_first_12 : decode cX4_first 12 = .ok (.if_icmp .ge 25, 3) := by decide +kernel
theorem dX4_first_15 : decode cX4_first 15 = .ok (.aload_n 0, 1) := by decide +kernel
theorem dX4_first_16 : decode cX4_first 16 = .ok (.getfield 19, 3) := by decide +kernel
theorem dX4_first_19 : decode cX4_first 19 = .ok (.iload_n 2, 1) := by decide +kernel
theorem dX4_first_20 : decode cX4_first 20 = .ok (.iconst 0, 1) := by decide +kernel
theorem dX4_first_21 : decode cX4_first 21 = .ok (.iastore, 1) := by decide +kernel
theorem dX4_first_22 : decode cX4_first 22 = .ok (.iload_n 1, 1) := by decide +kernel
theorem dX4_first_23 : decode cX4_first 23 = .ok (.aload_n 0, 1) := by decide +kernel
theorem dX4_first_24 : decode cX4_first 24 = .ok (.getfield 15, 3) := by decide +kernel
theorem dX4_first_27 : decode cX4_first 27 = .ok (.iload_n 2, 1) := by decide +kernel
theorem dX4_first_28 : decode cX4_first 28 = .ok (.iaload, 1) := by decide +kernel
theorem dX4_first_29 : decode cX4_first 29 = .ok (.imul, 1) := by decide +kernel
theorem dX4_first_30 : decode cX4_first 30 = .ok (.istore_n 1, 1) := by decide +kernel
theorem dX4_first_31 : decode cX4_first 31 = .ok (.iinc 2 1, 3) := by decide +kernel
theorem dX4_first_34 : decode cX4_first 34 = .ok (.goto (-30), 3) := by decide +kernel
theorem dX4_first_37 : decode cX4_first 37 = .ok (.iconst 0, 1) := by decide +kernel
theorem dX4_first_38 : decode cX4_first 38 = .ok (.istore_n 2, 1) := by decide +kernel
theorem dX4_first_39 : decode cX4_first 39 = .ok (.iload_n 2, 1) := by decide +kernel
theorem dX4_first_40 : decode cX4_first 40 = .ok (.iconst 3, 1) := by decide +kernel
theorem dX4_first_41 : decode cX4_first 41 = .ok (.if_icmp .ge 32, 3) := by decide +kernel
theorem dX4_first_44 : decode cX4_first 44 = .ok (.aload_n 0, 1) := by decide +kernel
theorem dX4_first_45 : decode cX4_first 45 = .ok (.getfield 28, 3) := by decide +kernel
theorem dX4_first_48 : decode cX4_first 48 = .ok (.iload_n 2, 1) := by decide +kernel
theorem dX4_first_49 : decode cX4_first 49 = .ok (.aload_n 0, 1) := by decide +kernel
theorem dX4_first_50 : decode cX4_first 50 = .ok (.getfield 9, 3) := by decide +kernel
theorem dX4_first_53 : decode cX4_first 53 = .ok (.getfield 67, 3) := by decide +kernel
theorem dX4_first_56 : decode cX4_first 56 = .ok (.iload_n 2, 1) := by decide +kernel
theorem dX4_first_57 : decode cX4_first 57 = .ok (.iaload, 1) := by decide +kernel
theorem dX4_first_58 : decode cX4_first 58 = .ok (.i2l, 1) := by decide +kernel
theorem dX4_first_59 : decode cX4_first 59 = .ok (.lastore, 1) := by decide +kernel
theorem dX4_first_60 : decode cX4_first 60 = .ok (.aload_n 0, 1) := by decide +kernel
theorem dX4_first_61 : decode cX4_first 61 = .ok (.getfield 32, 3) := by decide +kernel
theorem dX4_first_64 : decode cX4_first 64 = .ok (.iload_n 2, 1) := by decide +kernel
theorem dX4_first_65 : decode cX4_first 65 = .ok (.iconst 0, 1) := by decide +kernel
theorem dX4_first_66 : decode cX4_first 66 = .ok (.iastore, 1) := by decide +kernel
theorem dX4_first_67 : decode cX4_first 67 = .ok (.iinc 2 1, 3) := by decide +kernel
theorem dX4_first_70 : decode cX4_first 70 = .ok (.goto (-31), 3) := by decide +kernel
theorem dX4_first_73 : decode cX4_first 73 = .ok (.aload_n 0, 1) := by decide +kernel
theorem dX4_first_74 : decode cX4_first 74 = .ok (.iconst 0, 1) := by decide +kernel
theorem dX4_first_75 : decode cX4_first 75 = .ok (.invokevirtual 70, 3) := by decide +kernel
theorem dX4_first_78 : decode cX4_first 78 = .ok (.iload_n 1, 1) := by decide +kernel
theorem dX4_first_79 : decode cX4_first 79 = .ok (.ireturn, 1) := by decide +kernel
theorem dX4_init_0 : decode cX4_init 0 = .ok (.aload_n 0, 1) := by decide +kernel
theorem dX4_init_1 : decode cX4_init 1 = .ok (.invokespecial 3, 3) := by decide +kernel
theorem dX4_init_4 : decode cX4_init 4 = .ok (.aload_n 0, 1) := by decide +kernel
theorem dX4_init_5 : decode cX4_init 5 = .ok (.aload_n 1, 1) := by decide +kernel
theorem dX4_init_6 : decode cX4_init 6 = .ok (.putfield 9, 3) := by decide +kernel
theorem dX4_init_9 : decode cX4_init 9 = .ok (.aload_n 0, 1) := by decide +kernel
theorem dX4_init_10 : decode cX4_init 10 = .ok (.bipush 7, 2) := by decide +kernel
theorem dX4_init_12 : decode cX4_init 12 = .ok (.newarray .int, 2) := by decide +kernel
theorem dX4_init_14 : decode cX4_init 14 = .ok (.putfield 15, 3) := by decide +kernel
theorem dX4_init_17 : decode cX4_init 17 = .ok (.aload_n 0, 1) := by decide +kernel
theorem dX4_init_18 : decode cX4_init 18 = .ok (.bipush 7, 2) := by decide +kernel
theorem dX4_init_20 : decode cX4_init 20 = .ok (.newarray .int, 2) := by decide +kernel
theorem dX4_init_22 : decode cX4_init 22 = .ok (.putfield 19, 3) := by decide +kernel
theorem dX4_init_25 : decode cX4_init 25 = .ok (.aload_n 0, 1) := by decide +kernel
theorem dX4_init_26 : decode cX4_init 26 = .ok (.bipush 21, 2) := by decide +kernel
theorem dX4_init_28 : decode cX4_init 28 = .ok (.newarray .int, 2) := by decide +kernel
theorem dX4_init_30 : decode cX4_init 30 = .ok (.putfield 22, 3) := by decide +kernel
theorem dX4_init_33 : decode cX4_init 33 = .ok (.aload_n 0, 1) := by decide +kernel
theorem dX4_init_34 : decode cX4_init 34 = .ok (.bipush 63, 2) := by decide +kernel
theorem dX4_init_36 : decode cX4_init 36 = .ok (.newarray .int, 2) := by decide +kernel
theorem dX4_init_38 : decode cX4_init 38 = .ok (.putfield 25, 3) := by decide +kernel
theorem dX4_init_41 : decode cX4_init 41 = .ok (.aload_n 0, 1) := by decide +kernel
theorem dX4_init_42 : decode cX4_init 42 = .ok (.bipush 24, 2) := by decide +kernel
theorem dX4_init_44 : decode cX4_init 44 = .ok (.newarray .long, 2) := by decide +kernel
theorem dX4_init_46 : decode cX4_init 46 = .ok (.putfield 28, 3) := by decide +kernel
theorem dX4_init_49 : decode cX4_init 49 = .ok (.aload_n 0, 1) := by decide +kernel
theorem dX4_init_50 : decode cX4_init 50 = .ok (.bipush 24, 2) := by decide +kernel
theorem dX4_init_52 : decode cX4_init 52 = .ok (.newarray .int, 2) := by decide +kernel
theorem dX4_init_54 : decode cX4_init 54 = .ok (.putfield 32, 3) := by decide +kernel
theorem dX4_init_57 : decode cX4_init 57 = .ok (.aload_n 0, 1) := by decide +kernel
theorem dX4_init_58 : decode cX4_init 58 = .ok (.bipush 7, 2) := by decide +kernel
theorem dX4_init_60 : decode cX4_init 60 = .ok (.newarray .int, 2) := by decide +kernel
theorem dX4_init_62 : decode cX4_init 62 = .ok (.putfield 35, 3) := by decide +kernel
theorem dX4_init_65 : decode cX4_init 65 = .ok (.aload_n 0, 1) := by decide +kernel
theorem dX4_init_66 : decode cX4_init 66 = .ok (.iconst 3, 1) := by decide +kernel
theorem dX4_init_67 : decode cX4_init 67 = .ok (.newarray .int, 2) := by decide +kernel
theorem dX4_init_69 : decode cX4_init 69 = .ok (.putfield 38, 3) := by decide +kernel
theorem dX4_init_72 : decode cX4_init 72 = .ok (.return_, 1) := by decide +kernel
theorem dX4_leaveOut_0 : decode cX4_leaveOut 0 = .ok (.aload_n 0, 1) := by decide +kernel
theorem dX4_leaveOut_1 : decode cX4_leaveOut 1 = .ok (.getfield 15, 3) := by decide +kernel
theorem dX4_leaveOut_4 : decode cX4_leaveOut 4 = .ok (.iload_n 1, 1) := by decide +kernel
theorem dX4_leaveOut_5 : decode cX4_leaveOut 5 = .ok (.iconst 0, 1) := by decide +kernel
theorem dX4_leaveOut_6 : decode cX4_leaveOut 6 = .ok (.iastore, 1) := by decide +kernel
theorem dX4_leaveOut_7 : decode cX4_leaveOut 7 = .ok (.aload_n 0, 1) := by decide +kernel
theorem dX4_leaveOut_8 : decode cX4_leaveOut 8 = .ok (.iload_n 1, 1) := by decide +kernel
theorem dX4_leaveOut_9 : decode cX4_leaveOut 9 = .ok (.bipush 9, 2) := by decide +kernel
theorem dX4_leaveOut_11 : decode cX4_leaveOut 11 = .ok (.iconst 1, 1) := by decide +kernel
theorem dX4_leaveOut_12 : decode cX4_leaveOut 12 = .ok (.invokevirtual 60, 3) := by decide +kernel
theorem dX4_leaveOut_15 : decode cX4_leaveOut 15 = .ok (.return_, 1) := by decide +kernel
theorem dX4_likeliest_0 : decode cX4_likeliest 0 = .ok (.aload_n 0, 1) := by decide +kernel
theorem dX4_likeliest_1 : decode cX4_likeliest 1 = .ok (.invokevirtual 105, 3) := by decide +kernel
theorem dX4_likeliest_4 : decode cX4_likeliest 4 = .ok (.pop, 1) := by decide +kernel
theorem dX4_likeliest_5 : decode cX4_likeliest 5 = .ok (.iconst (-1), 1) := by decide +kernel
theorem dX4_likeliest_6 : decode cX4_likeliest 6 = .ok (.istore_n 1, 1) := by decide +kernel
theorem dX4_likeliest_7 : decode cX4_likeliest 7 = .ok (.lconst 0, 1) := by decide +kernel
theorem dX4_likeliest_8 : decode cX4_likeliest 8 = .ok (.lstore_n 2, 1) := by decide +kernel
theorem dX4_likeliest_9 : decode cX4_likeliest 9 = .ok (.iconst 0, 1) := by decide +kernel
theorem dX4_likeliest_10 : decode cX4_likeliest 10 = .ok (.istore 4, 2) := by decide +kernel
theorem dX4_likeliest_12 : decode cX4_likeliest 12 = .ok (.iload 4, 2) := by decide +kernel
theorem dX4_likeliest_14 : decode cX4_likeliest 14 = .ok (.aload_n 0, 1) := by decide +kernel
theorem dX4_likeliest_15 : decode cX4_likeliest 15 = .ok (.getfield 9, 3) := by decide +kernel
theorem dX4_likeliest_18 : decode cX4_likeliest 18 = .ok (.getfield 119, 3) := by decide +kernel
theorem dX4_likeliest_21 : decode cX4_likeliest 21 = .ok (.if_icmp .ge 30, 3) := by decide +kernel
theorem dX4_likeliest_24 : decode cX4_likeliest 24 = .ok (.aload_n 0, 1) := by decide +kernel
theorem dX4_likeliest_25 : decode cX4_likeliest 25 = .ok (.iload 4, 2) := by decide +kernel
theorem dX4_likeliest_27 : decode cX4_likeliest 27 = .ok (.invokevirtual 126, 3) := by decide +kernel
theorem dX4_likeliest_30 : decode cX4_likeliest 30 = .ok (.lload_n 2, 1) := by decide +kernel
theorem dX4_likeliest_31 : decode cX4_likeliest 31 = .ok (.lcmp, 1) := by decide +kernel
theorem dX4_likeliest_32 : decode cX4_likeliest 32 = .ok (.ifCond .le 13, 3) := by decide +kernel
theorem dX4_likeliest_35 : decode cX4_likeliest 35 = .ok (.aload_n 0, 1) := by decide +kernel
theorem dX4_likeliest_36 : decode cX4_likeliest 36 = .ok (.iload 4, 2) := by decide +kernel
theorem dX4_likeliest_38 : decode cX4_likeliest 38 = .ok (.invokevirtual 126, 3) := by decide +kernel
theorem dX4_likeliest_41 : decode cX4_likeliest 41 = .ok (.lstore_n 2, 1) := by decide +kernel
theorem dX4_likeliest_42 : decode cX4_likeliest 42 = .ok (.iload 4, 2) := by decide +kernel
theorem dX4_likeliest_44 : decode cX4_likeliest 44 = .ok (.istore_n 1, 1) := by decide +kernel
theorem dX4_likeliest_45 : decode cX4_likeliest 45 = .ok (.iinc 4 1, 3) := by decide +kernel
theorem dX4_likeliest_48 : decode cX4_likeliest 48 = .ok (.goto (-36), 3) := by decide +kernel
theorem dX4_likeliest_51 : decode cX4_likeliest 51 = .ok (.iload_n 1, 1) := by decide +kernel
theorem dX4_likeliest_52 : decode cX4_likeliest 52 = .ok (.ireturn, 1) := by decide +kernel
theorem dX4_lostNow_0 : decode cX4_lostNow 0 = .ok (.aload_n 0, 1) := by decide +kernel
theorem dX4_lostNow_1 : decode cX4_lostNow 1 = .ok (.getfield 9, 3) := by decide +kernel
theorem dX4_lostNow_4 : decode cX4_lostNow 4 = .ok (.getfield 77, 3) := by decide +kernel
theorem dX4_lostNow_7 : decode cX4_lostNow 7 = .ok (.iload_n 1, 1) := by decide +kernel
theorem dX4_lostNow_8 : decode cX4_lostNow 8 = .ok (.aload_n 0, 1) := by decide +kernel
theorem dX4_lostNow_9 : decode cX4_lostNow 9 = .ok (.getfield 28, 3) := by decide +kernel
theorem dX4_lostNow_12 : decode cX4_lostNow 12 = .ok (.aload_n 0, 1) := by decide +kernel
theorem dX4_lostNow_13 : decode cX4_lostNow 13 = .ok (.getfield 9, 3) := by decide +kernel
theorem dX4_lostNow_16 : decode cX4_lostNow 16 = .ok (.getfield 41, 3) := by decide +kernel
theorem dX4_lostNow_19 : decode cX4_lostNow 19 = .ok (.iconst 3, 1) := by decide +kernel
theorem dX4_lostNow_20 : decode cX4_lostNow 20 = .ok (.imul, 1) := by decide +kernel
theorem dX4_lostNow_21 : decode cX4_lostNow 21 = .ok (.invokevirtual 81, 3) := by decide +kernel
theorem dX4_lostNow_24 : decode cX4_lostNow 24 = .ok (.lreturn, 1) := by decide +kernel
theorem dX4_openChoice_0 : decode cX4_openChoice 0 = .ok (.aload_n 0, 1) := by decide +kernel
theorem dX4_openChoice_1 : decode cX4_openChoice 1 = .ok (.getfield 15, 3) := by decide +kernel
theorem dX4_openChoice_4 : decode cX4_openChoice 4 = .ok (.iload_n 1, 1) := by decide +kernel
theorem dX4_openChoice_5 : decode cX4_openChoice 5 = .ok (.iaload, 1) := by decide +kernel
theorem dX4_openChoice_6 : decode cX4_openChoice 6 = .ok (.iconst 3, 1) := by decide +kernel
theorem dX4_openChoice_7 : decode cX4_openChoice 7 = .ok (.if_icmp .ge 61, 3) := by decide +kernel
theorem dX4_openChoice_10 : decode cX4_openChoice 10 = .ok (.iload_n 1, 1) := by decide +kernel
theorem dX4_openChoice_11 : decode cX4_openChoice 11 = .ok (.iconst 3, 1) := by decide +kernel
theorem dX4_openChoice_12 : decode cX4_openChoice 12 = .ok (.imul, 1) := by decide +kernel
theorem dX4_openChoice_13 : decode cX4_openChoice 13 = .ok (.aload_n 0, 1) := by decide +kernel
theorem dX4_openChoice_14 : decode cX4_openChoice 14 = .ok (.getfield 15, 3) := by decide +kernel
theorem dX4_openChoice_17 : decode cX4_openChoice 17 = .ok (.iload_n 1, 1) := by decide +kernel
theorem dX4_openChoice_18 : decode cX4_openChoice 18 = .ok (.iaload, 1) := by decide +kernel
theorem dX4_openChoice_19 : decode cX4_openChoice 19 = .ok (.iadd, 1) := by decide +kernel
theorem dX4_openChoice_20 : decode cX4_openChoice 20 = .ok (.istore 4, 2) := by decide +kernel
theorem dX4_openChoice_22 : decode cX4_openChoice 22 = .ok (.aload_n 0, 1) := by decide +kernel
theorem dX4_openChoice_23 : decode cX4_openChoice 23 = .ok (.getfield 22, 3) := by decide +kernel
theorem dX4_openChoice_26 : decode cX4_openChoice 26 = .ok (.iload 4, 2) := by decide +kernel
theorem dX4_openChoice_28 : decode cX4_openChoice 28 = .ok (.iload_n 2, 1) := by decide +kernel
theorem dX4_openChoice_29 : decode cX4_openChoice 29 = .ok (.iastore, 1) := by decide +kernel
theorem dX4_openChoice_30 : decode cX4_openChoice 30 = .ok (.iconst 0, 1) := by decide +kernel
theorem dX4_openChoice_31 : decode cX4_openChoice 31 = .ok (.istore 5, 2) := by decide +kernel
theorem dX4_openChoice_33 : decode cX4_openChoice 33 = .ok (.iload 5, 2) := by decide +kernel
theorem dX4_openChoice_35 : decode cX4_openChoice 35 = .ok (.iconst 3, 1) := by decide +kernel
theorem dX4_openChoice_36 : decode cX4_openChoice 36 = .ok (.if_icmp .ge 22, 3) := by decide +kernel
theorem dX4_openChoice_39 : decode cX4_openChoice 39 = .ok (.aload_n 0, 1) := by decide +kernel
theorem dX4_openChoice_40 : decode cX4_openChoice 40 = .ok (.getfield 25, 3) := by decide +kernel
theorem dX4_openChoice_43 : decode cX4_openChoice 43 = .ok (.iload 4, 2) := by decide +kernel
theorem dX4_openChoice_45 : decode cX4_openChoice 45 = .ok (.iconst 3, 1) := by decide +kernel
theorem dX4_openChoice_46 : decode cX4_openChoice 46 = .ok (.imul, 1) := by decide +kernel
theorem dX4_openChoice_47 : decode cX4_openChoice 47 = .ok (.iload 5, 2) := by decide +kernel
theorem dX4_openChoice_49 : decode cX4_openChoice 49 = .ok (.iadd, 1) := by decide +kernel
theorem dX4_openChoice_50 : decode cX4_openChoice 50 = .ok (.iload_n 3, 1) := by decide +kernel
theorem dX4_openChoice_51 : decode cX4_openChoice 51 = .ok (.iastore, 1) := by decide +kernel
theorem dX4_openChoice_52 : decode cX4_openChoice 52 = .ok (.iinc 5 1, 3) := by decide +kernel
theorem dX4_openChoice_55 : decode cX4_openChoice 55 = .ok (.goto (-22), 3) := by decide +kernel
theorem dX4_openChoice_58 : decode cX4_openChoice 58 = .ok (.aload_n 0, 1) := by decide +kernel
theorem dX4_openChoice_59 : decode cX4_openChoice 59 = .ok (.getfield 15, 3) := by decide +kernel
theorem dX4_openChoice_62 : decode cX4_openChoice 62 = .ok (.iload_n 1, 1) := by decide +kernel
theorem dX4_openChoice_63 : decode cX4_openChoice 63 = .ok (.dup2, 1) := by decide +kernel
theorem dX4_openChoice_64 : decode cX4_openChoice 64 = .ok (.iaload, 1) := by decide +kernel
theorem dX4_openChoice_65 : decode cX4_openChoice 65 = .ok (.iconst 1, 1) := by decide +kernel
theorem dX4_openChoice_66 : decode cX4_openChoice 66 = .ok (.iadd, 1) := by decide +kernel
theorem dX4_openChoice_67 : decode cX4_openChoice 67 = .ok (.iastore, 1) := by decide +kernel
theorem dX4_openChoice_68 : decode cX4_openChoice 68 = .ok (.return_, 1) := by decide +kernel
theorem dX4_partsNow_0 : decode cX4_partsNow 0 = .ok (.aload_n 0, 1) := by decide +kernel
theorem dX4_partsNow_1 : decode cX4_partsNow 1 = .ok (.getfield 28, 3) := by decide +kernel
theorem dX4_partsNow_4 : decode cX4_partsNow 4 = .ok (.aload_n 0, 1) := by decide +kernel
theorem dX4_partsNow_5 : decode cX4_partsNow 5 = .ok (.getfield 9, 3) := by decide +kernel
theorem dX4_partsNow_8 : decode cX4_partsNow 8 = .ok (.getfield 41, 3) := by decide +kernel
theorem dX4_partsNow_11 : decode cX4_partsNow 11 = .ok (.iconst 3, 1) := by decide +kernel
theorem dX4_partsNow_12 : decode cX4_partsNow 12 = .ok (.imul, 1) := by decide +kernel
theorem dX4_partsNow_13 : decode cX4_partsNow 13 = .ok (.iload_n 1, 1) := by decide +kernel
theorem dX4_partsNow_14 : decode cX4_partsNow 14 = .ok (.iadd, 1) := by decide +kernel
theorem dX4_partsNow_15 : decode cX4_partsNow 15 = .ok (.laload, 1) := by decide +kernel
theorem dX4_partsNow_16 : decode cX4_partsNow 16 = .ok (.lreturn, 1) := by decide +kernel
theorem dX4_pin_0 : decode cX4_pin 0 = .ok (.aload_n 0, 1) := by decide +kernel
theorem dX4_pin_1 : decode cX4_pin 1 = .ok (.getfield 15, 3) := by decide +kernel
theorem dX4_pin_4 : decode cX4_pin 4 = .ok (.iload_n 1, 1) := by decide +kernel
theorem dX4_pin_5 : decode cX4_pin 5 = .ok (.iconst 0, 1) := by decide +kernel
theorem dX4_pin_6 : decode cX4_pin 6 = .ok (.iastore, 1) := by decide +kernel
theorem dX4_pin_7 : decode cX4_pin 7 = .ok (.aload_n 0, 1) := by decide +kernel
theorem dX4_pin_8 : decode cX4_pin 8 = .ok (.iload_n 1, 1) := by decide +kernel
theorem dX4_pin_9 : decode cX4_pin 9 = .ok (.iload_n 2, 1) := by decide +kernel
theorem dX4_pin_10 : decode cX4_pin 10 = .ok (.iload_n 3, 1) := by decide +kernel
theorem dX4_pin_11 : decode cX4_pin 11 = .ok (.invokevirtual 56, 3) := by decide +kernel
theorem dX4_pin_14 : decode cX4_pin 14 = .ok (.return_, 1) := by decide +kernel
theorem dX4_seeing_0 : decode cX4_seeing 0 = .ok (.aload_n 0, 1) := by decide +kernel
theorem dX4_seeing_1 : decode cX4_seeing 1 = .ok (.aload_n 1, 1) := by decide +kernel
theorem dX4_seeing_2 : decode cX4_seeing 2 = .ok (.putfield 9, 3) := by decide +kernel
theorem dX4_seeing_5 : decode cX4_seeing 5 = .ok (.iconst 0, 1) := by decide +kernel
theorem dX4_seeing_6 : decode cX4_seeing 6 = .ok (.istore_n 2, 1) := by decide +kernel
theorem dX4_seeing_7 : decode cX4_seeing 7 = .ok (.iload_n 2, 1) := by decide +kernel
theorem dX4_seeing_8 : decode cX4_seeing 8 = .ok (.aload_n 0, 1) := by decide +kernel
theorem dX4_seeing_9 : decode cX4_seeing 9 = .ok (.getfield 9, 3) := by decide +kernel
theorem dX4_seeing_12 : decode cX4_seeing 12 = .ok (.getfield 41, 3) := by decide +kernel
theorem dX4_seeing_15 : decode cX4_seeing 15 = .ok (.if_icmp .ge 47, 3) := by decide +kernel
theorem dX4_seeing_18 : decode cX4_seeing 18 = .ok (.aload_n 0, 1) := by decide +kernel
theorem dX4_seeing_19 : decode cX4_seeing 19 = .ok (.getfield 15, 3) := by decide +kernel
theorem dX4_seeing_22 : decode cX4_seeing 22 = .ok (.iload_n 2, 1) := by decide +kernel
theorem dX4_seeing_23 : decode cX4_seeing 23 = .ok (.iconst 0, 1) := by decide +kernel
theorem dX4_seeing_24 : decode cX4_seeing 24 = .ok (.iastore, 1) := by decide +kernel
theorem dX4_seeing_25 : decode cX4_seeing 25 = .ok (.iconst 0, 1) := by decide +kernel
theorem dX4_seeing_26 : decode cX4_seeing 26 = .ok (.istore_n 3, 1) := by decide +kernel
theorem dX4_seeing_27 : decode cX4_seeing 27 = .ok (.iload_n 3, 1) := by decide +kernel
theorem dX4_seeing_28 : decode cX4_seeing 28 = .ok (.aload_n 0, 1) := by decide +kernel
theorem dX4_seeing_29 : decode cX4_seeing 29 = .ok (.getfield 9, 3) := by decide +kernel
theorem dX4_seeing_32 : decode cX4_seeing 32 = .ok (.getfield 47, 3) := by decide +kernel
theorem dX4_seeing_35 : decode cX4_seeing 35 = .ok (.iload_n 2, 1) := by decide +kernel
theorem dX4_seeing_36 : decode cX4_seeing 36 = .ok (.aaload, 1) := by decide +kernel
theorem dX4_seeing_37 : decode cX4_seeing 37 = .ok (.getfield 51, 3) := by decide +kernel
theorem dX4_seeing_40 : decode cX4_seeing 40 = .ok (.if_icmp .ge 16, 3) := by decide +kernel
theorem dX4_seeing_43 : decode cX4_seeing 43 = .ok (.aload_n 0, 1) := by decide +kernel
theorem dX4_seeing_44 : decode cX4_seeing 44 = .ok (.iload_n 2, 1) := by decide +kernel
theorem dX4_seeing_45 : decode cX4_seeing 45 = .ok (.iload_n 3, 1) := by decide +kernel
theorem dX4_seeing_46 : decode cX4_seeing 46 = .ok (.iload_n 3, 1) := by decide +kernel
theorem dX4_seeing_47 : decode cX4_seeing 47 = .ok (.invokevirtual 56, 3) := by decide +kernel
theorem dX4_seeing_50 : decode cX4_seeing 50 = .ok (.iinc 3 1, 3) := by decide +kernel
theorem dX4_seeing_53 : decode cX4_seeing 53 = .ok (.goto (-26), 3) := by decide +kernel
theorem dX4_seeing_56 : decode cX4_seeing 56 = .ok (.iinc 2 1, 3) := by decide +kernel
theorem dX4_seeing_59 : decode cX4_seeing 59 = .ok (.goto (-52), 3) := by decide +kernel
theorem dX4_seeing_62 : decode cX4_seeing 62 = .ok (.return_, 1) := by decide +kernel
theorem dX4_silence_0 : decode cX4_silence 0 = .ok (.aload_n 0, 1) := by decide +kernel
theorem dX4_silence_1 : decode cX4_silence 1 = .ok (.getfield 15, 3) := by decide +kernel
theorem dX4_silence_4 : decode cX4_silence 4 = .ok (.iload_n 1, 1) := by decide +kernel
theorem dX4_silence_5 : decode cX4_silence 5 = .ok (.iconst 0, 1) := by decide +kernel
theorem dX4_silence_6 : decode cX4_silence 6 = .ok (.iastore, 1) := by decide +kernel
theorem dX4_silence_7 : decode cX4_silence 7 = .ok (.aload_n 0, 1) := by decide +kernel
theorem dX4_silence_8 : decode cX4_silence 8 = .ok (.iload_n 1, 1) := by decide +kernel
theorem dX4_silence_9 : decode cX4_silence 9 = .ok (.bipush 9, 2) := by decide +kernel
theorem dX4_silence_11 : decode cX4_silence 11 = .ok (.bipush 20, 2) := by decide +kernel
theorem dX4_silence_13 : decode cX4_silence 13 = .ok (.invokevirtual 60, 3) := by decide +kernel
theorem dX4_silence_16 : decode cX4_silence 16 = .ok (.return_, 1) := by decide +kernel
theorem dX4_step_0 : decode cX4_step 0 = .ok (.aload_n 0, 1) := by decide +kernel
theorem dX4_step_1 : decode cX4_step 1 = .ok (.getfield 9, 3) := by decide +kernel
theorem dX4_step_4 : decode cX4_step 4 = .ok (.getfield 41, 3) := by decide +kernel
theorem dX4_step_7 : decode cX4_step 7 = .ok (.iconst 1, 1) := by decide +kernel
theorem dX4_step_8 : decode cX4_step 8 = .ok (.isub, 1) := by decide +kernel
theorem dX4_step_9 : decode cX4_step 9 = .ok (.istore_n 1, 1) := by decide +kernel
theorem dX4_step_10 : decode cX4_step 10 = .ok (.iload_n 1, 1) := by decide +kernel
theorem dX4_step_11 : decode cX4_step 11 = .ok (.ifCond .le 33, 3) := by decide +kernel
theorem dX4_step_14 : decode cX4_step 14 = .ok (.aload_n 0, 1) := by decide +kernel
theorem dX4_step_15 : decode cX4_step 15 = .ok (.getfield 19, 3) := by decide +kernel
theorem dX4_step_18 : decode cX4_step 18 = .ok (.iload_n 1, 1) := by decide +kernel
theorem dX4_step_19 : decode cX4_step 19 = .ok (.iaload, 1) := by decide +kernel
theorem dX4_step_20 : decode cX4_step 20 = .ok (.iconst 1, 1) := by decide +kernel
theorem dX4_step_21 : decode cX4_step 21 = .ok (.iadd, 1) := by decide +kernel
theorem dX4_step_22 : decode cX4_step 22 = .ok (.aload_n 0, 1) := by decide +kernel
theorem dX4_step_23 : decode cX4_step 23 = .ok (.getfield 15, 3) := by decide +kernel
theorem dX4_step_26 : decode cX4_step 26 = .ok (.iload_n 1, 1) := by decide +kernel
theorem dX4_step_27 : decode cX4_step 27 = .ok (.iaload, 1) := by decide +kernel
theorem dX4_step_28 : decode cX4_step 28 = .ok (.if_icmp .lt 16, 3) := by decide +kernel
theorem dX4_step_31 : decode cX4_step 31 = .ok (.aload_n 0, 1) := by decide +kernel
theorem dX4_step_32 : decode cX4_step 32 = .ok (.getfield 19, 3) := by decide +kernel
theorem dX4_step_35 : decode cX4_step 35 = .ok (.iload_n 1, 1) := by decide +kernel
theorem dX4_step_36 : decode cX4_step 36 = .ok (.iconst 0, 1) := by decide +kernel
theorem dX4_step_37 : decode cX4_step 37 = .ok (.iastore, 1) := by decide +kernel
theorem dX4_step_38 : decode cX4_step 38 = .ok (.iinc 1 (-1), 3) := by decide +kernel
theorem dX4_step_41 : decode cX4_step 41 = .ok (.goto (-31), 3) := by decide +kernel
theorem dX4_step_44 : decode cX4_step 44 = .ok (.aload_n 0, 1) := by decide +kernel
theorem dX4_step_45 : decode cX4_step 45 = .ok (.getfield 19, 3) := by decide +kernel
theorem dX4_step_48 : decode cX4_step 48 = .ok (.iload_n 1, 1) := by decide +kernel
theorem dX4_step_49 : decode cX4_step 49 = .ok (.aload_n 0, 1) := by decide +kernel
theorem dX4_step_50 : decode cX4_step 50 = .ok (.getfield 19, 3) := by decide +kernel
theorem dX4_step_53 : decode cX4_step 53 = .ok (.iload_n 1, 1) := by decide +kernel
theorem dX4_step_54 : decode cX4_step 54 = .ok (.iaload, 1) := by decide +kernel
theorem dX4_step_55 : decode cX4_step 55 = .ok (.iconst 1, 1) := by decide +kernel
theorem dX4_step_56 : decode cX4_step 56 = .ok (.iadd, 1) := by decide +kernel
theorem dX4_step_57 : decode cX4_step 57 = .ok (.aload_n 0, 1) := by decide +kernel
theorem dX4_step_58 : decode cX4_step 58 = .ok (.getfield 15, 3) := by decide +kernel
theorem dX4_step_61 : decode cX4_step 61 = .ok (.iload_n 1, 1) := by decide +kernel
theorem dX4_step_62 : decode cX4_step 62 = .ok (.iaload, 1) := by decide +kernel
theorem dX4_step_63 : decode cX4_step 63 = .ok (.if_icmp .ge 14, 3) := by decide +kernel
theorem dX4_step_66 : decode cX4_step 66 = .ok (.aload_n 0, 1) := by decide +kernel
theorem dX4_step_67 : decode cX4_step 67 = .ok (.getfield 19, 3) := by decide +kernel
theorem dX4_step_70 : decode cX4_step 70 = .ok (.iload_n 1, 1) := by decide +kernel
theorem dX4_step_71 : decode cX4_step 71 = .ok (.iaload, 1) := by decide +kernel
theorem dX4_step_72 : decode cX4_step 72 = .ok (.iconst 1, 1) := by decide +kernel
theorem dX4_step_73 : decode cX4_step 73 = .ok (.iadd, 1) := by decide +kernel
theorem dX4_step_74 : decode cX4_step 74 = .ok (.goto 4, 3) := by decide +kernel
theorem dX4_step_77 : decode cX4_step 77 = .ok (.iconst 0, 1) := by decide +kernel
theorem dX4_step_78 : decode cX4_step 78 = .ok (.iastore, 1) := by decide +kernel
theorem dX4_step_79 : decode cX4_step 79 = .ok (.aload_n 0, 1) := by decide +kernel
theorem dX4_step_80 : decode cX4_step 80 = .ok (.iload_n 1, 1) := by decide +kernel
theorem dX4_step_81 : decode cX4_step 81 = .ok (.invokevirtual 70, 3) := by decide +kernel
theorem dX4_step_84 : decode cX4_step 84 = .ok (.return_, 1) := by decide +kernel
theorem dX4_sumUp_0 : decode cX4_sumUp 0 = .ok (.aload_n 1, 1) := by decide +kernel
theorem dX4_sumUp_1 : decode cX4_sumUp 1 = .ok (.invokestatic 101, 3) := by decide +kernel
theorem dX4_sumUp_4 : decode cX4_sumUp 4 = .ok (.aload_n 0, 1) := by decide +kernel
theorem dX4_sumUp_5 : decode cX4_sumUp 5 = .ok (.invokevirtual 105, 3) := by decide +kernel
theorem dX4_sumUp_8 : decode cX4_sumUp 8 = .ok (.istore_n 2, 1) := by decide +kernel
theorem dX4_sumUp_9 : decode cX4_sumUp 9 = .ok (.iconst 0, 1) := by decide +kernel
theorem dX4_sumUp_10 : decode cX4_sumUp 10 = .ok (.istore_n 3, 1) := by decide +kernel
theorem dX4_sumUp_11 : decode cX4_sumUp 11 = .ok (.iload_n 3, 1) := by decide +kernel
theorem dX4_sumUp_12 : decode cX4_sumUp 12 = .ok (.iload_n 2, 1) := by decide +kernel
theorem dX4_sumUp_13 : decode cX4_sumUp 13 = .ok (.if_icmp .ge 22, 3) := by decide +kernel
theorem dX4_sumUp_16 : decode cX4_sumUp 16 = .ok (.aload_n 0, 1) := by decide +kernel
theorem dX4_sumUp_17 : decode cX4_sumUp 17 = .ok (.aload_n 1, 1) := by decide +kernel
theorem dX4_sumUp_18 : decode cX4_sumUp 18 = .ok (.aload_n 0, 1) := by decide +kernel
theorem dX4_sumUp_19 : decode cX4_sumUp 19 = .ok (.invokevirtual 109, 3) := by decide +kernel
theorem dX4_sumUp_22 : decode cX4_sumUp 22 = .ok (.invokevirtual 112, 3) := by decide +kernel
theorem dX4_sumUp_25 : decode cX4_sumUp 25 = .ok (.aload_n 0, 1) := by decide +kernel
theorem dX4_sumUp_26 : decode cX4_sumUp 26 = .ok (.invokevirtual 116, 3) := by decide +kernel
theorem dX4_sumUp_29 : decode cX4_sumUp 29 = .ok (.iinc 3 1, 3) := by decide +kernel
theorem dX4_sumUp_32 : decode cX4_sumUp 32 = .ok (.goto (-21), 3) := by decide +kernel
theorem dX4_sumUp_35 : decode cX4_sumUp 35 = .ok (.return_, 1) := by decide +kernel
theorem dX4_sumUpBest_0 : decode cX4_sumUpBest 0 = .ok (.aload_n 1, 1) := by decide +kernel
theorem dX4_sumUpBest_1 : decode cX4_sumUpBest 1 = .ok (.invokestatic 101, 3) := by decide +kernel
theorem dX4_sumUpBest_4 : decode cX4_sumUpBest 4 = .ok (.aload_n 0, 1) := by decide +kernel
theorem dX4_sumUpBest_5 : decode cX4_sumUpBest 5 = .ok (.invokevirtual 105, 3) := by decide +kernel
theorem dX4_sumUpBest_8 : decode cX4_sumUpBest 8 = .ok (.istore_n 2, 1) := by decide +kernel
theorem dX4_sumUpBest_9 : decode cX4_sumUpBest 9 = .ok (.iconst 0, 1) := by decide +kernel
theorem dX4_sumUpBest_10 : decode cX4_sumUpBest 10 = .ok (.istore_n 3, 1) := by decide +kernel
theorem dX4_sumUpBest_11 : decode cX4_sumUpBest 11 = .ok (.iload_n 3, 1) := by decide +kernel
theorem dX4_sumUpBest_12 : decode cX4_sumUpBest 12 = .ok (.iload_n 2, 1) := by decide +kernel
theorem dX4_sumUpBest_13 : decode cX4_sumUpBest 13 = .ok (.if_icmp .ge 48, 3) := by decide +kernel
theorem dX4_sumUpBest_16 : decode cX4_sumUpBest 16 = .ok (.aload_n 0, 1) := by decide +kernel
theorem dX4_sumUpBest_17 : decode cX4_sumUpBest 17 = .ok (.aload_n 1, 1) := by decide +kernel
theorem dX4_sumUpBest_18 : decode cX4_sumUpBest 18 = .ok (.aload_n 0, 1) := by decide +kernel
theorem dX4_sumUpBest_19 : decode cX4_sumUpBest 19 = .ok (.getfield 9, 3) := by decide +kernel
theorem dX4_sumUpBest_22 : decode cX4_sumUpBest 22 = .ok (.getfield 77, 3) := by decide +kernel
theorem dX4_sumUpBest_25 : decode cX4_sumUpBest 25 = .ok (.aload_n 0, 1) := by decide +kernel
theorem dX4_sumUpBest_26 : decode cX4_sumUpBest 26 = .ok (.getfield 9, 3) := by decide +kernel
theorem dX4_sumUpBest_29 : decode cX4_sumUpBest 29 = .ok (.getfield 119, 3) := by decide +kernel
theorem dX4_sumUpBest_32 : decode cX4_sumUpBest 32 = .ok (.aload_n 0, 1) := by decide +kernel
theorem dX4_sumUpBest_33 : decode cX4_sumUpBest 33 = .ok (.getfield 28, 3) := by decide +kernel
theorem dX4_sumUpBest_36 : decode cX4_sumUpBest 36 = .ok (.aload_n 0, 1) := by decide +kernel
theorem dX4_sumUpBest_37 : decode cX4_sumUpBest 37 = .ok (.getfield 9, 3) := by decide +kernel
theorem dX4_sumUpBest_40 : decode cX4_sumUpBest 40 = .ok (.getfield 41, 3) := by decide +kernel
theorem dX4_sumUpBest_43 : decode cX4_sumUpBest 43 = .ok (.iconst 3, 1) := by decide +kernel
theorem dX4_sumUpBest_44 : decode cX4_sumUpBest 44 = .ok (.imul, 1) := by decide +kernel
theorem dX4_sumUpBest_45 : decode cX4_sumUpBest 45 = .ok (.invokevirtual 122, 3) := by decide +kernel
theorem dX4_sumUpBest_48 : decode cX4_sumUpBest 48 = .ok (.invokevirtual 112, 3) := by decide +kernel
theorem dX4_sumUpBest_51 : decode cX4_sumUpBest 51 = .ok (.aload_n 0, 1) := by decide +kernel
theorem dX4_sumUpBest_52 : decode cX4_sumUpBest 52 = .ok (.invokevirtual 116, 3) := by decide +kernel
theorem dX4_sumUpBest_55 : decode cX4_sumUpBest 55 = .ok (.iinc 3 1, 3) := by decide +kernel
theorem dX4_sumUpBest_58 : decode cX4_sumUpBest 58 = .ok (.goto (-47), 3) := by decide +kernel
theorem dX4_sumUpBest_61 : decode cX4_sumUpBest 61 = .ok (.return_, 1) := by decide +kernel
theorem dX4_takeTally_0 : decode cX4_takeTally 0 = .ok (.iconst 0, 1) := by decide +kernel
theorem dX4_takeTally_1 : decode cX4_takeTally 1 = .ok (.istore_n 1, 1) := by decide +kernel
theorem dX4_takeTally_2 : decode cX4_takeTally 2 = .ok (.iload_n 1, 1) := by decide +kernel
theorem dX4_takeTally_3 : decode cX4_takeTally 3 = .ok (.iconst 3, 1) := by decide +kernel
theorem dX4_takeTally_4 : decode cX4_takeTally 4 = .ok (.if_icmp .ge 31, 3) := by decide +kernel
theorem dX4_takeTally_7 : decode cX4_takeTally 7 = .ok (.aload_n 0, 1) := by decide +kernel
theorem dX4_takeTally_8 : decode cX4_takeTally 8 = .ok (.getfield 38, 3) := by decide +kernel
theorem dX4_takeTally_11 : decode cX4_takeTally 11 = .ok (.iload_n 1, 1) := by decide +kernel
theorem dX4_takeTally_12 : decode cX4_takeTally 12 = .ok (.aload_n 0, 1) := by decide +kernel
theorem dX4_takeTally_13 : decode cX4_takeTally 13 = .ok (.getfield 32, 3) := by decide +kernel
theorem dX4_takeTally_16 : decode cX4_takeTally 16 = .ok (.aload_n 0, 1) := by decide +kernel
theorem dX4_takeTally_17 : decode cX4_takeTally 17 = .ok (.getfield 9, 3) := by decide +kernel
theorem dX4_takeTally_20 : decode cX4_takeTally 20 = .ok (.getfield 41, 3) := by decide +kernel
theorem dX4_takeTally_23 : decode cX4_takeTally 23 = .ok (.iconst 3, 1) := by decide +kernel
theorem dX4_takeTally_24 : decode cX4_takeTally 24 = .ok (.imul, 1) := by decide +kernel
theorem dX4_takeTally_25 : decode cX4_takeTally 25 = .ok (.iload_n 1, 1) := by decide +kernel
theorem dX4_takeTally_26 : decode cX4_takeTally 26 = .ok (.iadd, 1) := by decide +kernel
theorem dX4_takeTally_27 : decode cX4_takeTally 27 = .ok (.iaload, 1) := by decide +kernel
theorem dX4_takeTally_28 : decode cX4_takeTally 28 = .ok (.iastore, 1) := by decide +kernel
theorem dX4_takeTally_29 : decode cX4_takeTally 29 = .ok (.iinc 1 1, 3) := by decide +kernel
theorem dX4_takeTally_32 : decode cX4_takeTally 32 = .ok (.goto (-30), 3) := by decide +kernel
theorem dX4_takeTally_35 : decode cX4_takeTally 35 = .ok (.return_, 1) := by decide +kernel
theorem dX4_votersFor_0 : decode cX4_votersFor 0 = .ok (.iconst 0, 1) := by decide +kernel
theorem dX4_votersFor_1 : decode cX4_votersFor 1 = .ok (.istore_n 2, 1) := by decide +kernel
theorem dX4_votersFor_2 : decode cX4_votersFor 2 = .ok (.iconst 0, 1) := by decide +kernel
theorem dX4_votersFor_3 : decode cX4_votersFor 3 = .ok (.istore_n 3, 1) := by decide +kernel
theorem dX4_votersFor_4 : decode cX4_votersFor 4 = .ok (.iload_n 3, 1) := by decide +kernel
theorem dX4_votersFor_5 : decode cX4_votersFor 5 = .ok (.aload_n 0, 1) := by decide +kernel
theorem dX4_votersFor_6 : decode cX4_votersFor 6 = .ok (.getfield 9, 3) := by decide +kernel
theorem dX4_votersFor_9 : decode cX4_votersFor 9 = .ok (.getfield 41, 3) := by decide +kernel
theorem dX4_votersFor_12 : decode cX4_votersFor 12 = .ok (.if_icmp .ge 25, 3) := by decide +kernel
theorem dX4_votersFor_15 : decode cX4_votersFor 15 = .ok (.aload_n 0, 1) := by decide +kernel
theorem dX4_votersFor_16 : decode cX4_votersFor 16 = .ok (.getfield 35, 3) := by decide +kernel
theorem dX4_votersFor_19 : decode cX4_votersFor 19 = .ok (.iload_n 3, 1) := by decide +kernel
theorem dX4_votersFor_20 : decode cX4_votersFor 20 = .ok (.iaload, 1) := by decide +kernel
theorem dX4_votersFor_21 : decode cX4_votersFor 21 = .ok (.iload_n 1, 1) := by decide +kernel
theorem dX4_votersFor_22 : decode cX4_votersFor 22 = .ok (.if_icmp .ne 9, 3) := by decide +kernel
theorem dX4_votersFor_25 : decode cX4_votersFor 25 = .ok (.iload_n 2, 1) := by decide +kernel
theorem dX4_votersFor_26 : decode cX4_votersFor 26 = .ok (.iconst 1, 1) := by decide +kernel
theorem dX4_votersFor_27 : decode cX4_votersFor 27 = .ok (.iload_n 3, 1) := by decide +kernel
theorem dX4_votersFor_28 : decode cX4_votersFor 28 = .ok (.ishl, 1) := by decide +kernel
theorem dX4_votersFor_29 : decode cX4_votersFor 29 = .ok (.ior, 1) := by decide +kernel
theorem dX4_votersFor_30 : decode cX4_votersFor 30 = .ok (.istore_n 2, 1) := by decide +kernel
theorem dX4_votersFor_31 : decode cX4_votersFor 31 = .ok (.iinc 3 1, 3) := by decide +kernel
theorem dX4_votersFor_34 : decode cX4_votersFor 34 = .ok (.goto (-30), 3) := by decide +kernel
theorem dX4_votersFor_37 : decode cX4_votersFor 37 = .ok (.iload_n 2, 1) := by decide +kernel
theorem dX4_votersFor_38 : decode cX4_votersFor 38 = .ok (.ireturn, 1) := by decide +kernel
theorem dX4_voting_0 : decode cX4_voting 0 = .ok (.aload_n 0, 1) := by decide +kernel
theorem dX4_voting_1 : decode cX4_voting 1 = .ok (.aload_n 1, 1) := by decide +kernel
theorem dX4_voting_2 : decode cX4_voting 2 = .ok (.putfield 9, 3) := by decide +kernel
theorem dX4_voting_5 : decode cX4_voting 5 = .ok (.iconst 0, 1) := by decide +kernel
theorem dX4_voting_6 : decode cX4_voting 6 = .ok (.istore_n 3, 1) := by decide +kernel
theorem dX4_voting_7 : decode cX4_voting 7 = .ok (.iload_n 3, 1) := by decide +kernel
theorem dX4_voting_8 : decode cX4_voting 8 = .ok (.aload_n 0, 1) := by decide +kernel
theorem dX4_voting_9 : decode cX4_voting 9 = .ok (.getfield 9, 3) := by decide +kernel
theorem dX4_voting_12 : decode cX4_voting 12 = .ok (.getfield 41, 3) := by decide +kernel
theorem dX4_voting_15 : decode cX4_voting 15 = .ok (.if_icmp .ge 57, 3) := by decide +kernel
theorem dX4_voting_18 : decode cX4_voting 18 = .ok (.aload_n 0, 1) := by decide +kernel
theorem dX4_voting_19 : decode cX4_voting 19 = .ok (.getfield 15, 3) := by decide +kernel
theorem dX4_voting_22 : decode cX4_voting 22 = .ok (.iload_n 3, 1) := by decide +kernel
theorem dX4_voting_23 : decode cX4_voting 23 = .ok (.iconst 0, 1) := by decide +kernel
theorem dX4_voting_24 : decode cX4_voting 24 = .ok (.iastore, 1) := by decide +kernel
theorem dX4_voting_25 : decode cX4_voting 25 = .ok (.iconst 0, 1) := by decide +kernel
theorem dX4_voting_26 : decode cX4_voting 26 = .ok (.istore 4, 2) := by decide +kernel
theorem dX4_voting_28 : decode cX4_voting 28 = .ok (.iload 4, 2) := by decide +kernel
theorem dX4_voting_30 : decode cX4_voting 30 = .ok (.aload_n 0, 1) := by decide +kernel
theorem dX4_voting_31 : decode cX4_voting 31 = .ok (.getfield 9, 3) := by decide +kernel
theorem dX4_voting_34 : decode cX4_voting 34 = .ok (.getfield 47, 3) := by decide +kernel
theorem dX4_voting_37 : decode cX4_voting 37 = .ok (.iload_n 3, 1) := by decide +kernel
theorem dX4_voting_38 : decode cX4_voting 38 = .ok (.aaload, 1) := by decide +kernel
theorem dX4_voting_39 : decode cX4_voting 39 = .ok (.getfield 51, 3) := by decide +kernel
theorem dX4_voting_42 : decode cX4_voting 42 = .ok (.if_icmp .ge 24, 3) := by decide +kernel
theorem dX4_voting_45 : decode cX4_voting 45 = .ok (.aload_n 0, 1) := by decide +kernel
theorem dX4_voting_46 : decode cX4_voting 46 = .ok (.iload_n 3, 1) := by decide +kernel
theorem dX4_voting_47 : decode cX4_voting 47 = .ok (.iload 4, 2) := by decide +kernel
theorem dX4_voting_49 : decode cX4_voting 49 = .ok (.aload_n 2, 1) := by decide +kernel
theorem dX4_voting_50 : decode cX4_voting 50 = .ok (.iload_n 3, 1) := by decide +kernel
theorem dX4_voting_51 : decode cX4_voting 51 = .ok (.iconst 3, 1) := by decide +kernel
theorem dX4_voting_52 : decode cX4_voting 52 = .ok (.imul, 1) := by decide +kernel
theorem dX4_voting_53 : decode cX4_voting 53 = .ok (.iload 4, 2) := by decide +kernel
theorem dX4_voting_55 : decode cX4_voting 55 = .ok (.iadd, 1) := by decide +kernel
theorem dX4_voting_56 : decode cX4_voting 56 = .ok (.iaload, 1) := by decide +kernel
theorem dX4_voting_57 : decode cX4_voting 57 = .ok (.invokevirtual 56, 3) := by decide +kernel
theorem dX4_voting_60 : decode cX4_voting 60 = .ok (.iinc 4 1, 3) := by decide +kernel
theorem dX4_voting_63 : decode cX4_voting 63 = .ok (.goto (-35), 3) := by decide +kernel
theorem dX4_voting_66 : decode cX4_voting 66 = .ok (.iinc 3 1, 3) := by decide +kernel
theorem dX4_voting_69 : decode cX4_voting 69 = .ok (.goto (-62), 3) := by decide +kernel
theorem dX4_voting_72 : decode cX4_voting 72 = .ok (.return_, 1) := by decide +kernel
theorem dX4_votingAs_0 : decode cX4_votingAs 0 = .ok (.aload_n 0, 1) := by decide +kernel
theorem dX4_votingAs_1 : decode cX4_votingAs 1 = .ok (.aload_n 1, 1) := by decide +kernel
theorem dX4_votingAs_2 : decode cX4_votingAs 2 = .ok (.putfield 9, 3) := by decide +kernel
theorem dX4_votingAs_5 : decode cX4_votingAs 5 = .ok (.iconst 0, 1) := by decide +kernel
theorem dX4_votingAs_6 : decode cX4_votingAs 6 = .ok (.istore_n 3, 1) := by decide +kernel
theorem dX4_votingAs_7 : decode cX4_votingAs 7 = .ok (.iload_n 3, 1) := by decide +kernel
theorem dX4_votingAs_8 : decode cX4_votingAs 8 = .ok (.aload_n 0, 1) := by decide +kernel
theorem dX4_votingAs_9 : decode cX4_votingAs 9 = .ok (.getfield 9, 3) := by decide +kernel
theorem dX4_votingAs_12 : decode cX4_votingAs 12 = .ok (.getfield 41, 3) := by decide +kernel
theorem dX4_votingAs_15 : decode cX4_votingAs 15 = .ok (.if_icmp .ge 81, 3) := by decide +kernel
theorem dX4_votingAs_18 : decode cX4_votingAs 18 = .ok (.aload_n 0, 1) := by decide +kernel
theorem dX4_votingAs_19 : decode cX4_votingAs 19 = .ok (.getfield 15, 3) := by decide +kernel
theorem dX4_votingAs_22 : decode cX4_votingAs 22 = .ok (.iload_n 3, 1) := by decide +kernel
theorem dX4_votingAs_23 : decode cX4_votingAs 23 = .ok (.iconst 0, 1) := by decide +kernel
theorem dX4_votingAs_24 : decode cX4_votingAs 24 = .ok (.iastore, 1) := by decide +kernel
theorem dX4_votingAs_25 : decode cX4_votingAs 25 = .ok (.aload_n 0, 1) := by decide +kernel
theorem dX4_votingAs_26 : decode cX4_votingAs 26 = .ok (.iload_n 3, 1) := by decide +kernel
theorem dX4_votingAs_27 : decode cX4_votingAs 27 = .ok (.aload_n 2, 1) := by decide +kernel
theorem dX4_votingAs_28 : decode cX4_votingAs 28 = .ok (.iload_n 3, 1) := by decide +kernel
theorem dX4_votingAs_29 : decode cX4_votingAs 29 = .ok (.iaload, 1) := by decide +kernel
theorem dX4_votingAs_30 : decode cX4_votingAs 30 = .ok (.iconst 0, 1) := by decide +kernel
theorem dX4_votingAs_31 : decode cX4_votingAs 31 = .ok (.invokevirtual 60, 3) := by decide +kernel
theorem dX4_votingAs_34 : decode cX4_votingAs 34 = .ok (.iconst 0, 1) := by decide +kernel
theorem dX4_votingAs_35 : decode cX4_votingAs 35 = .ok (.istore 4, 2) := by decide +kernel
theorem dX4_votingAs_37 : decode cX4_votingAs 37 = .ok (.iload 4, 2) := by decide +kernel
theorem dX4_votingAs_39 : decode cX4_votingAs 39 = .ok (.aload_n 0, 1) := by decide +kernel
theorem dX4_votingAs_40 : decode cX4_votingAs 40 = .ok (.getfield 9, 3) := by decide +kernel
theorem dX4_votingAs_43 : decode cX4_votingAs 43 = .ok (.getfield 47, 3) := by decide +kernel
theorem dX4_votingAs_46 : decode cX4_votingAs 46 = .ok (.iload_n 3, 1) := by decide +kernel
theorem dX4_votingAs_47 : decode cX4_votingAs 47 = .ok (.aaload, 1) := by decide +kernel
theorem dX4_votingAs_48 : decode cX4_votingAs 48 = .ok (.getfield 51, 3) := by decide +kernel
theorem dX4_votingAs_51 : decode cX4_votingAs 51 = .ok (.if_icmp .ge 39, 3) := by decide +kernel
theorem dX4_votingAs_54 : decode cX4_votingAs 54 = .ok (.aload_n 0, 1) := by decide +kernel
theorem dX4_votingAs_55 : decode cX4_votingAs 55 = .ok (.getfield 9, 3) := by decide +kernel
theorem dX4_votingAs_58 : decode cX4_votingAs 58 = .ok (.getfield 63, 3) := by decide +kernel
theorem dX4_votingAs_61 : decode cX4_votingAs 61 = .ok (.iload_n 3, 1) := by decide +kernel
theorem dX4_votingAs_62 : decode cX4_votingAs 62 = .ok (.iconst 3, 1) := by decide +kernel
theorem dX4_votingAs_63 : decode cX4_votingAs 63 = .ok (.imul, 1) := by decide +kernel
theorem dX4_votingAs_64 : decode cX4_votingAs 64 = .ok (.iload 4, 2) := by decide +kernel
theorem dX4_votingAs_66 : decode cX4_votingAs 66 = .ok (.iadd, 1) := by decide +kernel
theorem dX4_votingAs_67 : decode cX4_votingAs 67 = .ok (.iaload, 1) := by decide +kernel
theorem dX4_votingAs_68 : decode cX4_votingAs 68 = .ok (.aload_n 2, 1) := by decide +kernel
theorem dX4_votingAs_69 : decode cX4_votingAs 69 = .ok (.iload_n 3, 1) := by decide +kernel
theorem dX4_votingAs_70 : decode cX4_votingAs 70 = .ok (.iaload, 1) := by decide +kernel
theorem dX4_votingAs_71 : decode cX4_votingAs 71 = .ok (.if_icmp .ne 13, 3) := by decide +kernel
theorem dX4_votingAs_74 : decode cX4_votingAs 74 = .ok (.aload_n 0, 1) := by decide +kernel
theorem dX4_votingAs_75 : decode cX4_votingAs 75 = .ok (.iload_n 3, 1) := by decide +kernel
theorem dX4_votingAs_76 : decode cX4_votingAs 76 = .ok (.iload 4, 2) := by decide +kernel
theorem dX4_votingAs_78 : decode cX4_votingAs 78 = .ok (.aload_n 2, 1) := by decide +kernel
theorem dX4_votingAs_79 : decode cX4_votingAs 79 = .ok (.iload_n 3, 1) := by decide +kernel
theorem dX4_votingAs_80 : decode cX4_votingAs 80 = .ok (.iaload, 1) := by decide +kernel
theorem dX4_votingAs_81 : decode cX4_votingAs 81 = .ok (.invokevirtual 56, 3) := by decide +kernel
theorem dX4_votingAs_84 : decode cX4_votingAs 84 = .ok (.iinc 4 1, 3) := by decide +kernel
theorem dX4_votingAs_87 : decode cX4_votingAs 87 = .ok (.goto (-50), 3) := by decide +kernel
theorem dX4_votingAs_90 : decode cX4_votingAs 90 = .ok (.iinc 3 1, 3) := by decide +kernel
theorem dX4_votingAs_93 : decode cX4_votingAs 93 = .ok (.goto (-86), 3) := by decide +kernel
theorem dX4_votingAs_96 : decode cX4_votingAs 96 = .ok (.return_, 1) := by decide +kernel
theorem dX4_weightNow_0 : decode cX4_weightNow 0 = .ok (.aload_n 0, 1) := by decide +kernel
theorem dX4_weightNow_1 : decode cX4_weightNow 1 = .ok (.getfield 32, 3) := by decide +kernel
theorem dX4_weightNow_4 : decode cX4_weightNow 4 = .ok (.aload_n 0, 1) := by decide +kernel
theorem dX4_weightNow_5 : decode cX4_weightNow 5 = .ok (.getfield 9, 3) := by decide +kernel
theorem dX4_weightNow_8 : decode cX4_weightNow 8 = .ok (.getfield 41, 3) := by decide +kernel
theorem dX4_weightNow_11 : decode cX4_weightNow 11 = .ok (.iconst 3, 1) := by decide +kernel
theorem dX4_weightNow_12 : decode cX4_weightNow 12 = .ok (.imul, 1) := by decide +kernel
theorem dX4_weightNow_13 : decode cX4_weightNow 13 = .ok (.iload_n 1, 1) := by decide +kernel
theorem dX4_weightNow_14 : decode cX4_weightNow 14 = .ok (.iadd, 1) := by decide +kernel
theorem dX4_weightNow_15 : decode cX4_weightNow 15 = .ok (.iaload, 1) := by decide +kernel
theorem dX4_weightNow_16 : decode cX4_weightNow 16 = .ok (.ireturn, 1) := by decide +kernel
theorem dX5_addWeights_0 : decode cX5_addWeights 0 = .ok (.aload_n 0, 1) := by decide +kernel
theorem dX5_addWeights_1 : decode cX5_addWeights 1 = .ok (.getfield 35, 3) := by decide +kernel
theorem dX5_addWeights_4 : decode cX5_addWeights 4 = .ok (.invokestatic 48, 3) := by decide +kernel
theorem dX5_addWeights_7 : decode cX5_addWeights 7 = .ok (.iconst 1, 1) := by decide +kernel
theorem dX5_addWeights_8 : decode cX5_addWeights 8 = .ok (.aload_n 1, 1) := by decide +kernel
theorem dX5_addWeights_9 : decode cX5_addWeights 9 = .ok (.getfield 87, 3) := by decide +kernel
theorem dX5_addWeights_12 : decode cX5_addWeights 12 = .ok (.ishl, 1) := by decide +kernel
theorem dX5_addWeights_13 : decode cX5_addWeights 13 = .ok (.istore_n 2, 1) := by decide +kernel
theorem dX5_addWeights_14 : decode cX5_addWeights 14 = .ok (.iconst 0, 1) := by decide +kernel
theorem dX5_addWeights_15 : decode cX5_addWeights 15 = .ok (.istore_n 3, 1) := by decide +kernel
theorem dX5_addWeights_16 : decode cX5_addWeights 16 = .ok (.iload_n 3, 1) := by decide +kernel
theorem dX5_addWeights_17 : decode cX5_addWeights 17 = .ok (.aload_n 1, 1) := by decide +kernel
theorem dX5_addWeights_18 : decode cX5_addWeights 18 = .ok (.getfield 101, 3) := by decide +kernel
theorem dX5_addWeights_21 : decode cX5_addWeights 21 = .ok (.if_icmp .ge 144, 3) := by decide +kernel
theorem dX5_addWeights_24 : decode cX5_addWeights 24 = .ok (.iconst 0, 1) := by decide +kernel
theorem dX5_addWeights_25 : decode cX5_addWeights 25 = .ok (.istore 4, 2) := by decide +kernel
theorem dX5_addWeights_27 : decode cX5_addWeights 27 = .ok (.iload 4, 2) := by decide +kernel
theorem dX5_addWeights_29 : decode cX5_addWeights 29 = .ok (.iload_n 2, 1) := by decide +kernel
theorem dX5_addWeights_30 : decode cX5_addWeights 30 = .ok (.if_icmp .ge 81, 3) := by decide +kernel
theorem dX5_addWeights_33 : decode cX5_addWeights 33 = .ok (.iload 4, 2) := by decide +kernel
theorem dX5_addWeights_35 : decode cX5_addWeights 35 = .ok (.bipush 32, 2) := by decide +kernel
theorem dX5_addWeights_37 : decode cX5_addWeights 37 = .ok (.if_icmp .ge 74, 3) := by decide +kernel
theorem dX5_addWeights_40 : decode cX5_addWeights 40 = .ok (.iload_n 3, 1) := by decide +kernel
theorem dX5_addWeights_41 : decode cX5_addWeights 41 = .ok (.bipush 32, 2) := by decide +kernel
theorem dX5_addWeights_43 : decode cX5_addWeights 43 = .ok (.imul, 1) := by decide +kernel
theorem dX5_addWeights_44 : decode cX5_addWeights 44 = .ok (.iload 4, 2) := by decide +kernel
theorem dX5_addWeights_46 : decode cX5_addWeights 46 = .ok (.iadd, 1) := by decide +kernel
theorem dX5_addWeights_47 : decode cX5_addWeights 47 = .ok (.iconst 3, 1) := by decide +kernel
theorem dX5_addWeights_48 : decode cX5_addWeights 48 = .ok (.imul, 1) := by decide +kernel
theorem dX5_addWeights_49 : decode cX5_addWeights 49 = .ok (.istore 5, 2) := by decide +kernel
theorem dX5_addWeights_51 : decode cX5_addWeights 51 = .ok (.iload_n 3, 1) := by decide +kernel
theorem dX5_addWeights_52 : decode cX5_addWeights 52 = .ok (.bipush 16, 2) := by decide +kernel
theorem dX5_addWeights_54 : decode cX5_addWeights 54 = .ok (.imul, 1) := by decide +kernel
theorem dX5_addWeights_55 : decode cX5_addWeights 55 = .ok (.aload_n 0, 1) := by decide +kernel
theorem dX5_addWeights_56 : decode cX5_addWeights 56 = .ok (.getfield 31, 3) := by decide +kernel
theorem dX5_addWeights_59 : decode cX5_addWeights 59 = .ok (.iload 4, 2) := by decide +kernel
theorem dX5_addWeights_61 : decode cX5_addWeights 61 = .ok (.iaload, 1) := by decide +kernel
theorem dX5_addWeights_62 : decode cX5_addWeights 62 = .ok (.iadd, 1) := by decide +kernel
theorem dX5_addWeights_63 : decode cX5_addWeights 63 = .ok (.iconst 3, 1) := by decide +kernel
theorem dX5_addWeights_64 : decode cX5_addWeights 64 = .ok (.imul, 1) := by decide +kernel
theorem dX5_addWeights_65 : decode cX5_addWeights 65 = .ok (.istore 6, 2) := by decide +kernel
theorem dX5_addWeights_67 : decode cX5_addWeights 67 = .ok (.iconst 0, 1) := by decide +kernel
theorem dX5_addWeights_68 : decode cX5_addWeights 68 = .ok (.istore 7, 2) := by decide +kernel
theorem dX5_addWeights_70 : decode cX5_addWeights 70 = .ok (.iload 7, 2) := by decide +kernel
theorem dX5_addWeights_72 : decode cX5_addWeights 72 = .ok (.iconst 3, 1) := by decide +kernel
theorem dX5_addWeights_73 : decode cX5_addWeights 73 = .ok (.if_icmp .ge 32, 3) := by decide +kernel
theorem dX5_addWeights_76 : decode cX5_addWeights 76 = .ok (.aload_n 0, 1) := by decide +kernel
theorem dX5_addWeights_77 : decode cX5_addWeights 77 = .ok (.getfield 35, 3) := by decide +kernel
theorem dX5_addWeights_80 : decode cX5_addWeights 80 = .ok (.iload 6, 2) := by decide +kernel
theorem dX5_addWeights_82 : decode cX5_addWeights 82 = .ok (.iload 7, 2) := by decide +kernel
theorem dX5_addWeights_84 : decode cX5_addWeights 84 = .ok (.iadd, 1) := by decide +kernel
theorem dX5_addWeights_85 : decode cX5_addWeights 85 = .ok (.dup2, 1) := by decide +kernel
theorem dX5_addWeights_86 : decode cX5_addWeights 86 = .ok (.laload, 1) := by decide +kernel
theorem dX5_addWeights_87 : decode cX5_addWeights 87 = .ok (.aload_n 0, 1) := by decide +kernel
theorem dX5_addWeights_88 : decode cX5_addWeights 88 = .ok (.getfield 28, 3) := by decide +kernel
theorem dX5_addWeights_91 : decode cX5_addWeights 91 = .ok (.iload 5, 2) := by decide +kernel
theorem dX5_addWeights_93 : decode cX5_addWeights 93 = .ok (.iload 7, 2) := by decide +kernel
theorem dX5_addWeights_95 : decode cX5_addWeights 95 = .ok (.iadd, 1) := by decide +kernel
theorem dX5_addWeights_96 : decode cX5_addWeights 96 = .ok (.laload, 1) := by decide +kernel
theorem dX5_addWeights_97 : decode cX5_addWeights 97 = .ok (.ladd, 1) := by decide +kernel
theorem dX5_addWeights_98 : decode cX5_addWeights 98 = .ok (.lastore, 1) := by decide +kernel
theorem dX5_addWeights_99 : decode cX5_addWeights 99 = .ok (.iinc 7 1, 3) := by decide +kernel
theorem dX5_addWeights_102 : decode cX5_addWeights 102 = .ok (.goto (-32), 3) := by decide +kernel
theorem dX5_addWeights_105 : decode cX5_addWeights 105 = .ok (.iinc 4 1, 3) := by decide +kernel
theorem dX5_addWeights_108 : decode cX5_addWeights 108 = .ok (.goto (-81), 3) := by decide +kernel
theorem dX5_addWeights_111 : decode cX5_addWeights 111 = .ok (.bipush 44, 2) := by decide +kernel
theorem dX5_addWeights_113 : decode cX5_addWeights 113 = .ok (.istore 4, 2) := by decide +kernel
theorem dX5_addWeights_115 : decode cX5_addWeights 115 = .ok (.iload 4, 2) := by decide +kernel
theorem dX5_addWeights_117 : decode cX5_addWeights 117 = .ok (.ifCond .lt 42, 3) := by decide +kernel
theorem dX5_addWeights_120 : decode cX5_addWeights 120 = .ok (.aload_n 0, 1) := by decide +kernel
theorem dX5_addWeights_121 : decode cX5_addWeights 121 = .ok (.getfield 35, 3) := by decide +kernel
theorem dX5_addWeights_124 : decode cX5_addWeights 124 = .ok (.iload_n 3, 1) := by decide +kernel
theorem dX5_addWeights_125 : decode cX5_addWeights 125 = .ok (.bipush 16, 2) := by decide +kernel
theorem dX5_addWeights_127 : decode cX5_addWeights 127 = .ok (.imul, 1) := by decide +kernel
theorem dX5_addWeights_128 : decode cX5_addWeights 128 = .ok (.iconst 3, 1) := by decide +kernel
theorem dX5_addWeights_129 : decode cX5_addWeights 129 = .ok (.imul, 1) := by decide +kernel
theorem dX5_addWeights_130 : decode cX5_addWeights 130 = .ok (.iload 4, 2) := by decide +kernel
theorem dX5_addWeights_132 : decode cX5_addWeights 132 = .ok (.iadd, 1) := by decide +kernel
theorem dX5_addWeights_133 : decode cX5_addWeights 133 = .ok (.dup2, 1) := by decide +kernel
theorem dX5_addWeights_134 : decode cX5_addWeights 134 = .ok (.laload, 1) := by decide +kernel
theorem dX5_addWeights_135 : decode cX5_addWeights 135 = .ok (.aload_n 0, 1) := by decide +kernel
theorem dX5_addWeights_136 : decode cX5_addWeights 136 = .ok (.getfield 35, 3) := by decide +kernel
theorem dX5_addWeights_139 : decode cX5_addWeights 139 = .ok (.iload_n 3, 1) := by decide +kernel
theorem dX5_addWeights_140 : decode cX5_addWeights 140 = .ok (.bipush 16, 2) := by decide +kernel
theorem dX5_addWeights_142 : decode cX5_addWeights 142 = .ok (.imul, 1) := by decide +kernel
theorem dX5_addWeights_143 : decode cX5_addWeights 143 = .ok (.iconst 3, 1) := by decide +kernel
theorem dX5_addWeights_144 : decode cX5_addWeights 144 = .ok (.imul, 1) := by decide +kernel
theorem dX5_addWeights_145 : decode cX5_addWeights 145 = .ok (.iload 4, 2) := by decide +kernel
theorem dX5_addWeights_147 : decode cX5_addWeights 147 = .ok (.iadd, 1) := by decide +kernel
theorem dX5_addWeights_148 : decode cX5_addWeights 148 = .ok (.iconst 3, 1) := by decide +kernel
theorem dX5_addWeights_149 : decode cX5_addWeights 149 = .ok (.iadd, 1) := by decide +kernel
theorem dX5_addWeights_150 : decode cX5_addWeights 150 = .ok (.laload, 1) := by decide +kernel
theorem dX5_addWeights_151 : decode cX5_addWeights 151 = .ok (.ladd, 1) := by decide +kernel
theorem dX5_addWeights_152 : decode cX5_addWeights 152 = .ok (.lastore, 1) := by decide +kernel
theorem dX5_addWeights_153 : decode cX5_addWeights 153 = .ok (.iinc 4 (-1), 3) := by decide +kernel
theorem dX5_addWeights_156 : decode cX5_addWeights 156 = .ok (.goto (-41), 3) := by decide +kernel
theorem dX5_addWeights_159 : decode cX5_addWeights 159 = .ok (.iinc 3 1, 3) := by decide +kernel
theorem dX5_addWeights_162 : decode cX5_addWeights 162 = .ok (.goto (-146), 3) := by decide +kernel
theorem dX5_addWeights_165 : decode cX5_addWeights 165 = .ok (.return_, 1) := by decide +kernel
theorem dX5_bestBar_0 : decode cX5_bestBar 0 = .ok (.aload_n 0, 1) := by decide +kernel
theorem dX5_bestBar_1 : decode cX5_bestBar 1 = .ok (.aload_n 1, 1) := by decide +kernel
theorem dX5_bestBar_2 : decode cX5_bestBar 2 = .ok (.iload_n 2, 1) := by decide +kernel
theorem dX5_bestBar_3 : decode cX5_bestBar 3 = .ok (.iload_n 3, 1) := by decide +kernel
theorem dX5_bestBar_4 : decode cX5_bestBar 4 = .ok (.invokevirtual 44, 3) := by decide +kernel
theorem dX5_bestBar_7 : decode cX5_bestBar 7 = .ok (.aload_n 0, 1) := by decide +kernel
theorem dX5_bestBar_8 : decode cX5_bestBar 8 = .ok (.getfield 19, 3) := by decide +kernel
theorem dX5_bestBar_11 : decode cX5_bestBar 11 = .ok (.iconst 0, 1) := by decide +kernel
theorem dX5_bestBar_12 : decode cX5_bestBar 12 = .ok (.laload, 1) := by decide +kernel
theorem dX5_bestBar_13 : decode cX5_bestBar 13 = .ok (.lstore 4, 2) := by decide +kernel
theorem dX5_bestBar_15 : decode cX5_bestBar 15 = .ok (.iconst 1, 1) := by decide +kernel
theorem dX5_bestBar_16 : decode cX5_bestBar 16 = .ok (.istore 6, 2) := by decide +kernel
theorem dX5_bestBar_18 : decode cX5_bestBar 18 = .ok (.iload 6, 2) := by decide +kernel
theorem dX5_bestBar_20 : decode cX5_bestBar 20 = .ok (.bipush 64, 2) := by decide +kernel
theorem dX5_bestBar_22 : decode cX5_bestBar 22 = .ok (.if_icmp .ge 21, 3) := by decide +kernel
theorem dX5_bestBar_25 : decode cX5_bestBar 25 = .ok (.lload 4, 2) := by decide +kernel
theorem dX5_bestBar_27 : decode cX5_bestBar 27 = .ok (.aload_n 0, 1) := by decide +kernel
theorem dX5_bestBar_28 : decode cX5_bestBar 28 = .ok (.getfield 15, 3) := by decide +kernel
theorem dX5_bestBar_31 : decode cX5_bestBar 31 = .ok (.iload 6, 2) := by decide +kernel
theorem dX5_bestBar_33 : decode cX5_bestBar 33 = .ok (.laload, 1) := by decide +kernel
theorem dX5_bestBar_34 : decode cX5_bestBar 34 = .ok (.ladd, 1) := by decide +kernel
theorem dX5_bestBar_35 : decode cX5_bestBar 35 = .ok (.lstore 4, 2) := by decide +kernel
theorem dX5_bestBar_37 : decode cX5_bestBar 37 = .ok (.iinc 6 1, 3) := by decide +kernel
theorem dX5_bestBar_40 : decode cX5_bestBar 40 = .ok (.goto (-22), 3) := by decide +kernel
theorem dX5_bestBar_43 : decode cX5_bestBar 43 = .ok (.iconst 1, 1) := by decide +kernel
theorem dX5_bestBar_44 : decode cX5_bestBar 44 = .ok (.istore 6, 2) := by decide +kernel
theorem dX5_bestBar_46 : decode cX5_bestBar 46 = .ok (.aload_n 0, 1) := by decide +kernel
theorem dX5_bestBar_47 : decode cX5_bestBar 47 = .ok (.lload 4, 2) := by decide +kernel
theorem dX5_bestBar_49 : decode cX5_bestBar 49 = .ok (.putfield 24, 3) := by decide +kernel
theorem dX5_bestBar_52 : decode cX5_bestBar 52 = .ok (.iconst 2, 1) := by decide +kernel
theorem dX5_bestBar_53 : decode cX5_bestBar 53 = .ok (.istore 7, 2) := by decide +kernel
theorem dX5_bestBar_55 : decode cX5_bestBar 55 = .ok (.iload 7, 2) := by decide +kernel
theorem dX5_bestBar_57 : decode cX5_bestBar 57 = .ok (.bipush 82, 2) := by decide +kernel
theorem dX5_bestBar_59 : decode cX5_bestBar 59 = .ok (.if_icmp .gt 60, 3) := by decide +kernel
theorem dX5_bestBar_62 : decode cX5_bestBar 62 = .ok (.iload 7, 2) := by decide +kernel
theorem dX5_bestBar_64 : decode cX5_bestBar 64 = .ok (.bipush 64, 2) := by decide +kernel
theorem dX5_bestBar_66 : decode cX5_bestBar 66 = .ok (.if_icmp .gt 27, 3) := by decide +kernel
theorem dX5_bestBar_69 : decode cX5_bestBar 69 = .ok (.lload 4, 2) := by decide +kernel
theorem dX5_bestBar_71 : decode cX5_bestBar 71 = .ok (.aload_n 0, 1) := by decide +kernel
theorem dX5_bestBar_72 : decode cX5_bestBar 72 = .ok (.getfield 19, 3) := by decide +kernel
theorem dX5_bestBar_75 : decode cX5_bestBar 75 = .ok (.iload 7, 2) := by decide +kernel
theorem dX5_bestBar_77 : decode cX5_bestBar 77 = .ok (.iconst 1, 1) := by decide +kernel
theorem dX5_bestBar_78 : decode cX5_bestBar 78 = .ok (.isub, 1) := by decide +kernel
theorem dX5_bestBar_79 : decode cX5_bestBar 79 = .ok (.laload, 1) := by decide +kernel
theorem dX5_bestBar_80 : decode cX5_bestBar 80 = .ok (.aload_n 0, 1) := by decide +kernel
theorem dX5_bestBar_81 : decode cX5_bestBar 81 = .ok (.getfield 15, 3) := by decide +kernel
theorem dX5_bestBar_84 : decode cX5_bestBar 84 = .ok (.iload 7, 2) := by decide +kernel
theorem dX5_bestBar_86 : decode cX5_bestBar 86 = .ok (.iconst 1, 1) := by decide +kernel
theorem dX5_bestBar_87 : decode cX5_bestBar 87 = .ok (.isub, 1) := by decide +kernel
theorem dX5_bestBar_88 : decode cX5_bestBar 88 = .ok (.laload, 1) := by decide +kernel
theorem dX5_bestBar_89 : decode cX5_bestBar 89 = .ok (.lsub, 1) := by decide +kernel
theorem dX5_bestBar_90 : decode cX5_bestBar 90 = .ok (.ladd, 1) := by decide +kernel
theorem dX5_bestBar_91 : decode cX5_bestBar 91 = .ok (.lstore 4, 2) := by decide +kernel
theorem dX5_bestBar_93 : decode cX5_bestBar 93 = .ok (.lload 4, 2) := by decide +kernel
theorem dX5_bestBar_95 : decode cX5_bestBar 95 = .ok (.aload_n 0, 1) := by decide +kernel
theorem dX5_bestBar_96 : decode cX5_bestBar 96 = .ok (.getfield 24, 3) := by decide +kernel
theorem dX5_bestBar_99 : decode cX5_bestBar 99 = .ok (.lcmp, 1) := by decide +kernel
theorem dX5_bestBar_100 : decode cX5_bestBar 100 = .ok (.ifCond .ge 13, 3) := by decide +kernel
theorem dX5_bestBar_103 : decode cX5_bestBar 103 = .ok (.aload_n 0, 1) := by decide +kernel
theorem dX5_bestBar_104 : decode cX5_bestBar 104 = .ok (.lload 4, 2) := by decide +kernel
theorem dX5_bestBar_106 : decode cX5_bestBar 106 = .ok (.putfield 24, 3) := by decide +kernel
theorem dX5_bestBar_109 : decode cX5_bestBar 109 = .ok (.iload 7, 2) := by decide +kernel
theorem dX5_bestBar_111 : decode cX5_bestBar 111 = .ok (.istore 6, 2) := by decide +kernel
theorem dX5_bestBar_113 : decode cX5_bestBar 113 = .ok (.iinc 7 1, 3) := by decide +kernel
theorem dX5_bestBar_116 : decode cX5_bestBar 116 = .ok (.goto (-61), 3) := by decide +kernel
theorem dX5_bestBar_119 : decode cX5_bestBar 119 = .ok (.iload 6, 2) := by decide +kernel
theorem dX5_bestBar_121 : decode cX5_bestBar 121 = .ok (.ireturn, 1) := by decide +kernel
theorem dX5_init_0 : decode cX5_init 0 = .ok (.aload_n 0, 1) := by decide +kernel
theorem dX5_init_1 : decode cX5_init 1 = .ok (.invokespecial 3, 3) := by decide +kernel
theorem dX5_init_4 : decode cX5_init 4 = .ok (.aload_n 0, 1) := by decide +kernel
theorem dX5_init_5 : decode cX5_init 5 = .ok (.aload_n 1, 1) := by decide +kernel
theorem dX5_init_6 : decode cX5_init 6 = .ok (.putfield 9, 3) := by decide +kernel
theorem dX5_init_9 : decode cX5_init 9 = .ok (.aload_n 0, 1) := by decide +kernel
theorem dX5_init_10 : decode cX5_init 10 = .ok (.bipush 64, 2) := by decide +kernel
theorem dX5_init_12 : decode cX5_init 12 = .ok (.newarray .long, 2) := by decide +kernel
theorem dX5_init_14 : decode cX5_init 14 = .ok (.putfield 15, 3) := by decide +kernel
theorem dX5_init_17 : decode cX5_init 17 = .ok (.aload_n 0, 1) := by decide +kernel
theorem dX5_init_18 : decode cX5_init 18 = .ok (.bipush 64, 2) := by decide +kernel
theorem dX5_init_20 : decode cX5_init 20 = .ok (.newarray .long, 2) := by decide +kernel
theorem dX5_init_22 : decode cX5_init 22 = .ok (.putfield 19, 3) := by decide +kernel
theorem dX5_init_25 : decode cX5_init 25 = .ok (.aload_n 0, 1) := by decide +kernel
theorem dX5_init_26 : decode cX5_init 26 = .ok (.ldc2_w 22, 3) := by decide +kernel
theorem dX5_init_29 : decode cX5_init 29 = .ok (.putfield 24, 3) := by decide +kernel
theorem dX5_init_32 : decode cX5_init 32 = .ok (.aload_n 0, 1) := by decide +kernel
theorem dX5_init_33 : decode cX5_init 33 = .ok (.sipush 288, 3) := by decide +kernel
theorem dX5_init_36 : decode cX5_init 36 = .ok (.newarray .long, 2) := by decide +kernel
theorem dX5_init_38 : decode cX5_init 38 = .ok (.putfield 28, 3) := by decide +kernel
theorem dX5_init_41 : decode cX5_init 41 = .ok (.aload_n 0, 1) := by decide +kernel
theorem dX5_init_42 : decode cX5_init 42 = .ok (.bipush 32, 2) := by decide +kernel
theorem dX5_init_44 : decode cX5_init 44 = .ok (.newarray .int, 2) := by decide +kernel
theorem dX5_init_46 : decode cX5_init 46 = .ok (.putfield 31, 3) := by decide +kernel
theorem dX5_init_49 : decode cX5_init 49 = .ok (.aload_n 0, 1) := by decide +kernel
theorem dX5_init_50 : decode cX5_init 50 = .ok (.sipush 144, 3) := by decide +kernel
theorem dX5_init_53 : decode cX5_init 53 = .ok (.newarray .long, 2) := by decide +kernel
theorem dX5_init_55 : decode cX5_init 55 = .ok (.putfield 35, 3) := by decide +kernel
theorem dX5_init_58 : decode cX5_init 58 = .ok (.aload_n 0, 1) := by decide +kernel
theorem dX5_init_59 : decode cX5_init 59 = .ok (.iconst 5, 1) := by decide +kernel
theorem dX5_init_60 : decode cX5_init 60 = .ok (.newarray .int, 2) := by decide +kernel
theorem dX5_init_62 : decode cX5_init 62 = .ok (.putfield 38, 3) := by decide +kernel
theorem dX5_init_65 : decode cX5_init 65 = .ok (.aload_n 0, 1) := by decide +kernel
theorem dX5_init_66 : decode cX5_init 66 = .ok (.bipush 8, 2) := by decide +kernel
theorem dX5_init_68 : decode cX5_init 68 = .ok (.newarray .int, 2) := by decide +kernel
theorem dX5_init_70 : decode cX5_init 70 = .ok (.putfield 41, 3) := by decide +kernel
theorem dX5_init_73 : decode cX5_init 73 = .ok (.iconst 0, 1) := by decide +kernel
theorem dX5_init_74 : decode cX5_init 74 = .ok (.istore_n 2, 1) := by decide +kernel
theorem dX5_init_75 : decode cX5_init 75 = .ok (.iload_n 2, 1) := by decide +kernel
theorem dX5_init_76 : decode cX5_init 76 = .ok (.bipush 8, 2) := by decide +kernel
theorem dX5_init_78 : decode cX5_init 78 = .ok (.if_icmp .ge 16, 3) := by decide +kernel
theorem dX5_init_81 : decode cX5_init 81 = .ok (.aload_n 0, 1) := by decide +kernel
theorem dX5_init_82 : decode cX5_init 82 = .ok (.getfield 41, 3) := by decide +kernel
theorem dX5_init_85 : decode cX5_init 85 = .ok (.iload_n 2, 1) := by decide +kernel
theorem dX5_init_86 : decode cX5_init 86 = .ok (.iconst (-1), 1) := by decide +kernel
theorem dX5_init_87 : decode cX5_init 87 = .ok (.iastore, 1) := by decide +kernel
theorem dX5_init_88 : decode cX5_init 88 = .ok (.iinc 2 1, 3) := by decide +kernel
theorem dX5_init_91 : decode cX5_init 91 = .ok (.goto (-16), 3) := by decide +kernel
theorem dX5_init_94 : decode cX5_init 94 = .ok (.return_, 1) := by decide +kernel
theorem dX5_keepNeed_0 : decode cX5_keepNeed 0 = .ok (.iconst 0, 1) := by decide +kernel
theorem dX5_keepNeed_1 : decode cX5_keepNeed 1 = .ok (.istore 5, 2) := by decide +kernel
theorem dX5_keepNeed_3 : decode cX5_keepNeed 3 = .ok (.iload 5, 2) := by decide +kernel
theorem dX5_keepNeed_5 : decode cX5_keepNeed 5 = .ok (.iconst 5, 1) := by decide +kernel
theorem dX5_keepNeed_6 : decode cX5_keepNeed 6 = .ok (.if_icmp .ge 33, 3) := by decide +kernel
theorem dX5_keepNeed_9 : decode cX5_keepNeed 9 = .ok (.aload_n 0, 1) := by decide +kernel
theorem dX5_keepNeed_10 : decode cX5_keepNeed 10 = .ok (.getfield 41, 3) := by decide +kernel
theorem dX5_keepNeed_13 : decode cX5_keepNeed 13 = .ok (.iload 5, 2) := by decide +kernel
theorem dX5_keepNeed_15 : decode cX5_keepNeed 15 = .ok (.iload 5, 2) := by decide +kernel
theorem dX5_keepNeed_17 : decode cX5_keepNeed 17 = .ok (.iload_n 1, 1) := by decide +kernel
theorem dX5_keepNeed_18 : decode cX5_keepNeed 18 = .ok (.if_icmp .ge 13, 3) := by decide +kernel
theorem dX5_keepNeed_21 : decode cX5_keepNeed 21 = .ok (.aload_n 0, 1) := by decide +kernel
theorem dX5_keepNeed_22 : decode cX5_keepNeed 22 = .ok (.getfield 38, 3) := by decide +kernel
theorem dX5_keepNeed_25 : decode cX5_keepNeed 25 = .ok (.iload 5, 2) := by decide +kernel
theorem dX5_keepNeed_27 : decode cX5_keepNeed 27 = .ok (.iaload, 1) := by decide +kernel
theorem dX5_keepNeed_28 : decode cX5_keepNeed 28 = .ok (.goto 4, 3) := by decide +kernel
theorem dX5_keepNeed_31 : decode cX5_keepNeed 31 = .ok (.iconst (-1), 1) := by decide +kernel
theorem dX5_keepNeed_32 : decode cX5_keepNeed 32 = .ok (.iastore, 1) := by decide +kernel
theorem dX5_keepNeed_33 : decode cX5_keepNeed 33 = .ok (.iinc 5 1, 3) := by decide +kernel
theorem dX5_keepNeed_36 : decode cX5_keepNeed 36 = .ok (.goto (-33), 3) := by decide +kernel
theorem dX5_keepNeed_39 : decode cX5_keepNeed 39 = .ok (.aload_n 0, 1) := by decide +kernel
theorem dX5_keepNeed_40 : decode cX5_keepNeed 40 = .ok (.getfield 41, 3) := by decide +kernel
theorem dX5_keepNeed_43 : decode cX5_keepNeed 43 = .ok (.iconst 5, 1) := by decide +kernel
theorem dX5_keepNeed_44 : decode cX5_keepNeed 44 = .ok (.iload_n 2, 1) := by decide +kernel
theorem dX5_keepNeed_45 : decode cX5_keepNeed 45 = .ok (.iastore, 1) := by decide +kernel
theorem dX5_keepNeed_46 : decode cX5_keepNeed 46 = .ok (.aload_n 0, 1) := by decide +kernel
theorem dX5_keepNeed_47 : decode cX5_keepNeed 47 = .ok (.getfield 41, 3) := by decide +kernel
theorem dX5_keepNeed_50 : decode cX5_keepNeed 50 = .ok (.bipush 6, 2) := by decide +kernel
theorem dX5_keepNeed_52 : decode cX5_keepNeed 52 = .ok (.iload_n 3, 1) := by decide +kernel
theorem dX5_keepNeed_53 : decode cX5_keepNeed 53 = .ok (.iastore, 1) := by decide +kernel
theorem dX5_keepNeed_54 : decode cX5_keepNeed 54 = .ok (.aload_n 0, 1) := by decide +kernel
theorem dX5_keepNeed_55 : decode cX5_keepNeed 55 = .ok (.getfield 41, 3) := by decide +kernel
theorem dX5_keepNeed_58 : decode cX5_keepNeed 58 = .ok (.bipush 7, 2) := by decide +kernel
theorem dX5_keepNeed_60 : decode cX5_keepNeed 60 = .ok (.iload 4, 2) := by decide +kernel
theorem dX5_keepNeed_62 : decode cX5_keepNeed 62 = .ok (.iastore, 1) := by decide +kernel
theorem dX5_keepNeed_63 : decode cX5_keepNeed 63 = .ok (.return_, 1) := by decide +kernel
theorem dX5_lostByNeed_0 : decode cX5_lostByNeed 0 = .ok (.iload_n 2, 1) := by decide +kernel
theorem dX5_lostByNeed_1 : decode cX5_lostByNeed 1 = .ok (.bipush 16, 2) := by decide +kernel
theorem dX5_lostByNeed_3 : decode cX5_lostByNeed 3 = .ok (.imul, 1) := by decide +kernel
theorem dX5_lostByNeed_4 : decode cX5_lostByNeed 4 = .ok (.iconst 3, 1) := by decide +kernel
theorem dX5_lostByNeed_5 : decode cX5_lostByNeed 5 = .ok (.imul, 1) := by decide +kernel
theorem dX5_lostByNeed_6 : decode cX5_lostByNeed 6 = .ok (.istore 4, 2) := by decide +kernel
theorem dX5_lostByNeed_8 : decode cX5_lostByNeed 8 = .ok (.iload 4, 2) := by decide +kernel
theorem dX5_lostByNeed_10 : decode cX5_lostByNeed 10 = .ok (.iload_n 1, 1) := by decide +kernel
theorem dX5_lostByNeed_11 : decode cX5_lostByNeed 11 = .ok (.iconst 3, 1) := by decide +kernel
theorem dX5_lostByNeed_12 : decode cX5_lostByNeed 12 = .ok (.imul, 1) := by decide +kernel
theorem dX5_lostByNeed_13 : decode cX5_lostByNeed 13 = .ok (.iadd, 1) := by decide +kernel
theorem dX5_lostByNeed_14 : decode cX5_lostByNeed 14 = .ok (.istore 5, 2) := by decide +kernel
theorem dX5_lostByNeed_16 : decode cX5_lostByNeed 16 = .ok (.aload_n 0, 1) := by decide +kernel
theorem dX5_lostByNeed_17 : decode cX5_lostByNeed 17 = .ok (.getfield 35, 3) := by decide +kernel
theorem dX5_lostByNeed_20 : decode cX5_lostByNeed 20 = .ok (.iload 5, 2) := by decide +kernel
theorem dX5_lostByNeed_22 : decode cX5_lostByNeed 22 = .ok (.iload_n 2, 1) := by decide +kernel
theorem dX5_lostByNeed_23 : decode cX5_lostByNeed 23 = .ok (.iadd, 1) := by decide +kernel
theorem dX5_lostByNeed_24 : decode cX5_lostByNeed 24 = .ok (.laload, 1) := by decide +kernel
theorem dX5_lostByNeed_25 : decode cX5_lostByNeed 25 = .ok (.aload_n 0, 1) := by decide +kernel
theorem dX5_lostByNeed_26 : decode cX5_lostByNeed 26 = .ok (.getfield 35, 3) := by decide +kernel
theorem dX5_lostByNeed_29 : decode cX5_lostByNeed 29 = .ok (.iload 4, 2) := by decide +kernel
theorem dX5_lostByNeed_31 : decode cX5_lostByNeed 31 = .ok (.iload_n 3, 1) := by decide +kernel
theorem dX5_lostByNeed_32 : decode cX5_lostByNeed 32 = .ok (.iadd, 1) := by decide +kernel
theorem dX5_lostByNeed_33 : decode cX5_lostByNeed 33 = .ok (.laload, 1) := by decide +kernel
theorem dX5_lostByNeed_34 : decode cX5_lostByNeed 34 = .ok (.ladd, 1) := by decide +kernel
theorem dX5_lostByNeed_35 : decode cX5_lostByNeed 35 = .ok (.aload_n 0, 1) := by decide +kernel
theorem dX5_lostByNeed_36 : decode cX5_lostByNeed 36 = .ok (.getfield 35, 3) := by decide +kernel
theorem dX5_lostByNeed_39 : decode cX5_lostByNeed 39 = .ok (.iload 5, 2) := by decide +kernel
theorem dX5_lostByNeed_41 : decode cX5_lostByNeed 41 = .ok (.iload_n 3, 1) := by decide +kernel
theorem dX5_lostByNeed_42 : decode cX5_lostByNeed 42 = .ok (.iadd, 1) := by decide +kernel
theorem dX5_lostByNeed_43 : decode cX5_lostByNeed 43 = .ok (.laload, 1) := by decide +kernel
theorem dX5_lostByNeed_44 : decode cX5_lostByNeed 44 = .ok (.lsub, 1) := by decide +kernel
theorem dX5_lostByNeed_45 : decode cX5_lostByNeed 45 = .ok (.lreturn, 1) := by decide +kernel
theorem dX5_sortByVoters_0 : decode cX5_sortByVoters 0 = .ok (.aload_n 0, 1) := by decide +kernel
theorem dX5_sortByVoters_1 : decode cX5_sortByVoters 1 = .ok (.getfield 28, 3) := by decide +kernel
theorem dX5_sortByVoters_4 : decode cX5_sortByVoters 4 = .ok (.invokestatic 48, 3) := by decide +kernel
theorem dX5_sortByVoters_7 : decode cX5_sortByVoters 7 = .ok (.aload_n 0, 1) := by decide +kernel
theorem dX5_sortByVoters_8 : decode cX5_sortByVoters 8 = .ok (.getfield 9, 3) := by decide +kernel
theorem dX5_sortByVoters_11 : decode cX5_sortByVoters 11 = .ok (.aload_n 1, 1) := by decide +kernel
theorem dX5_sortByVoters_12 : decode cX5_sortByVoters 12 = .ok (.aload_n 1, 1) := by decide +kernel
theorem dX5_sortByVoters_13 : decode cX5_sortByVoters 13 = .ok (.getfield 52, 3) := by decide +kernel
theorem dX5_sortByVoters_16 : decode cX5_sortByVoters 16 = .ok (.invokevirtual 57, 3) := by decide +kernel
theorem dX5_sortByVoters_19 : decode cX5_sortByVoters 19 = .ok (.aload_n 0, 1) := by decide +kernel
theorem dX5_sortByVoters_20 : decode cX5_sortByVoters 20 = .ok (.getfield 9, 3) := by decide +kernel
theorem dX5_sortByVoters_23 : decode cX5_sortByVoters 23 = .ok (.invokevirtual 63, 3) := by decide +kernel
theorem dX5_sortByVoters_26 : decode cX5_sortByVoters 26 = .ok (.istore_n 2, 1) := by decide +kernel
theorem dX5_sortByVoters_27 : decode cX5_sortByVoters 27 = .ok (.iconst 0, 1) := by decide +kernel
theorem dX5_sortByVoters_28 : decode cX5_sortByVoters 28 = .ok (.istore_n 3, 1) := by decide +kernel
theorem dX5_sortByVoters_29 : decode cX5_sortByVoters 29 = .ok (.iload_n 3, 1) := by decide +kernel
theorem dX5_sortByVoters_30 : decode cX5_sortByVoters 30 = .ok (.iload_n 2, 1) := by decide +kernel
theorem dX5_sortByVoters_31 : decode cX5_sortByVoters 31 = .ok (.if_icmp .ge 96, 3) := by decide +kernel
theorem dX5_sortByVoters_34 : decode cX5_sortByVoters 34 = .ok (.iconst 0, 1) := by decide +kernel
theorem dX5_sortByVoters_35 : decode cX5_sortByVoters 35 = .ok (.istore 4, 2) := by decide +kernel
theorem dX5_sortByVoters_37 : decode cX5_sortByVoters 37 = .ok (.iload 4, 2) := by decide +kernel
theorem dX5_sortByVoters_39 : decode cX5_sortByVoters 39 = .ok (.aload_n 1, 1) := by decide +kernel
theorem dX5_sortByVoters_40 : decode cX5_sortByVoters 40 = .ok (.getfield 101, 3) := by decide +kernel
theorem dX5_sortByVoters_43 : decode cX5_sortByVoters 43 = .ok (.if_icmp .ge 71, 3) := by decide +kernel
theorem dX5_sortByVoters_46 : decode cX5_sortByVoters 46 = .ok (.iload 4, 2) := by decide +kernel
theorem dX5_sortByVoters_48 : decode cX5_sortByVoters 48 = .ok (.bipush 32, 2) := by decide +kernel
theorem dX5_sortByVoters_50 : decode cX5_sortByVoters 50 = .ok (.imul, 1) := by decide +kernel
theorem dX5_sortByVoters_51 : decode cX5_sortByVoters 51 = .ok (.aload_n 0, 1) := by decide +kernel
theorem dX5_sortByVoters_52 : decode cX5_sortByVoters 52 = .ok (.getfield 9, 3) := by decide +kernel
theorem dX5_sortByVoters_55 : decode cX5_sortByVoters 55 = .ok (.iload 4, 2) := by decide +kernel
theorem dX5_sortByVoters_57 : decode cX5_sortByVoters 57 = .ok (.invokevirtual 104, 3) := by decide +kernel
theorem dX5_sortByVoters_60 : decode cX5_sortByVoters 60 = .ok (.bipush 31, 2) := by decide +kernel
theorem dX5_sortByVoters_62 : decode cX5_sortByVoters 62 = .ok (.iand, 1) := by decide +kernel
theorem dX5_sortByVoters_63 : decode cX5_sortByVoters 63 = .ok (.iadd, 1) := by decide +kernel
theorem dX5_sortByVoters_64 : decode cX5_sortByVoters 64 = .ok (.iconst 3, 1) := by decide +kernel
theorem dX5_sortByVoters_65 : decode cX5_sortByVoters 65 = .ok (.imul, 1) := by decide +kernel
theorem dX5_sortByVoters_66 : decode cX5_sortByVoters 66 = .ok (.istore 5, 2) := by decide +kernel
theorem dX5_sortByVoters_68 : decode cX5_sortByVoters 68 = .ok (.iconst 0, 1) := by decide +kernel
theorem dX5_sortByVoters_69 : decode cX5_sortByVoters 69 = .ok (.istore 6, 2) := by decide +kernel
theorem dX5_sortByVoters_71 : decode cX5_sortByVoters 71 = .ok (.iload 6, 2) := by decide +kernel
theorem dX5_sortByVoters_73 : decode cX5_sortByVoters 73 = .ok (.aload_n 1, 1) := by decide +kernel
theorem dX5_sortByVoters_74 : decode cX5_sortByVoters 74 = .ok (.getfield 101, 3) := by decide +kernel
theorem dX5_sortByVoters_77 : decode cX5_sortByVoters 77 = .ok (.if_icmp .ge 31, 3) := by decide +kernel
theorem dX5_sortByVoters_80 : decode cX5_sortByVoters 80 = .ok (.aload_n 0, 1) := by decide +kernel
theorem dX5_sortByVoters_81 : decode cX5_sortByVoters 81 = .ok (.getfield 28, 3) := by decide +kernel
theorem dX5_sortByVoters_84 : decode cX5_sortByVoters 84 = .ok (.iload 5, 2) := by decide +kernel
theorem dX5_sortByVoters_86 : decode cX5_sortByVoters 86 = .ok (.iload 6, 2) := by decide +kernel
theorem dX5_sortByVoters_88 : decode cX5_sortByVoters 88 = .ok (.iadd, 1) := by decide +kernel
theorem dX5_sortByVoters_89 : decode cX5_sortByVoters 89 = .ok (.dup2, 1) := by decide +kernel
theorem dX5_sortByVoters_90 : decode cX5_sortByVoters 90 = .ok (.laload, 1) := by decide +kernel
theorem dX5_sortByVoters_91 : decode cX5_sortByVoters 91 = .ok (.aload_n 0, 1) := by decide +kernel
theorem dX5_sortByVoters_92 : decode cX5_sortByVoters 92 = .ok (.getfield 9, 3) := by decide +kernel
theorem dX5_sortByVoters_95 : decode cX5_sortByVoters 95 = .ok (.iload 6, 2) := by decide +kernel
theorem dX5_sortByVoters_97 : decode cX5_sortByVoters 97 = .ok (.invokevirtual 71, 3) := by decide +kernel
theorem dX5_sortByVoters_100 : decode cX5_sortByVoters 100 = .ok (.ladd, 1) := by decide +kernel
theorem dX5_sortByVoters_101 : decode cX5_sortByVoters 101 = .ok (.lastore, 1) := by decide +kernel
theorem dX5_sortByVoters_102 : decode cX5_sortByVoters 102 = .ok (.iinc 6 1, 3) := by decide +kernel
theorem dX5_sortByVoters_105 : decode cX5_sortByVoters 105 = .ok (.goto (-34), 3) := by decide +kernel
theorem dX5_sortByVoters_108 : decode cX5_sortByVoters 108 = .ok (.iinc 4 1, 3) := by decide +kernel
theorem dX5_sortByVoters_111 : decode cX5_sortByVoters 111 = .ok (.goto (-74), 3) := by decide +kernel
theorem dX5_sortByVoters_114 : decode cX5_sortByVoters 114 = .ok (.aload_n 0, 1) := by decide +kernel
theorem dX5_sortByVoters_115 : decode cX5_sortByVoters 115 = .ok (.getfield 9, 3) := by decide +kernel
theorem dX5_sortByVoters_118 : decode cX5_sortByVoters 118 = .ok (.invokevirtual 75, 3) := by decide +kernel
theorem dX5_sortByVoters_121 : decode cX5_sortByVoters 121 = .ok (.iinc 3 1, 3) := by decide +kernel
theorem dX5_sortByVoters_124 : decode cX5_sortByVoters 124 = .ok (.goto (-95), 3) := by decide +kernel
theorem dX5_sortByVoters_127 : decode cX5_sortByVoters 127 = .ok (.return_, 1) := by decide +kernel
theorem dX5_sortByWeights_0 : decode cX5_sortByWeights 0 = .ok (.aload_n 0, 1) := by decide +kernel
theorem dX5_sortByWeights_1 : decode cX5_sortByWeights 1 = .ok (.getfield 15, 3) := by decide +kernel
theorem dX5_sortByWeights_4 : decode cX5_sortByWeights 4 = .ok (.invokestatic 48, 3) := by decide +kernel
theorem dX5_sortByWeights_7 : decode cX5_sortByWeights 7 = .ok (.aload_n 0, 1) := by decide +kernel
theorem dX5_sortByWeights_8 : decode cX5_sortByWeights 8 = .ok (.getfield 19, 3) := by decide +kernel
theorem dX5_sortByWeights_11 : decode cX5_sortByWeights 11 = .ok (.invokestatic 48, 3) := by decide +kernel
theorem dX5_sortByWeights_14 : decode cX5_sortByWeights 14 = .ok (.aload_n 0, 1) := by decide +kernel
theorem dX5_sortByWeights_15 : decode cX5_sortByWeights 15 = .ok (.getfield 9, 3) := by decide +kernel
theorem dX5_sortByWeights_18 : decode cX5_sortByWeights 18 = .ok (.aload_n 1, 1) := by decide +kernel
theorem dX5_sortByWeights_19 : decode cX5_sortByWeights 19 = .ok (.aload_n 1, 1) := by decide +kernel
theorem dX5_sortByWeights_20 : decode cX5_sortByWeights 20 = .ok (.getfield 52, 3) := by decide +kernel
theorem dX5_sortByWeights_23 : decode cX5_sortByWeights 23 = .ok (.invokevirtual 57, 3) := by decide +kernel
theorem dX5_sortByWeights_26 : decode cX5_sortByWeights 26 = .ok (.aload_n 0, 1) := by decide +kernel
theorem dX5_sortByWeights_27 : decode cX5_sortByWeights 27 = .ok (.getfield 9, 3) := by decide +kernel
theorem dX5_sortByWeights_30 : decode cX5_sortByWeights 30 = .ok (.invokevirtual 63, 3) := by decide +kernel
theorem dX5_sortByWeights_33 : decode cX5_sortByWeights 33 = .ok (.istore 4, 2) := by decide +kernel
theorem dX5_sortByWeights_35 : decode cX5_sortByWeights 35 = .ok (.iconst 0, 1) := by decide +kernel
theorem dX5_sortByWeights_36 : decode cX5_sortByWeights 36 = .ok (.istore 5, 2) := by decide +kernel
theorem dX5_sortByWeights_38 : decode cX5_sortByWeights 38 = .ok (.iload 5, 2) := by decide +kernel
theorem dX5_sortByWeights_40 : decode cX5_sortByWeights 40 = .ok (.iload 4, 2) := by decide +kernel
theorem dX5_sortByWeights_42 : decode cX5_sortByWeights 42 = .ok (.if_icmp .ge 74, 3) := by decide +kernel
theorem dX5_sortByWeights_45 : decode cX5_sortByWeights 45 = .ok (.aload_n 0, 1) := by decide +kernel
theorem dX5_sortByWeights_46 : decode cX5_sortByWeights 46 = .ok (.getfield 9, 3) := by decide +kernel
theorem dX5_sortByWeights_49 : decode cX5_sortByWeights 49 = .ok (.iload_n 2, 1) := by decide +kernel
theorem dX5_sortByWeights_50 : decode cX5_sortByWeights 50 = .ok (.invokevirtual 67, 3) := by decide +kernel
theorem dX5_sortByWeights_53 : decode cX5_sortByWeights 53 = .ok (.istore 6, 2) := by decide +kernel
theorem dX5_sortByWeights_55 : decode cX5_sortByWeights 55 = .ok (.iload 6, 2) := by decide +kernel
theorem dX5_sortByWeights_57 : decode cX5_sortByWeights 57 = .ok (.ifCond .lt 46, 3) := by decide +kernel
theorem dX5_sortByWeights_60 : decode cX5_sortByWeights 60 = .ok (.iload 6, 2) := by decide +kernel
theorem dX5_sortByWeights_62 : decode cX5_sortByWeights 62 = .ok (.bipush 64, 2) := by decide +kernel
theorem dX5_sortByWeights_64 : decode cX5_sortByWeights 64 = .ok (.if_icmp .ge 39, 3) := by decide +kernel
theorem dX5_sortByWeights_67 : decode cX5_sortByWeights 67 = .ok (.aload_n 0, 1) := by decide +kernel
theorem dX5_sortByWeights_68 : decode cX5_sortByWeights 68 = .ok (.getfield 15, 3) := by decide +kernel
theorem dX5_sortByWeights_71 : decode cX5_sortByWeights 71 = .ok (.iload 6, 2) := by decide +kernel
theorem dX5_sortByWeights_73 : decode cX5_sortByWeights 73 = .ok (.dup2, 1) := by decide +kernel
theorem dX5_sortByWeights_74 : decode cX5_sortByWeights 74 = .ok (.laload, 1) := by decide +kernel
theorem dX5_sortByWeights_75 : decode cX5_sortByWeights 75 = .ok (.aload_n 0, 1) := by decide +kernel
theorem dX5_sortByWeights_76 : decode cX5_sortByWeights 76 = .ok (.getfield 9, 3) := by decide +kernel
theorem dX5_sortByWeights_79 : decode cX5_sortByWeights 79 = .ok (.iload_n 2, 1) := by decide +kernel
theorem dX5_sortByWeights_80 : decode cX5_sortByWeights 80 = .ok (.invokevirtual 71, 3) := by decide +kernel
theorem dX5_sortByWeights_83 : decode cX5_sortByWeights 83 = .ok (.ladd, 1) := by decide +kernel
theorem dX5_sortByWeights_84 : decode cX5_sortByWeights 84 = .ok (.lastore, 1) := by decide +kernel
theorem dX5_sortByWeights_85 : decode cX5_sortByWeights 85 = .ok (.aload_n 0, 1) := by decide +kernel
theorem dX5_sortByWeights_86 : decode cX5_sortByWeights 86 = .ok (.getfield 19, 3) := by decide +kernel
theorem dX5_sortByWeights_89 : decode cX5_sortByWeights 89 = .ok (.iload 6, 2) := by decide +kernel
theorem dX5_sortByWeights_91 : decode cX5_sortByWeights 91 = .ok (.dup2, 1) := by decide +kernel
theorem dX5_sortByWeights_92 : decode cX5_sortByWeights 92 = .ok (.laload, 1) := by decide +kernel
theorem dX5_sortByWeights_93 : decode cX5_sortByWeights 93 = .ok (.aload_n 0, 1) := by decide +kernel
theorem dX5_sortByWeights_94 : decode cX5_sortByWeights 94 = .ok (.getfield 9, 3) := by decide +kernel
theorem dX5_sortByWeights_97 : decode cX5_sortByWeights 97 = .ok (.iload_n 3, 1) := by decide +kernel
theorem dX5_sortByWeights_98 : decode cX5_sortByWeights 98 = .ok (.invokevirtual 71, 3) := by decide +kernel
theorem dX5_sortByWeights_101 : decode cX5_sortByWeights 101 = .ok (.ladd, 1) := by decide +kernel
theorem dX5_sortByWeights_102 : decode cX5_sortByWeights 102 = .ok (.lastore, 1) := by decide +kernel
theorem dX5_sortByWeights_103 : decode cX5_sortByWeights 103 = .ok (.aload_n 0, 1) := by decide +kernel
theorem dX5_sortByWeights_104 : decode cX5_sortByWeights 104 = .ok (.getfield 9, 3) := by decide +kernel
theorem dX5_sortByWeights_107 : decode cX5_sortByWeights 107 = .ok (.invokevirtual 75, 3) := by decide +kernel
theorem dX5_sortByWeights_110 : decode cX5_sortByWeights 110 = .ok (.iinc 5 1, 3) := by decide +kernel
theorem dX5_sortByWeights_113 : decode cX5_sortByWeights 113 = .ok (.goto (-75), 3) := by decide +kernel
theorem dX5_sortByWeights_116 : decode cX5_sortByWeights 116 = .ok (.return_, 1) := by decide +kernel
theorem dX5_takeWeights_0 : decode cX5_takeWeights 0 = .ok (.iconst 0, 1) := by decide +kernel
theorem dX5_takeWeights_1 : decode cX5_takeWeights 1 = .ok (.istore_n 3, 1) := by decide +kernel
theorem dX5_takeWeights_2 : decode cX5_takeWeights 2 = .ok (.iload_n 3, 1) := by decide +kernel
theorem dX5_takeWeights_3 : decode cX5_takeWeights 3 = .ok (.iload_n 2, 1) := by decide +kernel
theorem dX5_takeWeights_4 : decode cX5_takeWeights 4 = .ok (.if_icmp .ge 75, 3) := by decide +kernel
theorem dX5_takeWeights_7 : decode cX5_takeWeights 7 = .ok (.iload_n 3, 1) := by decide +kernel
theorem dX5_takeWeights_8 : decode cX5_takeWeights 8 = .ok (.iconst 5, 1) := by decide +kernel
theorem dX5_takeWeights_9 : decode cX5_takeWeights 9 = .ok (.if_icmp .ge 70, 3) := by decide +kernel
theorem dX5_takeWeights_12 : decode cX5_takeWeights 12 = .ok (.aload_n 0, 1) := by decide +kernel
theorem dX5_takeWeights_13 : decode cX5_takeWeights 13 = .ok (.getfield 38, 3) := by decide +kernel
theorem dX5_takeWeights_16 : decode cX5_takeWeights 16 = .ok (.iload_n 3, 1) := by decide +kernel
theorem dX5_takeWeights_17 : decode cX5_takeWeights 17 = .ok (.iload_n 1, 1) := by decide +kernel
theorem dX5_takeWeights_18 : decode cX5_takeWeights 18 = .ok (.iconst 2, 1) := by decide +kernel
theorem dX5_takeWeights_19 : decode cX5_takeWeights 19 = .ok (.iload_n 2, 1) := by decide +kernel
theorem dX5_takeWeights_20 : decode cX5_takeWeights 20 = .ok (.iconst 1, 1) := by decide +kernel
theorem dX5_takeWeights_21 : decode cX5_takeWeights 21 = .ok (.isub, 1) := by decide +kernel
theorem dX5_takeWeights_22 : decode cX5_takeWeights 22 = .ok (.iload_n 3, 1) := by decide +kernel
theorem dX5_takeWeights_23 : decode cX5_takeWeights 23 = .ok (.isub, 1) := by decide +kernel
theorem dX5_takeWeights_24 : decode cX5_takeWeights 24 = .ok (.imul, 1) := by decide +kernel
theorem dX5_takeWeights_25 : decode cX5_takeWeights 25 = .ok (.ishr, 1) := by decide +kernel
theorem dX5_takeWeights_26 : decode cX5_takeWeights 26 = .ok (.iconst 3, 1) := by decide +kernel
theorem dX5_takeWeights_27 : decode cX5_takeWeights 27 = .ok (.iand, 1) := by decide +kernel
theorem dX5_takeWeights_28 : decode cX5_takeWeights 28 = .ok (.iastore, 1) := by decide +kernel
theorem dX5_takeWeights_29 : decode cX5_takeWeights 29 = .ok (.iconst 1, 1) := by decide +kernel
theorem dX5_takeWeights_30 : decode cX5_takeWeights 30 = .ok (.iload_n 3, 1) := by decide +kernel
theorem dX5_takeWeights_31 : decode cX5_takeWeights 31 = .ok (.ishl, 1) := by decide +kernel
theorem dX5_takeWeights_32 : decode cX5_takeWeights 32 = .ok (.istore 4, 2) := by decide +kernel
theorem dX5_takeWeights_34 : decode cX5_takeWeights 34 = .ok (.iload 4, 2) := by decide +kernel
theorem dX5_takeWeights_36 : decode cX5_takeWeights 36 = .ok (.iconst 2, 1) := by decide +kernel
theorem dX5_takeWeights_37 : decode cX5_takeWeights 37 = .ok (.iload_n 3, 1) := by decide +kernel
theorem dX5_takeWeights_38 : decode cX5_takeWeights 38 = .ok (.ishl, 1) := by decide +kernel
theorem dX5_takeWeights_39 : decode cX5_takeWeights 39 = .ok (.if_icmp .ge 34, 3) := by decide +kernel
theorem dX5_takeWeights_42 : decode cX5_takeWeights 42 = .ok (.aload_n 0, 1) := by decide +kernel
theorem dX5_takeWeights_43 : decode cX5_takeWeights 43 = .ok (.getfield 31, 3) := by decide +kernel
theorem dX5_takeWeights_46 : decode cX5_takeWeights 46 = .ok (.iload 4, 2) := by decide +kernel
theorem dX5_takeWeights_48 : decode cX5_takeWeights 48 = .ok (.aload_n 0, 1) := by decide +kernel
theorem dX5_takeWeights_49 : decode cX5_takeWeights 49 = .ok (.getfield 31, 3) := by decide +kernel
theorem dX5_takeWeights_52 : decode cX5_takeWeights 52 = .ok (.iload 4, 2) := by decide +kernel
theorem dX5_takeWeights_54 : decode cX5_takeWeights 54 = .ok (.iconst 1, 1) := by decide +kernel
theorem dX5_takeWeights_55 : decode cX5_takeWeights 55 = .ok (.iload_n 3, 1) := by decide +kernel
theorem dX5_takeWeights_56 : decode cX5_takeWeights 56 = .ok (.ishl, 1) := by decide +kernel
theorem dX5_takeWeights_57 : decode cX5_takeWeights 57 = .ok (.isub, 1) := by decide +kernel
theorem dX5_takeWeights_58 : decode cX5_takeWeights 58 = .ok (.iaload, 1) := by decide +kernel
theorem dX5_takeWeights_59 : decode cX5_takeWeights 59 = .ok (.aload_n 0, 1) := by decide +kernel
theorem dX5_takeWeights_60 : decode cX5_takeWeights 60 = .ok (.getfield 38, 3) := by decide +kernel
theorem dX5_takeWeights_63 : decode cX5_takeWeights 63 = .ok (.iload_n 3, 1) := by decide +kernel
theorem dX5_takeWeights_64 : decode cX5_takeWeights 64 = .ok (.iaload, 1) := by decide +kernel
theorem dX5_takeWeights_65 : decode cX5_takeWeights 65 = .ok (.iadd, 1) := by decide +kernel
theorem dX5_takeWeights_66 : decode cX5_takeWeights 66 = .ok (.iastore, 1) := by decide +kernel
theorem dX5_takeWeights_67 : decode cX5_takeWeights 67 = .ok (.iinc 4 1, 3) := by decide +kernel
theorem dX5_takeWeights_70 : decode cX5_takeWeights 70 = .ok (.goto (-36), 3) := by decide +kernel
theorem dX5_takeWeights_73 : decode cX5_takeWeights 73 = .ok (.iinc 3 1, 3) := by decide +kernel
theorem dX5_takeWeights_76 : decode cX5_takeWeights 76 = .ok (.goto (-74), 3) := by decide +kernel
theorem dX5_takeWeights_79 : decode cX5_takeWeights 79 = .ok (.return_, 1) := by decide +kernel
theorem dX5_tryNeeds_0 : decode cX5_tryNeeds 0 = .ok (.iconst 1, 1) := by decide +kernel
theorem dX5_tryNeeds_1 : decode cX5_tryNeeds 1 = .ok (.istore_n 2, 1) := by decide +kernel
theorem dX5_tryNeeds_2 : decode cX5_tryNeeds 2 = .ok (.iload_n 2, 1) := by decide +kernel
theorem dX5_tryNeeds_3 : decode cX5_tryNeeds 3 = .ok (.bipush 16, 2) := by decide +kernel
theorem dX5_tryNeeds_5 : decode cX5_tryNeeds 5 = .ok (.if_icmp .ge 89, 3) := by decide +kernel
theorem dX5_tryNeeds_8 : decode cX5_tryNeeds 8 = .ok (.iconst 0, 1) := by decide +kernel
theorem dX5_tryNeeds_9 : decode cX5_tryNeeds 9 = .ok (.istore_n 3, 1) := by decide +kernel
theorem dX5_tryNeeds_10 : decode cX5_tryNeeds 10 = .ok (.iload_n 3, 1) := by decide +kernel
theorem dX5_tryNeeds_11 : decode cX5_tryNeeds 11 = .ok (.aload_n 1, 1) := by decide +kernel
theorem dX5_tryNeeds_12 : decode cX5_tryNeeds 12 = .ok (.getfield 101, 3) := by decide +kernel
theorem dX5_tryNeeds_15 : decode cX5_tryNeeds 15 = .ok (.if_icmp .ge 73, 3) := by decide +kernel
theorem dX5_tryNeeds_18 : decode cX5_tryNeeds 18 = .ok (.iconst 0, 1) := by decide +kernel
theorem dX5_tryNeeds_19 : decode cX5_tryNeeds 19 = .ok (.istore 4, 2) := by decide +kernel
theorem dX5_tryNeeds_21 : decode cX5_tryNeeds 21 = .ok (.iload 4, 2) := by decide +kernel
theorem dX5_tryNeeds_23 : decode cX5_tryNeeds 23 = .ok (.aload_n 1, 1) := by decide +kernel
theorem dX5_tryNeeds_24 : decode cX5_tryNeeds 24 = .ok (.getfield 101, 3) := by decide +kernel
theorem dX5_tryNeeds_27 : decode cX5_tryNeeds 27 = .ok (.if_icmp .ge 55, 3) := by decide +kernel
theorem dX5_tryNeeds_30 : decode cX5_tryNeeds 30 = .ok (.iload_n 3, 1) := by decide +kernel
theorem dX5_tryNeeds_31 : decode cX5_tryNeeds 31 = .ok (.iload 4, 2) := by decide +kernel
theorem dX5_tryNeeds_33 : decode cX5_tryNeeds 33 = .ok (.if_icmp .eq 43, 3) := by decide +kernel
theorem dX5_tryNeeds_36 : decode cX5_tryNeeds 36 = .ok (.aload_n 0, 1) := by decide +kernel
theorem dX5_tryNeeds_37 : decode cX5_tryNeeds 37 = .ok (.iload_n 2, 1) := by decide +kernel
theorem dX5_tryNeeds_38 : decode cX5_tryNeeds 38 = .ok (.iload_n 3, 1) := by decide +kernel
theorem dX5_tryNeeds_39 : decode cX5_tryNeeds 39 = .ok (.iload 4, 2) := by decide +kernel
theorem dX5_tryNeeds_41 : decode cX5_tryNeeds 41 = .ok (.invokevirtual 107, 3) := by decide +kernel
theorem dX5_tryNeeds_44 : decode cX5_tryNeeds 44 = .ok (.aload_n 0, 1) := by decide +kernel
theorem dX5_tryNeeds_45 : decode cX5_tryNeeds 45 = .ok (.getfield 84, 3) := by decide +kernel
theorem dX5_tryNeeds_48 : decode cX5_tryNeeds 48 = .ok (.lcmp, 1) := by decide +kernel
theorem dX5_tryNeeds_49 : decode cX5_tryNeeds 49 = .ok (.ifCond .ge 27, 3) := by decide +kernel
theorem dX5_tryNeeds_52 : decode cX5_tryNeeds 52 = .ok (.aload_n 0, 1) := by decide +kernel
theorem dX5_tryNeeds_53 : decode cX5_tryNeeds 53 = .ok (.aload_n 0, 1) := by decide +kernel
theorem dX5_tryNeeds_54 : decode cX5_tryNeeds 54 = .ok (.iload_n 2, 1) := by decide +kernel
theorem dX5_tryNeeds_55 : decode cX5_tryNeeds 55 = .ok (.iload_n 3, 1) := by decide +kernel
theorem dX5_tryNeeds_56 : decode cX5_tryNeeds 56 = .ok (.iload 4, 2) := by decide +kernel
theorem dX5_tryNeeds_58 : decode cX5_tryNeeds 58 = .ok (.invokevirtual 107, 3) := by decide +kernel
theorem dX5_tryNeeds_61 : decode cX5_tryNeeds 61 = .ok (.putfield 84, 3) := by decide +kernel
theorem dX5_tryNeeds_64 : decode cX5_tryNeeds 64 = .ok (.aload_n 0, 1) := by decide +kernel
theorem dX5_tryNeeds_65 : decode cX5_tryNeeds 65 = .ok (.aload_n 1, 1) := by decide +kernel
theorem dX5_tryNeeds_66 : decode cX5_tryNeeds 66 = .ok (.getfield 87, 3) := by decide +kernel
theorem dX5_tryNeeds_69 : decode cX5_tryNeeds 69 = .ok (.iload_n 2, 1) := by decide +kernel
theorem dX5_tryNeeds_70 : decode cX5_tryNeeds 70 = .ok (.iload_n 3, 1) := by decide +kernel
theorem dX5_tryNeeds_71 : decode cX5_tryNeeds 71 = .ok (.iload 4, 2) := by decide +kernel
theorem dX5_tryNeeds_73 : decode cX5_tryNeeds 73 = .ok (.invokevirtual 111, 3) := by decide +kernel
theorem dX5_tryNeeds_76 : decode cX5_tryNeeds 76 = .ok (.iinc 4 1, 3) := by decide +kernel
theorem dX5_tryNeeds_79 : decode cX5_tryNeeds 79 = .ok (.goto (-58), 3) := by decide +kernel
theorem dX5_tryNeeds_82 : decode cX5_tryNeeds 82 = .ok (.iinc 3 1, 3) := by decide +kernel
theorem dX5_tryNeeds_85 : decode cX5_tryNeeds 85 = .ok (.goto (-75), 3) := by decide +kernel
theorem dX5_tryNeeds_88 : decode cX5_tryNeeds 88 = .ok (.iinc 2 1, 3) := by decide +kernel
theorem dX5_tryNeeds_91 : decode cX5_tryNeeds 91 = .ok (.goto (-89), 3) := by decide +kernel
theorem dX5_tryNeeds_94 : decode cX5_tryNeeds 94 = .ok (.return_, 1) := by decide +kernel
theorem dX5_weighAll_0 : decode cX5_weighAll 0 = .ok (.aload_n 0, 1) := by decide +kernel
theorem dX5_weighAll_1 : decode cX5_weighAll 1 = .ok (.aload_n 1, 1) := by decide +kernel
theorem dX5_weighAll_2 : decode cX5_weighAll 2 = .ok (.invokevirtual 78, 3) := by decide +kernel
theorem dX5_weighAll_5 : decode cX5_weighAll 5 = .ok (.aload_n 0, 1) := by decide +kernel
theorem dX5_weighAll_6 : decode cX5_weighAll 6 = .ok (.ldc2_w 82, 3) := by decide +kernel
theorem dX5_weighAll_9 : decode cX5_weighAll 9 = .ok (.putfield 84, 3) := by decide +kernel
theorem dX5_weighAll_12 : decode cX5_weighAll 12 = .ok (.iconst 1, 1) := by decide +kernel
theorem dX5_weighAll_13 : decode cX5_weighAll 13 = .ok (.iconst 2, 1) := by decide +kernel
theorem dX5_weighAll_14 : decode cX5_weighAll 14 = .ok (.aload_n 1, 1) := by decide +kernel
theorem dX5_weighAll_15 : decode cX5_weighAll 15 = .ok (.getfield 87, 3) := by decide +kernel
theorem dX5_weighAll_18 : decode cX5_weighAll 18 = .ok (.imul, 1) := by decide +kernel
theorem dX5_weighAll_19 : decode cX5_weighAll 19 = .ok (.ishl, 1) := by decide +kernel
theorem dX5_weighAll_20 : decode cX5_weighAll 20 = .ok (.istore_n 2, 1) := by decide +kernel
theorem dX5_weighAll_21 : decode cX5_weighAll 21 = .ok (.iconst 0, 1) := by decide +kernel
theorem dX5_weighAll_22 : decode cX5_weighAll 22 = .ok (.istore_n 3, 1) := by decide +kernel
theorem dX5_weighAll_23 : decode cX5_weighAll 23 = .ok (.iload_n 3, 1) := by decide +kernel
theorem dX5_weighAll_24 : decode cX5_weighAll 24 = .ok (.iload_n 2, 1) := by decide +kernel
theorem dX5_weighAll_25 : decode cX5_weighAll 25 = .ok (.if_icmp .ge 28, 3) := by decide +kernel
theorem dX5_weighAll_28 : decode cX5_weighAll 28 = .ok (.aload_n 0, 1) := by decide +kernel
theorem dX5_weighAll_29 : decode cX5_weighAll 29 = .ok (.iload_n 3, 1) := by decide +kernel
theorem dX5_weighAll_30 : decode cX5_weighAll 30 = .ok (.aload_n 1, 1) := by decide +kernel
theorem dX5_weighAll_31 : decode cX5_weighAll 31 = .ok (.getfield 87, 3) := by decide +kernel
theorem dX5_weighAll_34 : decode cX5_weighAll 34 = .ok (.invokevirtual 91, 3) := by decide +kernel
theorem dX5_weighAll_37 : decode cX5_weighAll 37 = .ok (.aload_n 0, 1) := by decide +kernel
theorem dX5_weighAll_38 : decode cX5_weighAll 38 = .ok (.aload_n 1, 1) := by decide +kernel
theorem dX5_weighAll_39 : decode cX5_weighAll 39 = .ok (.invokevirtual 95, 3) := by decide +kernel
theorem dX5_weighAll_42 : decode cX5_weighAll 42 = .ok (.aload_n 0, 1) := by decide +kernel
theorem dX5_weighAll_43 : decode cX5_weighAll 43 = .ok (.aload_n 1, 1) := by decide +kernel
theorem dX5_weighAll_44 : decode cX5_weighAll 44 = .ok (.invokevirtual 98, 3) := by decide +kernel
theorem dX5_weighAll_47 : decode cX5_weighAll 47 = .ok (.iinc 3 1, 3) := by decide +kernel
theorem dX5_weighAll_50 : decode cX5_weighAll 50 = .ok (.goto (-27), 3) := by decide +kernel
theorem dX5_weighAll_53 : decode cX5_weighAll 53 = .ok (.aload_n 0, 1) := by decide +kernel
theorem dX5_weighAll_54 : decode cX5_weighAll 54 = .ok (.getfield 84, 3) := by decide +kernel
theorem dX5_weighAll_57 : decode cX5_weighAll 57 = .ok (.lreturn, 1) := by decide +kernel
theorem dX6_draw_0 : decode cX6_draw 0 = .ok (.aload_n 0, 1) := by decide +kernel
theorem dX6_draw_1 : decode cX6_draw 1 = .ok (.aload_n 0, 1) := by decide +kernel
theorem dX6_draw_2 : decode cX6_draw 2 = .ok (.getfield 15, 3) := by decide +kernel
theorem dX6_draw_5 : decode cX6_draw 5 = .ok (.ldc 49, 2) := by decide +kernel
theorem dX6_draw_7 : decode cX6_draw 7 = .ok (.imul, 1) := by decide +kernel
theorem dX6_draw_8 : decode cX6_draw 8 = .ok (.sipush 12345, 3) := by decide +kernel
theorem dX6_draw_11 : decode cX6_draw 11 = .ok (.iadd, 1) := by decide +kernel
theorem dX6_draw_12 : decode cX6_draw 12 = .ok (.putfield 15, 3) := by decide +kernel
theorem dX6_draw_15 : decode cX6_draw 15 = .ok (.aload_n 0, 1) := by decide +kernel
theorem dX6_draw_16 : decode cX6_draw 16 = .ok (.getfield 15, 3) := by decide +kernel
theorem dX6_draw_19 : decode cX6_draw 19 = .ok (.bipush 8, 2) := by decide +kernel
theorem dX6_draw_21 : decode cX6_draw 21 = .ok (.iushr, 1) := by decide +kernel
theorem dX6_draw_22 : decode cX6_draw 22 = .ok (.bipush 20, 2) := by decide +kernel
theorem dX6_draw_24 : decode cX6_draw 24 = .ok (.irem, 1) := by decide +kernel
theorem dX6_draw_25 : decode cX6_draw 25 = .ok (.istore 4, 2) := by decide +kernel
theorem dX6_draw_27 : decode cX6_draw 27 = .ok (.iconst 0, 1) := by decide +kernel
theorem dX6_draw_28 : decode cX6_draw 28 = .ok (.istore 5, 2) := by decide +kernel
theorem dX6_draw_30 : decode cX6_draw 30 = .ok (.iconst 0, 1) := by decide +kernel
theorem dX6_draw_31 : decode cX6_draw 31 = .ok (.istore 6, 2) := by decide +kernel
theorem dX6_draw_33 : decode cX6_draw 33 = .ok (.iload 6, 2) := by decide +kernel
theorem dX6_draw_35 : decode cX6_draw 35 = .ok (.iload_n 3, 1) := by decide +kernel
theorem dX6_draw_36 : decode cX6_draw 36 = .ok (.iconst 1, 1) := by decide +kernel
theorem dX6_draw_37 : decode cX6_draw 37 = .ok (.isub, 1) := by decide +kernel
theorem dX6_draw_38 : decode cX6_draw 38 = .ok (.if_icmp .ge 30, 3) := by decide +kernel
theorem dX6_draw_41 : decode cX6_draw 41 = .ok (.iload 5, 2) := by decide +kernel
theorem dX6_draw_43 : decode cX6_draw 43 = .ok (.aload_n 1, 1) := by decide +kernel
theorem dX6_draw_44 : decode cX6_draw 44 = .ok (.iload_n 2, 1) := by decide +kernel
theorem dX6_draw_45 : decode cX6_draw 45 = .ok (.iload 6, 2) := by decide +kernel
theorem dX6_draw_47 : decode cX6_draw 47 = .ok (.iadd, 1) := by decide +kernel
theorem dX6_draw_48 : decode cX6_draw 48 = .ok (.iaload, 1) := by decide +kernel
theorem dX6_draw_49 : decode cX6_draw 49 = .ok (.iadd, 1) := by decide +kernel
theorem dX6_draw_50 : decode cX6_draw 50 = .ok (.istore 5, 2) := by decide +kernel
theorem dX6_draw_52 : decode cX6_draw 52 = .ok (.iload 5, 2) := by decide +kernel
theorem dX6_draw_54 : decode cX6_draw 54 = .ok (.iload 4, 2) := by decide +kernel
theorem dX6_draw_56 : decode cX6_draw 56 = .ok (.if_icmp .le 6, 3) := by decide +kernel
theorem dX6_draw_59 : decode cX6_draw 59 = .ok (.iload 6, 2) := by decide +kernel
theorem dX6_draw_61 : decode cX6_draw 61 = .ok (.ireturn, 1) := by decide +kernel
theorem dX6_draw_62 : decode cX6_draw 62 = .ok (.iinc 6 1, 3) := by decide +kernel
theorem dX6_draw_65 : decode cX6_draw 65 = .ok (.goto (-32), 3) := by decide +kernel
theorem dX6_draw_68 : decode cX6_draw 68 = .ok (.iload_n 3, 1) := by decide +kernel
theorem dX6_draw_69 : decode cX6_draw 69 = .ok (.iconst 1, 1) := by decide +kernel
theorem dX6_draw_70 : decode cX6_draw 70 = .ok (.isub, 1) := by decide +kernel
theorem dX6_draw_71 : decode cX6_draw 71 = .ok (.ireturn, 1) := by decide +kernel
theorem dX6_init_0 : decode cX6_init 0 = .ok (.aload_n 0, 1) := by decide +kernel
theorem dX6_init_1 : decode cX6_init 1 = .ok (.invokespecial 3, 3) := by decide +kernel
theorem dX6_init_4 : decode cX6_init 4 = .ok (.aload_n 0, 1) := by decide +kernel
theorem dX6_init_5 : decode cX6_init 5 = .ok (.bipush 7, 2) := by decide +kernel
theorem dX6_init_7 : decode cX6_init 7 = .ok (.newarray .int, 2) := by decide +kernel
theorem dX6_init_9 : decode cX6_init 9 = .ok (.putfield 9, 3) := by decide +kernel
theorem dX6_init_12 : decode cX6_init 12 = .ok (.return_, 1) := by decide +kernel
theorem dX6_rightOf_0 : decode cX6_rightOf 0 = .ok (.aload_n 0, 1) := by decide +kernel
theorem dX6_rightOf_1 : decode cX6_rightOf 1 = .ok (.iload_n 2, 1) := by decide +kernel
theorem dX6_rightOf_2 : decode cX6_rightOf 2 = .ok (.putfield 15, 3) := by decide +kernel
theorem dX6_rightOf_5 : decode cX6_rightOf 5 = .ok (.iconst 0, 1) := by decide +kernel
theorem dX6_rightOf_6 : decode cX6_rightOf 6 = .ok (.istore 4, 2) := by decide +kernel
theorem dX6_rightOf_8 : decode cX6_rightOf 8 = .ok (.iconst 0, 1) := by decide +kernel
theorem dX6_rightOf_9 : decode cX6_rightOf 9 = .ok (.istore 5, 2) := by decide +kernel
theorem dX6_rightOf_11 : decode cX6_rightOf 11 = .ok (.iload 5, 2) := by decide +kernel
theorem dX6_rightOf_13 : decode cX6_rightOf 13 = .ok (.iload_n 3, 1) := by decide +kernel
theorem dX6_rightOf_14 : decode cX6_rightOf 14 = .ok (.if_icmp .ge 93, 3) := by decide +kernel
theorem dX6_rightOf_17 : decode cX6_rightOf 17 = .ok (.aload_n 0, 1) := by decide +kernel
theorem dX6_rightOf_18 : decode cX6_rightOf 18 = .ok (.aload_n 1, 1) := by decide +kernel
theorem dX6_rightOf_19 : decode cX6_rightOf 19 = .ok (.getfield 19, 3) := by decide +kernel
theorem dX6_rightOf_22 : decode cX6_rightOf 22 = .ok (.iconst 0, 1) := by decide +kernel
theorem dX6_rightOf_23 : decode cX6_rightOf 23 = .ok (.aload_n 1, 1) := by decide +kernel
theorem dX6_rightOf_24 : decode cX6_rightOf 24 = .ok (.getfield 24, 3) := by decide +kernel
theorem dX6_rightOf_27 : decode cX6_rightOf 27 = .ok (.invokevirtual 27, 3) := by decide +kernel
theorem dX6_rightOf_30 : decode cX6_rightOf 30 = .ok (.istore 6, 2) := by decide +kernel
theorem dX6_rightOf_32 : decode cX6_rightOf 32 = .ok (.iconst 0, 1) := by decide +kernel
theorem dX6_rightOf_33 : decode cX6_rightOf 33 = .ok (.istore 7, 2) := by decide +kernel
theorem dX6_rightOf_35 : decode cX6_rightOf 35 = .ok (.iload 7, 2) := by decide +kernel
theorem dX6_rightOf_37 : decode cX6_rightOf 37 = .ok (.aload_n 1, 1) := by decide +kernel
theorem dX6_rightOf_38 : decode cX6_rightOf 38 = .ok (.getfield 31, 3) := by decide +kernel
theorem dX6_rightOf_41 : decode cX6_rightOf 41 = .ok (.if_icmp .ge 44, 3) := by decide +kernel
theorem dX6_rightOf_44 : decode cX6_rightOf 44 = .ok (.aload_n 0, 1) := by decide +kernel
theorem dX6_rightOf_45 : decode cX6_rightOf 45 = .ok (.getfield 9, 3) := by decide +kernel
theorem dX6_rightOf_48 : decode cX6_rightOf 48 = .ok (.iload 7, 2) := by decide +kernel
theorem dX6_rightOf_50 : decode cX6_rightOf 50 = .ok (.aload_n 0, 1) := by decide +kernel
theorem dX6_rightOf_51 : decode cX6_rightOf 51 = .ok (.aload_n 1, 1) := by decide +kernel
theorem dX6_rightOf_52 : decode cX6_rightOf 52 = .ok (.getfield 34, 3) := by decide +kernel
theorem dX6_rightOf_55 : decode cX6_rightOf 55 = .ok (.iload 7, 2) := by decide +kernel
theorem dX6_rightOf_57 : decode cX6_rightOf 57 = .ok (.aaload, 1) := by decide +kernel
theorem dX6_rightOf_58 : decode cX6_rightOf 58 = .ok (.getfield 38, 3) := by decide +kernel
theorem dX6_rightOf_61 : decode cX6_rightOf 61 = .ok (.iload 6, 2) := by decide +kernel
theorem dX6_rightOf_63 : decode cX6_rightOf 63 = .ok (.iconst 3, 1) := by decide +kernel
theorem dX6_rightOf_64 : decode cX6_rightOf 64 = .ok (.imul, 1) := by decide +kernel
theorem dX6_rightOf_65 : decode cX6_rightOf 65 = .ok (.aload_n 1, 1) := by decide +kernel
theorem dX6_rightOf_66 : decode cX6_rightOf 66 = .ok (.getfield 34, 3) := by decide +kernel
theorem dX6_rightOf_69 : decode cX6_rightOf 69 = .ok (.iload 7, 2) := by decide +kernel
theorem dX6_rightOf_71 : decode cX6_rightOf 71 = .ok (.aaload, 1) := by decide +kernel
theorem dX6_rightOf_72 : decode cX6_rightOf 72 = .ok (.getfield 43, 3) := by decide +kernel
theorem dX6_rightOf_75 : decode cX6_rightOf 75 = .ok (.invokevirtual 27, 3) := by decide +kernel
theorem dX6_rightOf_78 : decode cX6_rightOf 78 = .ok (.iastore, 1) := by decide +kernel
theorem dX6_rightOf_79 : decode cX6_rightOf 79 = .ok (.iinc 7 1, 3) := by decide +kernel
theorem dX6_rightOf_82 : decode cX6_rightOf 82 = .ok (.goto (-47), 3) := by decide +kernel
theorem dX6_rightOf_85 : decode cX6_rightOf 85 = .ok (.aload_n 1, 1) := by decide +kernel
theorem dX6_rightOf_86 : decode cX6_rightOf 86 = .ok (.aload_n 0, 1) := by decide +kernel
theorem dX6_rightOf_87 : decode cX6_rightOf 87 = .ok (.getfield 9, 3) := by decide +kernel
theorem dX6_rightOf_90 : decode cX6_rightOf 90 = .ok (.invokevirtual 45, 3) := by decide +kernel
theorem dX6_rightOf_93 : decode cX6_rightOf 93 = .ok (.iload 6, 2) := by decide +kernel
theorem dX6_rightOf_95 : decode cX6_rightOf 95 = .ok (.if_icmp .ne 6, 3) := by decide +kernel
theorem dX6_rightOf_98 : decode cX6_rightOf 98 = .ok (.iinc 4 1, 3) := by decide +kernel
theorem dX6_rightOf_101 : decode cX6_rightOf 101 = .ok (.iinc 5 1, 3) := by decide +kernel
theorem dX6_rightOf_104 : decode cX6_rightOf 104 = .ok (.goto (-93), 3) := by decide +kernel
theorem dX6_rightOf_107 : decode cX6_rightOf 107 = .ok (.iload 4, 2) := by decide +kernel
theorem dX6_rightOf_109 : decode cX6_rightOf 109 = .ok (.ireturn, 1) := by decide +kernel
theorem dX7_add_0 : decode cX7_add 0 = .ok (.bipush 24, 2) := by decide +kernel
theorem dX7_add_2 : decode cX7_add 2 = .ok (.istore_n 2, 1) := by decide +kernel
theorem dX7_add_3 : decode cX7_add 3 = .ok (.iload_n 2, 1) := by decide +kernel
theorem dX7_add_4 : decode cX7_add 4 = .ok (.ifCond .lt 45, 3) := by decide +kernel
theorem dX7_add_7 : decode cX7_add 7 = .ok (.aload_n 0, 1) := by decide +kernel
theorem dX7_add_8 : decode cX7_add 8 = .ok (.getfield 15, 3) := by decide +kernel
theorem dX7_add_11 : decode cX7_add 11 = .ok (.sipush 740, 3) := by decide +kernel
theorem dX7_add_14 : decode cX7_add 14 = .ok (.if_icmp .ge 29, 3) := by decide +kernel
theorem dX7_add_17 : decode cX7_add 17 = .ok (.aload_n 0, 1) := by decide +kernel
theorem dX7_add_18 : decode cX7_add 18 = .ok (.getfield 11, 3) := by decide +kernel
theorem dX7_add_21 : decode cX7_add 21 = .ok (.aload_n 0, 1) := by decide +kernel
theorem dX7_add_22 : decode cX7_add 22 = .ok (.getfield 15, 3) := by decide +kernel
theorem dX7_add_25 : decode cX7_add 25 = .ok (.iload_n 1, 1) := by decide +kernel
theorem dX7_add_26 : decode cX7_add 26 = .ok (.iload_n 2, 1) := by decide +kernel
theorem dX7_add_27 : decode cX7_add 27 = .ok (.iushr, 1) := by decide +kernel
theorem dX7_add_28 : decode cX7_add 28 = .ok (.sipush 255, 3) := by decide +kernel
theorem dX7_add_31 : decode cX7_add 31 = .ok (.iand, 1) := by decide +kernel
theorem dX7_add_32 : decode cX7_add 32 = .ok (.iastore, 1) := by decide +kernel
theorem dX7_add_33 : decode cX7_add 33 = .ok (.aload_n 0, 1) := by decide +kernel
theorem dX7_add_34 : decode cX7_add 34 = .ok (.dup, 1) := by decide +kernel
theorem dX7_add_35 : decode cX7_add 35 = .ok (.getfield 15, 3) := by decide +kernel
theorem dX7_add_38 : decode cX7_add 38 = .ok (.iconst 1, 1) := by decide +kernel
theorem dX7_add_39 : decode cX7_add 39 = .ok (.iadd, 1) := by decide +kernel
theorem dX7_add_40 : decode cX7_add 40 = .ok (.putfield 15, 3) := by decide +kernel
theorem dX7_add_43 : decode cX7_add 43 = .ok (.iinc 2 (-8), 3) := by decide +kernel
theorem dX7_add_46 : decode cX7_add 46 = .ok (.goto (-43), 3) := by decide +kernel
theorem dX7_add_49 : decode cX7_add 49 = .ok (.return_, 1) := by decide +kernel
theorem dX7_clear_0 : decode cX7_clear 0 = .ok (.aload_n 0, 1) := by decide +kernel
theorem dX7_clear_1 : decode cX7_clear 1 = .ok (.iconst 0, 1) := by decide +kernel
theorem dX7_clear_2 : decode cX7_clear 2 = .ok (.putfield 15, 3) := by decide +kernel
theorem dX7_clear_5 : decode cX7_clear 5 = .ok (.return_, 1) := by decide +kernel
theorem dX7_cut_0 : decode cX7_cut 0 = .ok (.iload_n 1, 1) := by decide +kernel
theorem dX7_cut_1 : decode cX7_cut 1 = .ok (.ifCond .lt 11, 3) := by decide +kernel
theorem dX7_cut_4 : decode cX7_cut 4 = .ok (.iload_n 1, 1) := by decide +kernel
theorem dX7_cut_5 : decode cX7_cut 5 = .ok (.aload_n 0, 1) := by decide +kernel
theorem dX7_cut_6 : decode cX7_cut 6 = .ok (.getfield 15, 3) := by decide +kernel
theorem dX7_cut_9 : decode cX7_cut 9 = .ok (.if_icmp .le 5, 3) := by decide +kernel
theorem dX7_cut_12 : decode cX7_cut 12 = .ok (.iconst 0, 1) := by decide +kernel
theorem dX7_cut_13 : decode cX7_cut 13 = .ok (.ireturn, 1) := by decide +kernel
theorem dX7_cut_14 : decode cX7_cut 14 = .ok (.aload_n 0, 1) := by decide +kernel
theorem dX7_cut_15 : decode cX7_cut 15 = .ok (.iload_n 1, 1) := by decide +kernel
theorem dX7_cut_16 : decode cX7_cut 16 = .ok (.putfield 15, 3) := by decide +kernel
theorem dX7_cut_19 : decode cX7_cut 19 = .ok (.iconst 1, 1) := by decide +kernel
theorem dX7_cut_20 : decode cX7_cut 20 = .ok (.ireturn, 1) := by decide +kernel
theorem dX7_init_0 : decode cX7_init 0 = .ok (.aload_n 0, 1) := by decide +kernel
theorem dX7_init_1 : decode cX7_init 1 = .ok (.invokespecial 3, 3) := by decide +kernel
theorem dX7_init_4 : decode cX7_init 4 = .ok (.aload_n 0, 1) := by decide +kernel
theorem dX7_init_5 : decode cX7_init 5 = .ok (.sipush 740, 3) := by decide +kernel
theorem dX7_init_8 : decode cX7_init 8 = .ok (.newarray .int, 2) := by decide +kernel
theorem dX7_init_10 : decode cX7_init 10 = .ok (.putfield 11, 3) := by decide +kernel
theorem dX7_init_13 : decode cX7_init 13 = .ok (.return_, 1) := by decide +kernel
theorem dX7_take_0 : decode cX7_take 0 = .ok (.aload_n 0, 1) := by decide +kernel
theorem dX7_take_1 : decode cX7_take 1 = .ok (.getfield 15, 3) := by decide +kernel
theorem dX7_take_4 : decode cX7_take 4 = .ok (.sipush 720, 3) := by decide +kernel
theorem dX7_take_7 : decode cX7_take 7 = .ok (.if_icmp .le 5, 3) := by decide +kernel
theorem dX7_take_10 : decode cX7_take 10 = .ok (.iconst (-1), 1) := by decide +kernel
theorem dX7_take_11 : decode cX7_take 11 = .ok (.ireturn, 1) := by decide +kernel
theorem dX7_take_12 : decode cX7_take 12 = .ok (.aload_n 0, 1) := by decide +kernel
theorem dX7_take_13 : decode cX7_take 13 = .ok (.iload_n 1, 1) := by decide +kernel
theorem dX7_take_14 : decode cX7_take 14 = .ok (.invokevirtual 19, 3) := by decide +kernel
theorem dX7_take_17 : decode cX7_take 17 = .ok (.aload_n 0, 1) := by decide +kernel
theorem dX7_take_18 : decode cX7_take 18 = .ok (.iload_n 2, 1) := by decide +kernel
theorem dX7_take_19 : decode cX7_take 19 = .ok (.invokevirtual 19, 3) := by decide +kernel
theorem dX7_take_22 : decode cX7_take 22 = .ok (.aload_n 0, 1) := by decide +kernel
theorem dX7_take_23 : decode cX7_take 23 = .ok (.iload_n 3, 1) := by decide +kernel
theorem dX7_take_24 : decode cX7_take 24 = .ok (.invokevirtual 19, 3) := by decide +kernel
theorem dX7_take_27 : decode cX7_take 27 = .ok (.aload_n 0, 1) := by decide +kernel
theorem dX7_take_28 : decode cX7_take 28 = .ok (.iload 4, 2) := by decide +kernel
theorem dX7_take_30 : decode cX7_take 30 = .ok (.invokevirtual 19, 3) := by decide +kernel
theorem dX7_take_33 : decode cX7_take 33 = .ok (.aload_n 0, 1) := by decide +kernel
theorem dX7_take_34 : decode cX7_take 34 = .ok (.iload 5, 2) := by decide +kernel
theorem dX7_take_36 : decode cX7_take 36 = .ok (.invokevirtual 19, 3) := by decide +kernel
theorem dX7_take_39 : decode cX7_take 39 = .ok (.aload_n 0, 1) := by decide +kernel
theorem dX7_take_40 : decode cX7_take 40 = .ok (.getfield 15, 3) := by decide +kernel
theorem dX7_take_43 : decode cX7_take 43 = .ok (.ireturn, 1) := by decide +kernel
theorem dX8_cliffAt_0 : decode cX8_cliffAt 0 = .ok (.aload_n 0, 1) := by decide +kernel
theorem dX8_cliffAt_1 : decode cX8_cliffAt 1 = .ok (.iload_n 1, 1) := by decide +kernel
theorem dX8_cliffAt_2 : decode cX8_cliffAt 2 = .ok (.invokevirtual 111, 3) := by decide +kernel
theorem dX8_cliffAt_5 : decode cX8_cliffAt 5 = .ok (.ifCond .ne 5, 3) := by decide +kernel
theorem dX8_cliffAt_8 : decode cX8_cliffAt 8 = .ok (.iconst (-1), 1) := by decide +kernel
theorem dX8_cliffAt_9 : decode cX8_cliffAt 9 = .ok (.ireturn, 1) := by decide +kernel
theorem dX8_cliffAt_10 : decode cX8_cliffAt 10 = .ok (.iload_n 2, 1) := by decide +kernel
theorem dX8_cliffAt_11 : decode cX8_cliffAt 11 = .ok (.iconst (-1), 1) := by decide +kernel
theorem dX8_cliffAt_12 : decode cX8_cliffAt 12 = .ok (.if_icmp .ne 7, 3) := by decide +kernel
theorem dX8_cliffAt_15 : decode cX8_cliffAt 15 = .ok (.iload_n 1, 1) := by decide +kernel
theorem dX8_cliffAt_16 : decode cX8_cliffAt 16 = .ok (.goto 4, 3) := by decide +kernel
theorem dX8_cliffAt_19 : decode cX8_cliffAt 19 = .ok (.iload_n 2, 1) := by decide +kernel
theorem dX8_cliffAt_20 : decode cX8_cliffAt 20 = .ok (.ireturn, 1) := by decide +kernel
theorem dX8_cliffWith_0 : decode cX8_cliffWith 0 = .ok (.iconst (-1), 1) := by decide +kernel
theorem dX8_cliffWith_1 : decode cX8_cliffWith 1 = .ok (.istore_n 2, 1) := by decide +kernel
theorem dX8_cliffWith_2 : decode cX8_cliffWith 2 = .ok (.aload_n 0, 1) := by decide +kernel
theorem dX8_cliffWith_3 : decode cX8_cliffWith 3 = .ok (.invokevirtual 60, 3) := by decide +kernel
theorem dX8_cliffWith_6 : decode cX8_cliffWith 6 = .ok (.iconst 0, 1) := by decide +kernel
theorem dX8_cliffWith_7 : decode cX8_cliffWith 7 = .ok (.istore_n 3, 1) := by decide +kernel
theorem dX8_cliffWith_8 : decode cX8_cliffWith 8 = .ok (.iload_n 3, 1) := by decide +kernel
theorem dX8_cliffWith_9 : decode cX8_cliffWith 9 = .ok (.aload_n 0, 1) := by decide +kernel
theorem dX8_cliffWith_10 : decode cX8_cliffWith 10 = .ok (.getfield 9, 3) := by decide +kernel
theorem dX8_cliffWith_13 : decode cX8_cliffWith 13 = .ok (.getfield 42, 3) := by decide +kernel
theorem dX8_cliffWith_16 : decode cX8_cliffWith 16 = .ok (.if_icmp .ge 23, 3) := by decide +kernel
theorem dX8_cliffWith_19 : decode cX8_cliffWith 19 = .ok (.aload_n 0, 1) := by decide +kernel
theorem dX8_cliffWith_20 : decode cX8_cliffWith 20 = .ok (.iload_n 3, 1) := by decide +kernel
theorem dX8_cliffWith_21 : decode cX8_cliffWith 21 = .ok (.aload_n 1, 1) := by decide +kernel
theorem dX8_cliffWith_22 : decode cX8_cliffWith 22 = .ok (.invokevirtual 119, 3) := by decide +kernel
theorem dX8_cliffWith_25 : decode cX8_cliffWith 25 = .ok (.pop, 1) := by decide +kernel
theorem dX8_cliffWith_26 : decode cX8_cliffWith 26 = .ok (.aload_n 0, 1) := by decide +kernel
theorem dX8_cliffWith_27 : decode cX8_cliffWith 27 = .ok (.iload_n 3, 1) := by decide +kernel
theorem dX8_cliffWith_28 : decode cX8_cliffWith 28 = .ok (.iload_n 2, 1) := by decide +kernel
theorem dX8_cliffWith_29 : decode cX8_cliffWith 29 = .ok (.invokevirtual 78, 3) := by decide +kernel
theorem dX8_cliffWith_32 : decode cX8_cliffWith 32 = .ok (.istore_n 2, 1) := by decide +kernel
theorem dX8_cliffWith_33 : decode cX8_cliffWith 33 = .ok (.iinc 3 1, 3) := by decide +kernel
theorem dX8_cliffWith_36 : decode cX8_cliffWith 36 = .ok (.goto (-28), 3) := by decide +kernel
theorem dX8_cliffWith_39 : decode cX8_cliffWith 39 = .ok (.iload_n 2, 1) := by decide +kernel
theorem dX8_cliffWith_40 : decode cX8_cliffWith 40 = .ok (.ireturn, 1) := by decide +kernel
theorem dX8_endTalk_0 : decode cX8_endTalk 0 = .ok (.iload_n 1, 1) := by decide +kernel
theorem dX8_endTalk_1 : decode cX8_endTalk 1 = .ok (.iconst (-1), 1) := by decide +kernel
theorem dX8_endTalk_2 : decode cX8_endTalk 2 = .ok (.if_icmp .eq 20, 3) := by decide +kernel
theorem dX8_endTalk_5 : decode cX8_endTalk 5 = .ok (.iload_n 1, 1) := by decide +kernel
theorem dX8_endTalk_6 : decode cX8_endTalk 6 = .ok (.aload_n 0, 1) := by decide +kernel
theorem dX8_endTalk_7 : decode cX8_endTalk 7 = .ok (.getfield 9, 3) := by decide +kernel
theorem dX8_endTalk_10 : decode cX8_endTalk 10 = .ok (.getfield 42, 3) := by decide +kernel
theorem dX8_endTalk_13 : decode cX8_endTalk 13 = .ok (.iconst 1, 1) := by decide +kernel
theorem dX8_endTalk_14 : decode cX8_endTalk 14 = .ok (.isub, 1) := by decide +kernel
theorem dX8_endTalk_15 : decode cX8_endTalk 15 = .ok (.if_icmp .ge 7, 3) := by decide +kernel
theorem dX8_endTalk_18 : decode cX8_endTalk 18 = .ok (.iconst 1, 1) := by decide +kernel
theorem dX8_endTalk_19 : decode cX8_endTalk 19 = .ok (.goto 4, 3) := by decide +kernel
theorem dX8_endTalk_22 : decode cX8_endTalk 22 = .ok (.iconst 0, 1) := by decide +kernel
theorem dX8_endTalk_23 : decode cX8_endTalk 23 = .ok (.istore_n 3, 1) := by decide +kernel
theorem dX8_endTalk_24 : decode cX8_endTalk 24 = .ok (.iconst 0, 1) := by decide +kernel
theorem dX8_endTalk_25 : decode cX8_endTalk 25 = .ok (.istore 4, 2) := by decide +kernel
theorem dX8_endTalk_27 : decode cX8_endTalk 27 = .ok (.iload 4, 2) := by decide +kernel
theorem dX8_endTalk_29 : decode cX8_endTalk 29 = .ok (.iconst 3, 1) := by decide +kernel
theorem dX8_endTalk_30 : decode cX8_endTalk 30 = .ok (.if_icmp .ge 80, 3) := by decide +kernel
theorem dX8_endTalk_33 : decode cX8_endTalk 33 = .ok (.aload_n 0, 1) := by decide +kernel
theorem dX8_endTalk_34 : decode cX8_endTalk 34 = .ok (.getfield 22, 3) := by decide +kernel
theorem dX8_endTalk_37 : decode cX8_endTalk 37 = .ok (.aload_n 0, 1) := by decide +kernel
theorem dX8_endTalk_38 : decode cX8_endTalk 38 = .ok (.getfield 9, 3) := by decide +kernel
theorem dX8_endTalk_41 : decode cX8_endTalk 41 = .ok (.getfield 42, 3) := by decide +kernel
theorem dX8_endTalk_44 : decode cX8_endTalk 44 = .ok (.iconst 3, 1) := by decide +kernel
theorem dX8_endTalk_45 : decode cX8_endTalk 45 = .ok (.imul, 1) := by decide +kernel
theorem dX8_endTalk_46 : decode cX8_endTalk 46 = .ok (.iload 4, 2) := by decide +kernel
theorem dX8_endTalk_48 : decode cX8_endTalk 48 = .ok (.iadd, 1) := by decide +kernel
theorem dX8_endTalk_49 : decode cX8_endTalk 49 = .ok (.laload, 1) := by decide +kernel
theorem dX8_endTalk_50 : decode cX8_endTalk 50 = .ok (.lstore 5, 2) := by decide +kernel
theorem dX8_endTalk_52 : decode cX8_endTalk 52 = .ok (.aload_n 0, 1) := by decide +kernel
theorem dX8_endTalk_53 : decode cX8_endTalk 53 = .ok (.getfield 29, 3) := by decide +kernel
theorem dX8_endTalk_56 : decode cX8_endTalk 56 = .ok (.iload 4, 2) := by decide +kernel
theorem dX8_endTalk_58 : decode cX8_endTalk 58 = .ok (.iconst 3, 1) := by decide +kernel
theorem dX8_endTalk_59 : decode cX8_endTalk 59 = .ok (.imul, 1) := by decide +kernel
theorem dX8_endTalk_60 : decode cX8_endTalk 60 = .ok (.iload_n 2, 1) := by decide +kernel
theorem dX8_endTalk_61 : decode cX8_endTalk 61 = .ok (.iadd, 1) := by decide +kernel
theorem dX8_endTalk_62 : decode cX8_endTalk 62 = .ok (.dup2, 1) := by decide +kernel
theorem dX8_endTalk_63 : decode cX8_endTalk 63 = .ok (.laload, 1) := by decide +kernel
theorem dX8_endTalk_64 : decode cX8_endTalk 64 = .ok (.lload 5, 2) := by decide +kernel
theorem dX8_endTalk_66 : decode cX8_endTalk 66 = .ok (.ladd, 1) := by decide +kernel
theorem dX8_endTalk_67 : decode cX8_endTalk 67 = .ok (.lastore, 1) := by decide +kernel
theorem dX8_endTalk_68 : decode cX8_endTalk 68 = .ok (.iload_n 3, 1) := by decide +kernel
theorem dX8_endTalk_69 : decode cX8_endTalk 69 = .ok (.ifCond .eq 35, 3) := by decide +kernel
theorem dX8_endTalk_72 : decode cX8_endTalk 72 = .ok (.aload_n 0, 1) := by decide +kernel
theorem dX8_endTalk_73 : decode cX8_endTalk 73 = .ok (.dup, 1) := by decide +kernel
theorem dX8_endTalk_74 : decode cX8_endTalk 74 = .ok (.getfield 53, 3) := by decide +kernel
theorem dX8_endTalk_77 : decode cX8_endTalk 77 = .ok (.lload 5, 2) := by decide +kernel
theorem dX8_endTalk_79 : decode cX8_endTalk 79 = .ok (.ladd, 1) := by decide +kernel
theorem dX8_endTalk_80 : decode cX8_endTalk 80 = .ok (.putfield 53, 3) := by decide +kernel
theorem dX8_endTalk_83 : decode cX8_endTalk 83 = .ok (.aload_n 0, 1) := by decide +kernel
theorem dX8_endTalk_84 : decode cX8_endTalk 84 = .ok (.dup, 1) := by decide +kernel
theorem dX8_endTalk_85 : decode cX8_endTalk 85 = .ok (.getfield 57, 3) := by decide +kernel
theorem dX8_endTalk_88 : decode cX8_endTalk 88 = .ok (.iload 4, 2) := by decide +kernel
theorem dX8_endTalk_90 : decode cX8_endTalk 90 = .ok (.iload_n 2, 1) := by decide +kernel
theorem dX8_endTalk_91 : decode cX8_endTalk 91 = .ok (.if_icmp .ne 7, 3) := by decide +kernel
theorem dX8_endTalk_94 : decode cX8_endTalk 94 = .ok (.lconst 0, 1) := by decide +kernel
theorem dX8_endTalk_95 : decode cX8_endTalk 95 = .ok (.goto 5, 3) := by decide +kernel
theorem dX8_endTalk_98 : decode cX8_endTalk 98 = .ok (.lload 5, 2) := by decide +kernel
theorem dX8_endTalk_100 : decode cX8_endTalk 100 = .ok (.ladd, 1) := by decide +kernel
theorem dX8_endTalk_101 : decode cX8_endTalk 101 = .ok (.putfield 57, 3) := by decide +kernel
theorem dX8_endTalk_104 : decode cX8_endTalk 104 = .ok (.iinc 4 1, 3) := by decide +kernel
theorem dX8_endTalk_107 : decode cX8_endTalk 107 = .ok (.goto (-80), 3) := by decide +kernel
theorem dX8_endTalk_110 : decode cX8_endTalk 110 = .ok (.return_, 1) := by decide +kernel
theorem dX8_follows_0 : decode cX8_follows 0 = .ok (.aload_n 0, 1) := by decide +kernel
theorem dX8_follows_1 : decode cX8_follows 1 = .ok (.getfield 9, 3) := by decide +kernel
theorem dX8_follows_4 : decode cX8_follows 4 = .ok (.getfield 89, 3) := by decide +kernel
theorem dX8_follows_7 : decode cX8_follows 7 = .ok (.aload_n 0, 1) := by decide +kernel
theorem dX8_follows_8 : decode cX8_follows 8 = .ok (.getfield 15, 3) := by decide +kernel
theorem dX8_follows_11 : decode cX8_follows 11 = .ok (.iload_n 1, 1) := by decide +kernel
theorem dX8_follows_12 : decode cX8_follows 12 = .ok (.iaload, 1) := by decide +kernel
theorem dX8_follows_13 : decode cX8_follows 13 = .ok (.aaload, 1) := by decide +kernel
theorem dX8_follows_14 : decode cX8_follows 14 = .ok (.astore_n 2, 1) := by decide +kernel
theorem dX8_follows_15 : decode cX8_follows 15 = .ok (.iconst (-1), 1) := by decide +kernel
theorem dX8_follows_16 : decode cX8_follows 16 = .ok (.istore_n 3, 1) := by decide +kernel
theorem dX8_follows_17 : decode cX8_follows 17 = .ok (.iconst 0, 1) := by decide +kernel
theorem dX8_follows_18 : decode cX8_follows 18 = .ok (.istore 4, 2) := by decide +kernel
theorem dX8_follows_20 : decode cX8_follows 20 = .ok (.iload 4, 2) := by decide +kernel
theorem dX8_follows_22 : decode cX8_follows 22 = .ok (.aload_n 2, 1) := by decide +kernel
theorem dX8_follows_23 : decode cX8_follows 23 = .ok (.getfield 93, 3) := by decide +kernel
theorem dX8_follows_26 : decode cX8_follows 26 = .ok (.if_icmp .ge 49, 3) := by decide +kernel
theorem dX8_follows_29 : decode cX8_follows 29 = .ok (.aload_n 0, 1) := by decide +kernel
theorem dX8_follows_30 : decode cX8_follows 30 = .ok (.iload_n 1, 1) := by decide +kernel
theorem dX8_follows_31 : decode cX8_follows 31 = .ok (.aload_n 2, 1) := by decide +kernel
theorem dX8_follows_32 : decode cX8_follows 32 = .ok (.iload 4, 2) := by decide +kernel
theorem dX8_follows_34 : decode cX8_follows 34 = .ok (.invokevirtual 115, 3) := by decide +kernel
theorem dX8_follows_37 : decode cX8_follows 37 = .ok (.ifCond .eq 32, 3) := by decide +kernel
theorem dX8_follows_40 : decode cX8_follows 40 = .ok (.aload_n 0, 1) := by decide +kernel
theorem dX8_follows_41 : decode cX8_follows 41 = .ok (.getfield 19, 3) := by decide +kernel
theorem dX8_follows_44 : decode cX8_follows 44 = .ok (.iload_n 1, 1) := by decide +kernel
theorem dX8_follows_45 : decode cX8_follows 45 = .ok (.iconst 3, 1) := by decide +kernel
theorem dX8_follows_46 : decode cX8_follows 46 = .ok (.imul, 1) := by decide +kernel
theorem dX8_follows_47 : decode cX8_follows 47 = .ok (.iload 4, 2) := by decide +kernel
theorem dX8_follows_49 : decode cX8_follows 49 = .ok (.iadd, 1) := by decide +kernel
theorem dX8_follows_50 : decode cX8_follows 50 = .ok (.iaload, 1) := by decide +kernel
theorem dX8_follows_51 : decode cX8_follows 51 = .ok (.istore 5, 2) := by decide +kernel
theorem dX8_follows_53 : decode cX8_follows 53 = .ok (.iload_n 3, 1) := by decide +kernel
theorem dX8_follows_54 : decode cX8_follows 54 = .ok (.iconst (-1), 1) := by decide +kernel
theorem dX8_follows_55 : decode cX8_follows 55 = .ok (.if_icmp .eq 11, 3) := by decide +kernel
theorem dX8_follows_58 : decode cX8_follows 58 = .ok (.iload_n 3, 1) := by decide +kernel
theorem dX8_follows_59 : decode cX8_follows 59 = .ok (.iload 5, 2) := by decide +kernel
theorem dX8_follows_61 : decode cX8_follows 61 = .ok (.if_icmp .eq 5, 3) := by decide +kernel
theorem dX8_follows_64 : decode cX8_follows 64 = .ok (.iconst 0, 1) := by decide +kernel
theorem dX8_follows_65 : decode cX8_follows 65 = .ok (.ireturn, 1) := by decide +kernel
theorem dX8_follows_66 : decode cX8_follows 66 = .ok (.iload 5, 2) := by decide +kernel
theorem dX8_follows_68 : decode cX8_follows 68 = .ok (.istore_n 3, 1) := by decide +kernel
theorem dX8_follows_69 : decode cX8_follows 69 = .ok (.iinc 4 1, 3) := by decide +kernel
theorem dX8_follows_72 : decode cX8_follows 72 = .ok (.goto (-52), 3) := by decide +kernel
theorem dX8_follows_75 : decode cX8_follows 75 = .ok (.iconst 1, 1) := by decide +kernel
theorem dX8_follows_76 : decode cX8_follows 76 = .ok (.ireturn, 1) := by decide +kernel
theorem dX8_hasCase_0 : decode cX8_hasCase 0 = .ok (.iconst 0, 1) := by decide +kernel
theorem dX8_hasCase_1 : decode cX8_hasCase 1 = .ok (.istore 4, 2) := by decide +kernel
theorem dX8_hasCase_3 : decode cX8_hasCase 3 = .ok (.iload 4, 2) := by decide +kernel
theorem dX8_hasCase_5 : decode cX8_hasCase 5 = .ok (.iconst 3, 1) := by decide +kernel
theorem dX8_hasCase_6 : decode cX8_hasCase 6 = .ok (.if_icmp .ge 41, 3) := by decide +kernel
theorem dX8_hasCase_9 : decode cX8_hasCase 9 = .ok (.aload_n 0, 1) := by decide +kernel
theorem dX8_hasCase_10 : decode cX8_hasCase 10 = .ok (.getfield 22, 3) := by decide +kernel
theorem dX8_hasCase_13 : decode cX8_hasCase 13 = .ok (.iload_n 1, 1) := by decide +kernel
theorem dX8_hasCase_14 : decode cX8_hasCase 14 = .ok (.iconst 3, 1) := by decide +kernel
theorem dX8_hasCase_15 : decode cX8_hasCase 15 = .ok (.imul, 1) := by decide +kernel
theorem dX8_hasCase_16 : decode cX8_hasCase 16 = .ok (.iload 4, 2) := by decide +kernel
theorem dX8_hasCase_18 : decode cX8_hasCase 18 = .ok (.iadd, 1) := by decide +kernel
theorem dX8_hasCase_19 : decode cX8_hasCase 19 = .ok (.laload, 1) := by decide +kernel
theorem dX8_hasCase_20 : decode cX8_hasCase 20 = .ok (.lconst 0, 1) := by decide +kernel
theorem dX8_hasCase_21 : decode cX8_hasCase 21 = .ok (.lcmp, 1) := by decide +kernel
theorem dX8_hasCase_22 : decode cX8_hasCase 22 = .ok (.ifCond .le 19, 3) := by decide +kernel
theorem dX8_hasCase_25 : decode cX8_hasCase 25 = .ok (.aload_n 2, 1) := by decide +kernel
theorem dX8_hasCase_26 : decode cX8_hasCase 26 = .ok (.getfield 98, 3) := by decide +kernel
theorem dX8_hasCase_29 : decode cX8_hasCase 29 = .ok (.iload 4, 2) := by decide +kernel
theorem dX8_hasCase_31 : decode cX8_hasCase 31 = .ok (.iconst 3, 1) := by decide +kernel
theorem dX8_hasCase_32 : decode cX8_hasCase 32 = .ok (.imul, 1) := by decide +kernel
theorem dX8_hasCase_33 : decode cX8_hasCase 33 = .ok (.iload_n 3, 1) := by decide +kernel
theorem dX8_hasCase_34 : decode cX8_hasCase 34 = .ok (.iadd, 1) := by decide +kernel
theorem dX8_hasCase_35 : decode cX8_hasCase 35 = .ok (.iaload, 1) := by decide +kernel
theorem dX8_hasCase_36 : decode cX8_hasCase 36 = .ok (.ifCond .le 5, 3) := by decide +kernel
theorem dX8_hasCase_39 : decode cX8_hasCase 39 = .ok (.iconst 1, 1) := by decide +kernel
theorem dX8_hasCase_40 : decode cX8_hasCase 40 = .ok (.ireturn, 1) := by decide +kernel
theorem dX8_hasCase_41 : decode cX8_hasCase 41 = .ok (.iinc 4 1, 3) := by decide +kernel
theorem dX8_hasCase_44 : decode cX8_hasCase 44 = .ok (.goto (-41), 3) := by decide +kernel
theorem dX8_hasCase_47 : decode cX8_hasCase 47 = .ok (.iconst 0, 1) := by decide +kernel
theorem dX8_hasCase_48 : decode cX8_hasCase 48 = .ok (.ireturn, 1) := by decide +kernel
theorem dX8_hasSigns_0 : decode cX8_hasSigns 0 = .ok (.aload_n 0, 1) := by decide +kernel
theorem dX8_hasSigns_1 : decode cX8_hasSigns 1 = .ok (.getfield 9, 3) := by decide +kernel
theorem dX8_hasSigns_4 : decode cX8_hasSigns 4 = .ok (.aload_n 1, 1) := by decide +kernel
theorem dX8_hasSigns_5 : decode cX8_hasSigns 5 = .ok (.invokevirtual 38, 3) := by decide +kernel
theorem dX8_hasSigns_8 : decode cX8_hasSigns 8 = .ok (.ireturn, 1) := by decide +kernel
theorem dX8_hear_0 : decode cX8_hear 0 = .ok (.aload_n 0, 1) := by decide +kernel
theorem dX8_hear_1 : decode cX8_hear 1 = .ok (.getfield 9, 3) := by decide +kernel
theorem dX8_hear_4 : decode cX8_hear 4 = .ok (.getfield 89, 3) := by decide +kernel
theorem dX8_hear_7 : decode cX8_hear 7 = .ok (.aload_n 0, 1) := by decide +kernel
theorem dX8_hear_8 : decode cX8_hear 8 = .ok (.getfield 15, 3) := by decide +kernel
theorem dX8_hear_11 : decode cX8_hear 11 = .ok (.iload_n 1, 1) := by decide +kernel
theorem dX8_hear_12 : decode cX8_hear 12 = .ok (.iaload, 1) := by decide +kernel
theorem dX8_hear_13 : decode cX8_hear 13 = .ok (.aaload, 1) := by decide +kernel
theorem dX8_hear_14 : decode cX8_hear 14 = .ok (.astore_n 3, 1) := by decide +kernel
theorem dX8_hear_15 : decode cX8_hear 15 = .ok (.iconst 0, 1) := by decide +kernel
theorem dX8_hear_16 : decode cX8_hear 16 = .ok (.istore 4, 2) := by decide +kernel
theorem dX8_hear_18 : decode cX8_hear 18 = .ok (.iconst 0, 1) := by decide +kernel
theorem dX8_hear_19 : decode cX8_hear 19 = .ok (.istore 5, 2) := by decide +kernel
theorem dX8_hear_21 : decode cX8_hear 21 = .ok (.iload 5, 2) := by decide +kernel
theorem dX8_hear_23 : decode cX8_hear 23 = .ok (.iconst 3, 1) := by decide +kernel
theorem dX8_hear_24 : decode cX8_hear 24 = .ok (.if_icmp .ge 122, 3) := by decide +kernel
theorem dX8_hear_27 : decode cX8_hear 27 = .ok (.lconst 0, 1) := by decide +kernel
theorem dX8_hear_28 : decode cX8_hear 28 = .ok (.lstore 6, 2) := by decide +kernel
theorem dX8_hear_30 : decode cX8_hear 30 = .ok (.iconst 0, 1) := by decide +kernel
theorem dX8_hear_31 : decode cX8_hear 31 = .ok (.istore 8, 2) := by decide +kernel
theorem dX8_hear_33 : decode cX8_hear 33 = .ok (.iload 8, 2) := by decide +kernel
theorem dX8_hear_35 : decode cX8_hear 35 = .ok (.aload_n 3, 1) := by decide +kernel
theorem dX8_hear_36 : decode cX8_hear 36 = .ok (.getfield 93, 3) := by decide +kernel
theorem dX8_hear_39 : decode cX8_hear 39 = .ok (.if_icmp .ge 46, 3) := by decide +kernel
theorem dX8_hear_42 : decode cX8_hear 42 = .ok (.lload 6, 2) := by decide +kernel
theorem dX8_hear_44 : decode cX8_hear 44 = .ok (.aload_n 0, 1) := by decide +kernel
theorem dX8_hear_45 : decode cX8_hear 45 = .ok (.getfield 19, 3) := by decide +kernel
theorem dX8_hear_48 : decode cX8_hear 48 = .ok (.iload_n 1, 1) := by decide +kernel
theorem dX8_hear_49 : decode cX8_hear 49 = .ok (.iconst 3, 1) := by decide +kernel
theorem dX8_hear_50 : decode cX8_hear 50 = .ok (.imul, 1) := by decide +kernel
theorem dX8_hear_51 : decode cX8_hear 51 = .ok (.iload 8, 2) := by decide +kernel
theorem dX8_hear_53 : decode cX8_hear 53 = .ok (.iadd, 1) := by decide +kernel
theorem dX8_hear_54 : decode cX8_hear 54 = .ok (.iaload, 1) := by decide +kernel
theorem dX8_hear_55 : decode cX8_hear 55 = .ok (.iload_n 2, 1) := by decide +kernel
theorem dX8_hear_56 : decode cX8_hear 56 = .ok (.if_icmp .ne 19, 3) := by decide +kernel
theorem dX8_hear_59 : decode cX8_hear 59 = .ok (.aload_n 3, 1) := by decide +kernel
theorem dX8_hear_60 : decode cX8_hear 60 = .ok (.getfield 98, 3) := by decide +kernel
theorem dX8_hear_63 : decode cX8_hear 63 = .ok (.iload 5, 2) := by decide +kernel
theorem dX8_hear_65 : decode cX8_hear 65 = .ok (.iconst 3, 1) := by decide +kernel
theorem dX8_hear_66 : decode cX8_hear 66 = .ok (.imul, 1) := by decide +kernel
theorem dX8_hear_67 : decode cX8_hear 67 = .ok (.iload 8, 2) := by decide +kernel
theorem dX8_hear_69 : decode cX8_hear 69 = .ok (.iadd, 1) := by decide +kernel
theorem dX8_hear_70 : decode cX8_hear 70 = .ok (.iaload, 1) := by decide +kernel
theorem dX8_hear_71 : decode cX8_hear 71 = .ok (.i2l, 1) := by decide +kernel
theorem dX8_hear_72 : decode cX8_hear 72 = .ok (.goto 4, 3) := by decide +kernel
theorem dX8_hear_75 : decode cX8_hear 75 = .ok (.lconst 0, 1) := by decide +kernel
theorem dX8_hear_76 : decode cX8_hear 76 = .ok (.ladd, 1) := by decide +kernel
theorem dX8_hear_77 : decode cX8_hear 77 = .ok (.lstore 6, 2) := by decide +kernel
theorem dX8_hear_79 : decode cX8_hear 79 = .ok (.iinc 8 1, 3) := by decide +kernel
theorem dX8_hear_82 : decode cX8_hear 82 = .ok (.goto (-49), 3) := by decide +kernel
theorem dX8_hear_85 : decode cX8_hear 85 = .ok (.aload_n 0, 1) := by decide +kernel
theorem dX8_hear_86 : decode cX8_hear 86 = .ok (.getfield 22, 3) := by decide +kernel
theorem dX8_hear_89 : decode cX8_hear 89 = .ok (.iload_n 1, 1) := by decide +kernel
theorem dX8_hear_90 : decode cX8_hear 90 = .ok (.iconst 1, 1) := by decide +kernel
theorem dX8_hear_91 : decode cX8_hear 91 = .ok (.iadd, 1) := by decide +kernel
theorem dX8_hear_92 : decode cX8_hear 92 = .ok (.iconst 3, 1) := by decide +kernel
theorem dX8_hear_93 : decode cX8_hear 93 = .ok (.imul, 1) := by decide +kernel
theorem dX8_hear_94 : decode cX8_hear 94 = .ok (.iload 5, 2) := by decide +kernel
theorem dX8_hear_96 : decode cX8_hear 96 = .ok (.iadd, 1) := by decide +kernel
theorem dX8_hear_97 : decode cX8_hear 97 = .ok (.aload_n 0, 1) := by decide +kernel
theorem dX8_hear_98 : decode cX8_hear 98 = .ok (.getfield 22, 3) := by decide +kernel
theorem dX8_hear_101 : decode cX8_hear 101 = .ok (.iload_n 1, 1) := by decide +kernel
theorem dX8_hear_102 : decode cX8_hear 102 = .ok (.iconst 3, 1) := by decide +kernel
theorem dX8_hear_103 : decode cX8_hear 103 = .ok (.imul, 1) := by decide +kernel
theorem dX8_hear_104 : decode cX8_hear 104 = .ok (.iload 5, 2) := by decide +kernel
theorem dX8_hear_106 : decode cX8_hear 106 = .ok (.iadd, 1) := by decide +kernel
theorem dX8_hear_107 : decode cX8_hear 107 = .ok (.laload, 1) := by decide +kernel
theorem dX8_hear_108 : decode cX8_hear 108 = .ok (.lload 6, 2) := by decide +kernel
theorem dX8_hear_110 : decode cX8_hear 110 = .ok (.lmul, 1) := by decide +kernel
theorem dX8_hear_111 : decode cX8_hear 111 = .ok (.lastore, 1) := by decide +kernel
theorem dX8_hear_112 : decode cX8_hear 112 = .ok (.iload 4, 2) := by decide +kernel
theorem dX8_hear_114 : decode cX8_hear 114 = .ok (.aload_n 0, 1) := by decide +kernel
theorem dX8_hear_115 : decode cX8_hear 115 = .ok (.getfield 22, 3) := by decide +kernel
theorem dX8_hear_118 : decode cX8_hear 118 = .ok (.iload_n 1, 1) := by decide +kernel
theorem dX8_hear_119 : decode cX8_hear 119 = .ok (.iconst 1, 1) := by decide +kernel
theorem dX8_hear_120 : decode cX8_hear 120 = .ok (.iadd, 1) := by decide +kernel
theorem dX8_hear_121 : decode cX8_hear 121 = .ok (.iconst 3, 1) := by decide +kernel
theorem dX8_hear_122 : decode cX8_hear 122 = .ok (.imul, 1) := by decide +kernel
theorem dX8_hear_123 : decode cX8_hear 123 = .ok (.iload 5, 2) := by decide +kernel
theorem dX8_hear_125 : decode cX8_hear 125 = .ok (.iadd, 1) := by decide +kernel
theorem dX8_hear_126 : decode cX8_hear 126 = .ok (.laload, 1) := by decide +kernel
theorem dX8_hear_127 : decode cX8_hear 127 = .ok (.lconst 0, 1) := by decide +kernel
theorem dX8_hear_128 : decode cX8_hear 128 = .ok (.lcmp, 1) := by decide +kernel
theorem dX8_hear_129 : decode cX8_hear 129 = .ok (.ifCond .le 7, 3) := by decide +kernel
theorem dX8_hear_132 : decode cX8_hear 132 = .ok (.iconst 1, 1) := by decide +kernel
theorem dX8_hear_133 : decode cX8_hear 133 = .ok (.goto 4, 3) := by decide +kernel
theorem dX8_hear_136 : decode cX8_hear 136 = .ok (.iconst 0, 1) := by decide +kernel
theorem dX8_hear_137 : decode cX8_hear 137 = .ok (.ior, 1) := by decide +kernel
theorem dX8_hear_138 : decode cX8_hear 138 = .ok (.istore 4, 2) := by decide +kernel
theorem dX8_hear_140 : decode cX8_hear 140 = .ok (.iinc 5 1, 3) := by decide +kernel
theorem dX8_hear_143 : decode cX8_hear 143 = .ok (.goto (-122), 3) := by decide +kernel
theorem dX8_hear_146 : decode cX8_hear 146 = .ok (.iload 4, 2) := by decide +kernel
theorem dX8_hear_148 : decode cX8_hear 148 = .ok (.ireturn, 1) := by decide +kernel
theorem dX8_init_0 : decode cX8_init 0 = .ok (.aload_n 0, 1) := by decide +kernel
theorem dX8_init_1 : decode cX8_init 1 = .ok (.invokespecial 3, 3) := by decide +kernel
theorem dX8_init_4 : decode cX8_init 4 = .ok (.aload_n 0, 1) := by decide +kernel
theorem dX8_init_5 : decode cX8_init 5 = .ok (.aload_n 1, 1) := by decide +kernel
theorem dX8_init_6 : decode cX8_init 6 = .ok (.putfield 9, 3) := by decide +kernel
theorem dX8_init_9 : decode cX8_init 9 = .ok (.aload_n 0, 1) := by decide +kernel
theorem dX8_init_10 : decode cX8_init 10 = .ok (.bipush 7, 2) := by decide +kernel
theorem dX8_init_12 : decode cX8_init 12 = .ok (.newarray .int, 2) := by decide +kernel
theorem dX8_init_14 : decode cX8_init 14 = .ok (.putfield 15, 3) := by decide +kernel
theorem dX8_init_17 : decode cX8_init 17 = .ok (.aload_n 0, 1) := by decide +kernel
theorem dX8_init_18 : decode cX8_init 18 = .ok (.bipush 21, 2) := by decide +kernel
theorem dX8_init_20 : decode cX8_init 20 = .ok (.newarray .int, 2) := by decide +kernel
theorem dX8_init_22 : decode cX8_init 22 = .ok (.putfield 19, 3) := by decide +kernel
theorem dX8_init_25 : decode cX8_init 25 = .ok (.aload_n 0, 1) := by decide +kernel
theorem dX8_init_26 : decode cX8_init 26 = .ok (.bipush 24, 2) := by decide +kernel
theorem dX8_init_28 : decode cX8_init 28 = .ok (.newarray .long, 2) := by decide +kernel
theorem dX8_init_30 : decode cX8_init 30 = .ok (.putfield 22, 3) := by decide +kernel
theorem dX8_init_33 : decode cX8_init 33 = .ok (.aload_n 0, 1) := by decide +kernel
theorem dX8_init_34 : decode cX8_init 34 = .ok (.iconst 3, 1) := by decide +kernel
theorem dX8_init_35 : decode cX8_init 35 = .ok (.newarray .long, 2) := by decide +kernel
theorem dX8_init_37 : decode cX8_init 37 = .ok (.putfield 26, 3) := by decide +kernel
theorem dX8_init_40 : decode cX8_init 40 = .ok (.aload_n 0, 1) := by decide +kernel
theorem dX8_init_41 : decode cX8_init 41 = .ok (.bipush 9, 2) := by decide +kernel
theorem dX8_init_43 : decode cX8_init 43 = .ok (.newarray .long, 2) := by decide +kernel
theorem dX8_init_45 : decode cX8_init 45 = .ok (.putfield 29, 3) := by decide +kernel
theorem dX8_init_48 : decode cX8_init 48 = .ok (.return_, 1) := by decide +kernel
theorem dX8_isSilent_0 : decode cX8_isSilent 0 = .ok (.aload_n 0, 1) := by decide +kernel
theorem dX8_isSilent_1 : decode cX8_isSilent 1 = .ok (.getfield 9, 3) := by decide +kernel
theorem dX8_isSilent_4 : decode cX8_isSilent 4 = .ok (.invokevirtual 32, 3) := by decide +kernel
theorem dX8_isSilent_7 : decode cX8_isSilent 7 = .ok (.ireturn, 1) := by decide +kernel
theorem dX8_nextOrder_0 : decode cX8_nextOrder 0 = .ok (.aload_n 0, 1) := by decide +kernel
theorem dX8_nextOrder_1 : decode cX8_nextOrder 1 = .ok (.getfield 9, 3) := by decide +kernel
theorem dX8_nextOrder_4 : decode cX8_nextOrder 4 = .ok (.getfield 42, 3) := by decide +kernel
theorem dX8_nextOrder_7 : decode cX8_nextOrder 7 = .ok (.iconst 2, 1) := by decide +kernel
theorem dX8_nextOrder_8 : decode cX8_nextOrder 8 = .ok (.isub, 1) := by decide +kernel
theorem dX8_nextOrder_9 : decode cX8_nextOrder 9 = .ok (.istore_n 1, 1) := by decide +kernel
theorem dX8_nextOrder_10 : decode cX8_nextOrder 10 = .ok (.iload_n 1, 1) := by decide +kernel
theorem dX8_nextOrder_11 : decode cX8_nextOrder 11 = .ok (.ifCond .lt 26, 3) := by decide +kernel
theorem dX8_nextOrder_14 : decode cX8_nextOrder 14 = .ok (.aload_n 0, 1) := by decide +kernel
theorem dX8_nextOrder_15 : decode cX8_nextOrder 15 = .ok (.getfield 15, 3) := by decide +kernel
theorem dX8_nextOrder_18 : decode cX8_nextOrder 18 = .ok (.iload_n 1, 1) := by decide +kernel
theorem dX8_nextOrder_19 : decode cX8_nextOrder 19 = .ok (.iaload, 1) := by decide +kernel
theorem dX8_nextOrder_20 : decode cX8_nextOrder 20 = .ok (.aload_n 0, 1) := by decide +kernel
theorem dX8_nextOrder_21 : decode cX8_nextOrder 21 = .ok (.getfield 15, 3) := by decide +kernel
theorem dX8_nextOrder_24 : decode cX8_nextOrder 24 = .ok (.iload_n 1, 1) := by decide +kernel
theorem dX8_nextOrder_25 : decode cX8_nextOrder 25 = .ok (.iconst 1, 1) := by decide +kernel
theorem dX8_nextOrder_26 : decode cX8_nextOrder 26 = .ok (.iadd, 1) := by decide +kernel
theorem dX8_nextOrder_27 : decode cX8_nextOrder 27 = .ok (.iaload, 1) := by decide +kernel
theorem dX8_nextOrder_28 : decode cX8_nextOrder 28 = .ok (.if_icmp .le 9, 3) := by decide +kernel
theorem dX8_nextOrder_31 : decode cX8_nextOrder 31 = .ok (.iinc 1 (-1), 3) := by decide +kernel
theorem dX8_nextOrder_34 : decode cX8_nextOrder 34 = .ok (.goto (-24), 3) := by decide +kernel
theorem dX8_nextOrder_37 : decode cX8_nextOrder 37 = .ok (.iload_n 1, 1) := by decide +kernel
theorem dX8_nextOrder_38 : decode cX8_nextOrder 38 = .ok (.ifCond .ge 5, 3) := by decide +kernel
theorem dX8_nextOrder_41 : decode cX8_nextOrder 41 = .ok (.iconst 0, 1) := by decide +kernel
theorem dX8_nextOrder_42 : decode cX8_nextOrder 42 = .ok (.ireturn, 1) := by decide +kernel
theorem dX8_nextOrder_43 : decode cX8_nextOrder 43 = .ok (.aload_n 0, 1) := by decide +kernel
theorem dX8_nextOrder_44 : decode cX8_nextOrder 44 = .ok (.getfield 9, 3) := by decide +kernel
theorem dX8_nextOrder_47 : decode cX8_nextOrder 47 = .ok (.getfield 42, 3) := by decide +kernel
theorem dX8_nextOrder_50 : decode cX8_nextOrder 50 = .ok (.iconst 1, 1) := by decide +kernel
theorem dX8_nextOrder_51 : decode cX8_nextOrder 51 = .ok (.isub, 1) := by decide +kernel
theorem dX8_nextOrder_52 : decode cX8_nextOrder 52 = .ok (.istore_n 2, 1) := by decide +kernel
theorem dX8_nextOrder_53 : decode cX8_nextOrder 53 = .ok (.iload_n 2, 1) := by decide +kernel
theorem dX8_nextOrder_54 : decode cX8_nextOrder 54 = .ok (.iload_n 1, 1) := by decide +kernel
theorem dX8_nextOrder_55 : decode cX8_nextOrder 55 = .ok (.if_icmp .le 24, 3) := by decide +kernel
theorem dX8_nextOrder_58 : decode cX8_nextOrder 58 = .ok (.aload_n 0, 1) := by decide +kernel
theorem dX8_nextOrder_59 : decode cX8_nextOrder 59 = .ok (.getfield 15, 3) := by decide +kernel
theorem dX8_nextOrder_62 : decode cX8_nextOrder 62 = .ok (.iload_n 2, 1) := by decide +kernel
theorem dX8_nextOrder_63 : decode cX8_nextOrder 63 = .ok (.iaload, 1) := by decide +kernel
theorem dX8_nextOrder_64 : decode cX8_nextOrder 64 = .ok (.aload_n 0, 1) := by decide +kernel
theorem dX8_nextOrder_65 : decode cX8_nextOrder 65 = .ok (.getfield 15, 3) := by decide +kernel
theorem dX8_nextOrder_68 : decode cX8_nextOrder 68 = .ok (.iload_n 1, 1) := by decide +kernel
theorem dX8_nextOrder_69 : decode cX8_nextOrder 69 = .ok (.iaload, 1) := by decide +kernel
theorem dX8_nextOrder_70 : decode cX8_nextOrder 70 = .ok (.if_icmp .ge 9, 3) := by decide +kernel
theorem dX8_nextOrder_73 : decode cX8_nextOrder 73 = .ok (.iinc 2 (-1), 3) := by decide +kernel
theorem dX8_nextOrder_76 : decode cX8_nextOrder 76 = .ok (.goto (-23), 3) := by decide +kernel
theorem dX8_nextOrder_79 : decode cX8_nextOrder 79 = .ok (.aload_n 0, 1) := by decide +kernel
theorem dX8_nextOrder_80 : decode cX8_nextOrder 80 = .ok (.iload_n 1, 1) := by decide +kernel
theorem dX8_nextOrder_81 : decode cX8_nextOrder 81 = .ok (.iload_n 2, 1) := by decide +kernel
theorem dX8_nextOrder_82 : decode cX8_nextOrder 82 = .ok (.invokevirtual 139, 3) := by decide +kernel
theorem dX8_nextOrder_85 : decode cX8_nextOrder 85 = .ok (.aload_n 0, 1) := by decide +kernel
theorem dX8_nextOrder_86 : decode cX8_nextOrder 86 = .ok (.getfield 9, 3) := by decide +kernel
theorem dX8_nextOrder_89 : decode cX8_nextOrder 89 = .ok (.getfield 42, 3) := by decide +kernel
theorem dX8_nextOrder_92 : decode cX8_nextOrder 92 = .ok (.iconst 1, 1) := by decide +kernel
theorem dX8_nextOrder_93 : decode cX8_nextOrder 93 = .ok (.isub, 1) := by decide +kernel
theorem dX8_nextOrder_94 : decode cX8_nextOrder 94 = .ok (.istore_n 3, 1) := by decide +kernel
theorem dX8_nextOrder_95 : decode cX8_nextOrder 95 = .ok (.iload_n 1, 1) := by decide +kernel
theorem dX8_nextOrder_96 : decode cX8_nextOrder 96 = .ok (.iconst 1, 1) := by decide +kernel
theorem dX8_nextOrder_97 : decode cX8_nextOrder 97 = .ok (.iadd, 1) := by decide +kernel
theorem dX8_nextOrder_98 : decode cX8_nextOrder 98 = .ok (.istore 4, 2) := by decide +kernel
theorem dX8_nextOrder_100 : decode cX8_nextOrder 100 = .ok (.iload 4, 2) := by decide +kernel
theorem dX8_nextOrder_102 : decode cX8_nextOrder 102 = .ok (.iload_n 3, 1) := by decide +kernel
theorem dX8_nextOrder_103 : decode cX8_nextOrder 103 = .ok (.if_icmp .ge 19, 3) := by decide +kernel
theorem dX8_nextOrder_106 : decode cX8_nextOrder 106 = .ok (.aload_n 0, 1) := by decide +kernel
theorem dX8_nextOrder_107 : decode cX8_nextOrder 107 = .ok (.iload 4, 2) := by decide +kernel
theorem dX8_nextOrder_109 : decode cX8_nextOrder 109 = .ok (.iload_n 3, 1) := by decide +kernel
theorem dX8_nextOrder_110 : decode cX8_nextOrder 110 = .ok (.invokevirtual 139, 3) := by decide +kernel
theorem dX8_nextOrder_113 : decode cX8_nextOrder 113 = .ok (.iinc 3 (-1), 3) := by decide +kernel
theorem dX8_nextOrder_116 : decode cX8_nextOrder 116 = .ok (.iinc 4 1, 3) := by decide +kernel
theorem dX8_nextOrder_119 : decode cX8_nextOrder 119 = .ok (.goto (-19), 3) := by decide +kernel
theorem dX8_nextOrder_122 : decode cX8_nextOrder 122 = .ok (.iconst 1, 1) := by decide +kernel
theorem dX8_nextOrder_123 : decode cX8_nextOrder 123 = .ok (.ireturn, 1) := by decide +kernel
theorem dX8_openTalk_0 : decode cX8_openTalk 0 = .ok (.iconst 0, 1) := by decide +kernel
theorem dX8_openTalk_1 : decode cX8_openTalk 1 = .ok (.istore_n 1, 1) := by decide +kernel
theorem dX8_openTalk_2 : decode cX8_openTalk 2 = .ok (.iload_n 1, 1) := by decide +kernel
theorem dX8_openTalk_3 : decode cX8_openTalk 3 = .ok (.iconst 3, 1) := by decide +kernel
theorem dX8_openTalk_4 : decode cX8_openTalk 4 = .ok (.if_icmp .ge 25, 3) := by decide +kernel
theorem dX8_openTalk_7 : decode cX8_openTalk 7 = .ok (.aload_n 0, 1) := by decide +kernel
theorem dX8_openTalk_8 : decode cX8_openTalk 8 = .ok (.getfield 22, 3) := by decide +kernel
theorem dX8_openTalk_11 : decode cX8_openTalk 11 = .ok (.iload_n 1, 1) := by decide +kernel
theorem dX8_openTalk_12 : decode cX8_openTalk 12 = .ok (.aload_n 0, 1) := by decide +kernel
theorem dX8_openTalk_13 : decode cX8_openTalk 13 = .ok (.getfield 9, 3) := by decide +kernel
theorem dX8_openTalk_16 : decode cX8_openTalk 16 = .ok (.getfield 67, 3) := by decide +kernel
theorem dX8_openTalk_19 : decode cX8_openTalk 19 = .ok (.iload_n 1, 1) := by decide +kernel
theorem dX8_openTalk_20 : decode cX8_openTalk 20 = .ok (.iaload, 1) := by decide +kernel
theorem dX8_openTalk_21 : decode cX8_openTalk 21 = .ok (.i2l, 1) := by decide +kernel
theorem dX8_openTalk_22 : decode cX8_openTalk 22 = .ok (.lastore, 1) := by decide +kernel
theorem dX8_openTalk_23 : decode cX8_openTalk 23 = .ok (.iinc 1 1, 3) := by decide +kernel
theorem dX8_openTalk_26 : decode cX8_openTalk 26 = .ok (.goto (-24), 3) := by decide +kernel
theorem dX8_openTalk_29 : decode cX8_openTalk 29 = .ok (.return_, 1) := by decide +kernel
theorem dX8_orderByTen_0 : decode cX8_orderByTen 0 = .ok (.iconst 0, 1) := by decide +kernel
theorem dX8_orderByTen_1 : decode cX8_orderByTen 1 = .ok (.istore_n 1, 1) := by decide +kernel
theorem dX8_orderByTen_2 : decode cX8_orderByTen 2 = .ok (.iconst 0, 1) := by decide +kernel
theorem dX8_orderByTen_3 : decode cX8_orderByTen 3 = .ok (.istore_n 2, 1) := by decide +kernel
theorem dX8_orderByTen_4 : decode cX8_orderByTen 4 = .ok (.iload_n 2, 1) := by decide +kernel
theorem dX8_orderByTen_5 : decode cX8_orderByTen 5 = .ok (.aload_n 0, 1) := by decide +kernel
theorem dX8_orderByTen_6 : decode cX8_orderByTen 6 = .ok (.getfield 9, 3) := by decide +kernel
theorem dX8_orderByTen_9 : decode cX8_orderByTen 9 = .ok (.getfield 42, 3) := by decide +kernel
theorem dX8_orderByTen_12 : decode cX8_orderByTen 12 = .ok (.if_icmp .ge 21, 3) := by decide +kernel
theorem dX8_orderByTen_15 : decode cX8_orderByTen 15 = .ok (.iload_n 1, 1) := by decide +kernel
theorem dX8_orderByTen_16 : decode cX8_orderByTen 16 = .ok (.bipush 10, 2) := by decide +kernel
theorem dX8_orderByTen_18 : decode cX8_orderByTen 18 = .ok (.imul, 1) := by decide +kernel
theorem dX8_orderByTen_19 : decode cX8_orderByTen 19 = .ok (.aload_n 0, 1) := by decide +kernel
theorem dX8_orderByTen_20 : decode cX8_orderByTen 20 = .ok (.getfield 15, 3) := by decide +kernel
theorem dX8_orderByTen_23 : decode cX8_orderByTen 23 = .ok (.iload_n 2, 1) := by decide +kernel
theorem dX8_orderByTen_24 : decode cX8_orderByTen 24 = .ok (.iaload, 1) := by decide +kernel
theorem dX8_orderByTen_25 : decode cX8_orderByTen 25 = .ok (.iadd, 1) := by decide +kernel
theorem dX8_orderByTen_26 : decode cX8_orderByTen 26 = .ok (.istore_n 1, 1) := by decide +kernel
theorem dX8_orderByTen_27 : decode cX8_orderByTen 27 = .ok (.iinc 2 1, 3) := by decide +kernel
theorem dX8_orderByTen_30 : decode cX8_orderByTen 30 = .ok (.goto (-26), 3) := by decide +kernel
theorem dX8_orderByTen_33 : decode cX8_orderByTen 33 = .ok (.iload_n 1, 1) := by decide +kernel
theorem dX8_orderByTen_34 : decode cX8_orderByTen 34 = .ok (.ireturn, 1) := by decide +kernel
theorem dX8_ponder_0 : decode cX8_ponder 0 = .ok (.aload_n 0, 1) := by decide +kernel
theorem dX8_ponder_1 : decode cX8_ponder 1 = .ok (.getfield 9, 3) := by decide +kernel
theorem dX8_ponder_4 : decode cX8_ponder 4 = .ok (.getfield 89, 3) := by decide +kernel
theorem dX8_ponder_7 : decode cX8_ponder 7 = .ok (.aload_n 0, 1) := by decide +kernel
theorem dX8_ponder_8 : decode cX8_ponder 8 = .ok (.getfield 15, 3) := by decide +kernel
theorem dX8_ponder_11 : decode cX8_ponder 11 = .ok (.iload_n 1, 1) := by decide +kernel
theorem dX8_ponder_12 : decode cX8_ponder 12 = .ok (.iaload, 1) := by decide +kernel
theorem dX8_ponder_13 : decode cX8_ponder 13 = .ok (.aaload, 1) := by decide +kernel
theorem dX8_ponder_14 : decode cX8_ponder 14 = .ok (.astore_n 2, 1) := by decide +kernel
theorem dX8_ponder_15 : decode cX8_ponder 15 = .ok (.iconst 0, 1) := by decide +kernel
theorem dX8_ponder_16 : decode cX8_ponder 16 = .ok (.istore_n 3, 1) := by decide +kernel
theorem dX8_ponder_17 : decode cX8_ponder 17 = .ok (.iload_n 3, 1) := by decide +kernel
theorem dX8_ponder_18 : decode cX8_ponder 18 = .ok (.aload_n 2, 1) := by decide +kernel
theorem dX8_ponder_19 : decode cX8_ponder 19 = .ok (.getfield 93, 3) := by decide +kernel
theorem dX8_ponder_22 : decode cX8_ponder 22 = .ok (.if_icmp .ge 84, 3) := by decide +kernel
theorem dX8_ponder_25 : decode cX8_ponder 25 = .ok (.iconst 0, 1) := by decide +kernel
theorem dX8_ponder_26 : decode cX8_ponder 26 = .ok (.istore 4, 2) := by decide +kernel
theorem dX8_ponder_28 : decode cX8_ponder 28 = .ok (.iload 4, 2) := by decide +kernel
theorem dX8_ponder_30 : decode cX8_ponder 30 = .ok (.iconst 3, 1) := by decide +kernel
theorem dX8_ponder_31 : decode cX8_ponder 31 = .ok (.if_icmp .ge 40, 3) := by decide +kernel
theorem dX8_ponder_34 : decode cX8_ponder 34 = .ok (.aload_n 0, 1) := by decide +kernel
theorem dX8_ponder_35 : decode cX8_ponder 35 = .ok (.getfield 26, 3) := by decide +kernel
theorem dX8_ponder_38 : decode cX8_ponder 38 = .ok (.iload 4, 2) := by decide +kernel
theorem dX8_ponder_40 : decode cX8_ponder 40 = .ok (.aload_n 0, 1) := by decide +kernel
theorem dX8_ponder_41 : decode cX8_ponder 41 = .ok (.getfield 22, 3) := by decide +kernel
theorem dX8_ponder_44 : decode cX8_ponder 44 = .ok (.iload_n 1, 1) := by decide +kernel
theorem dX8_ponder_45 : decode cX8_ponder 45 = .ok (.iconst 3, 1) := by decide +kernel
theorem dX8_ponder_46 : decode cX8_ponder 46 = .ok (.imul, 1) := by decide +kernel
theorem dX8_ponder_47 : decode cX8_ponder 47 = .ok (.iload 4, 2) := by decide +kernel
theorem dX8_ponder_49 : decode cX8_ponder 49 = .ok (.iadd, 1) := by decide +kernel
theorem dX8_ponder_50 : decode cX8_ponder 50 = .ok (.laload, 1) := by decide +kernel
theorem dX8_ponder_51 : decode cX8_ponder 51 = .ok (.aload_n 2, 1) := by decide +kernel
theorem dX8_ponder_52 : decode cX8_ponder 52 = .ok (.getfield 98, 3) := by decide +kernel
theorem dX8_ponder_55 : decode cX8_ponder 55 = .ok (.iload 4, 2) := by decide +kernel
theorem dX8_ponder_57 : decode cX8_ponder 57 = .ok (.iconst 3, 1) := by decide +kernel
theorem dX8_ponder_58 : decode cX8_ponder 58 = .ok (.imul, 1) := by decide +kernel
theorem dX8_ponder_59 : decode cX8_ponder 59 = .ok (.iload_n 3, 1) := by decide +kernel
theorem dX8_ponder_60 : decode cX8_ponder 60 = .ok (.iadd, 1) := by decide +kernel
theorem dX8_ponder_61 : decode cX8_ponder 61 = .ok (.iaload, 1) := by decide +kernel
theorem dX8_ponder_62 : decode cX8_ponder 62 = .ok (.i2l, 1) := by decide +kernel
theorem dX8_ponder_63 : decode cX8_ponder 63 = .ok (.lmul, 1) := by decide +kernel
theorem dX8_ponder_64 : decode cX8_ponder 64 = .ok (.lastore, 1) := by decide +kernel
theorem dX8_ponder_65 : decode cX8_ponder 65 = .ok (.iinc 4 1, 3) := by decide +kernel
theorem dX8_ponder_68 : decode cX8_ponder 68 = .ok (.goto (-40), 3) := by decide +kernel
theorem dX8_ponder_71 : decode cX8_ponder 71 = .ok (.aload_n 0, 1) := by decide +kernel
theorem dX8_ponder_72 : decode cX8_ponder 72 = .ok (.getfield 19, 3) := by decide +kernel
theorem dX8_ponder_75 : decode cX8_ponder 75 = .ok (.iload_n 1, 1) := by decide +kernel
theorem dX8_ponder_76 : decode cX8_ponder 76 = .ok (.iconst 3, 1) := by decide +kernel
theorem dX8_ponder_77 : decode cX8_ponder 77 = .ok (.imul, 1) := by decide +kernel
theorem dX8_ponder_78 : decode cX8_ponder 78 = .ok (.iload_n 3, 1) := by decide +kernel
theorem dX8_ponder_79 : decode cX8_ponder 79 = .ok (.iadd, 1) := by decide +kernel
theorem dX8_ponder_80 : decode cX8_ponder 80 = .ok (.aload_n 2, 1) := by decide +kernel
theorem dX8_ponder_81 : decode cX8_ponder 81 = .ok (.getfield 101, 3) := by decide +kernel
theorem dX8_ponder_84 : decode cX8_ponder 84 = .ok (.aload_n 0, 1) := by decide +kernel
theorem dX8_ponder_85 : decode cX8_ponder 85 = .ok (.getfield 9, 3) := by decide +kernel
theorem dX8_ponder_88 : decode cX8_ponder 88 = .ok (.getfield 82, 3) := by decide +kernel
theorem dX8_ponder_91 : decode cX8_ponder 91 = .ok (.aload_n 0, 1) := by decide +kernel
theorem dX8_ponder_92 : decode cX8_ponder 92 = .ok (.getfield 26, 3) := by decide +kernel
theorem dX8_ponder_95 : decode cX8_ponder 95 = .ok (.iconst 0, 1) := by decide +kernel
theorem dX8_ponder_96 : decode cX8_ponder 96 = .ok (.invokevirtual 105, 3) := by decide +kernel
theorem dX8_ponder_99 : decode cX8_ponder 99 = .ok (.iastore, 1) := by decide +kernel
theorem dX8_ponder_100 : decode cX8_ponder 100 = .ok (.iinc 3 1, 3) := by decide +kernel
theorem dX8_ponder_103 : decode cX8_ponder 103 = .ok (.goto (-86), 3) := by decide +kernel
theorem dX8_ponder_106 : decode cX8_ponder 106 = .ok (.return_, 1) := by decide +kernel
theorem dX8_said_0 : decode cX8_said 0 = .ok (.iconst 0, 1) := by decide +kernel
theorem dX8_said_1 : decode cX8_said 1 = .ok (.istore_n 2, 1) := by decide +kernel
theorem dX8_said_2 : decode cX8_said 2 = .ok (.aload_n 0, 1) := by decide +kernel
theorem dX8_said_3 : decode cX8_said 3 = .ok (.invokevirtual 60, 3) := by decide +kernel
theorem dX8_said_6 : decode cX8_said 6 = .ok (.iconst 0, 1) := by decide +kernel
theorem dX8_said_7 : decode cX8_said 7 = .ok (.istore_n 3, 1) := by decide +kernel
theorem dX8_said_8 : decode cX8_said 8 = .ok (.iload_n 3, 1) := by decide +kernel
theorem dX8_said_9 : decode cX8_said 9 = .ok (.aload_n 0, 1) := by decide +kernel
theorem dX8_said_10 : decode cX8_said 10 = .ok (.getfield 9, 3) := by decide +kernel
theorem dX8_said_13 : decode cX8_said 13 = .ok (.getfield 42, 3) := by decide +kernel
theorem dX8_said_16 : decode cX8_said 16 = .ok (.if_icmp .ge 21, 3) := by decide +kernel
theorem dX8_said_19 : decode cX8_said 19 = .ok (.iload_n 2, 1) := by decide +kernel
theorem dX8_said_20 : decode cX8_said 20 = .ok (.bipush 10, 2) := by decide +kernel
theorem dX8_said_22 : decode cX8_said 22 = .ok (.imul, 1) := by decide +kernel
theorem dX8_said_23 : decode cX8_said 23 = .ok (.aload_n 0, 1) := by decide +kernel
theorem dX8_said_24 : decode cX8_said 24 = .ok (.iload_n 3, 1) := by decide +kernel
theorem dX8_said_25 : decode cX8_said 25 = .ok (.aload_n 1, 1) := by decide +kernel
theorem dX8_said_26 : decode cX8_said 26 = .ok (.invokevirtual 119, 3) := by decide +kernel
theorem dX8_said_29 : decode cX8_said 29 = .ok (.iadd, 1) := by decide +kernel
theorem dX8_said_30 : decode cX8_said 30 = .ok (.istore_n 2, 1) := by decide +kernel
theorem dX8_said_31 : decode cX8_said 31 = .ok (.iinc 3 1, 3) := by decide +kernel
theorem dX8_said_34 : decode cX8_said 34 = .ok (.goto (-26), 3) := by decide +kernel
theorem dX8_said_37 : decode cX8_said 37 = .ok (.iload_n 2, 1) := by decide +kernel
theorem dX8_said_38 : decode cX8_said 38 = .ok (.ireturn, 1) := by decide +kernel
theorem dX8_sayWith_0 : decode cX8_sayWith 0 = .ok (.aload_n 0, 1) := by decide +kernel
theorem dX8_sayWith_1 : decode cX8_sayWith 1 = .ok (.iload_n 1, 1) := by decide +kernel
theorem dX8_sayWith_2 : decode cX8_sayWith 2 = .ok (.invokevirtual 74, 3) := by decide +kernel
theorem dX8_sayWith_5 : decode cX8_sayWith 5 = .ok (.aload_n 0, 1) := by decide +kernel
theorem dX8_sayWith_6 : decode cX8_sayWith 6 = .ok (.getfield 19, 3) := by decide +kernel
theorem dX8_sayWith_9 : decode cX8_sayWith 9 = .ok (.iload_n 1, 1) := by decide +kernel
theorem dX8_sayWith_10 : decode cX8_sayWith 10 = .ok (.iconst 3, 1) := by decide +kernel
theorem dX8_sayWith_11 : decode cX8_sayWith 11 = .ok (.imul, 1) := by decide +kernel
theorem dX8_sayWith_12 : decode cX8_sayWith 12 = .ok (.aload_n 2, 1) := by decide +kernel
theorem dX8_sayWith_13 : decode cX8_sayWith 13 = .ok (.aload_n 0, 1) := by decide +kernel
theorem dX8_sayWith_14 : decode cX8_sayWith 14 = .ok (.getfield 15, 3) := by decide +kernel
theorem dX8_sayWith_17 : decode cX8_sayWith 17 = .ok (.iload_n 1, 1) := by decide +kernel
theorem dX8_sayWith_18 : decode cX8_sayWith 18 = .ok (.iaload, 1) := by decide +kernel
theorem dX8_sayWith_19 : decode cX8_sayWith 19 = .ok (.iaload, 1) := by decide +kernel
theorem dX8_sayWith_20 : decode cX8_sayWith 20 = .ok (.iadd, 1) := by decide +kernel
theorem dX8_sayWith_21 : decode cX8_sayWith 21 = .ok (.iaload, 1) := by decide +kernel
theorem dX8_sayWith_22 : decode cX8_sayWith 22 = .ok (.istore_n 3, 1) := by decide +kernel
theorem dX8_sayWith_23 : decode cX8_sayWith 23 = .ok (.aload_n 0, 1) := by decide +kernel
theorem dX8_sayWith_24 : decode cX8_sayWith 24 = .ok (.iload_n 1, 1) := by decide +kernel
theorem dX8_sayWith_25 : decode cX8_sayWith 25 = .ok (.iload_n 3, 1) := by decide +kernel
theorem dX8_sayWith_26 : decode cX8_sayWith 26 = .ok (.invokevirtual 85, 3) := by decide +kernel
theorem dX8_sayWith_29 : decode cX8_sayWith 29 = .ok (.pop, 1) := by decide +kernel
theorem dX8_sayWith_30 : decode cX8_sayWith 30 = .ok (.iload_n 3, 1) := by decide +kernel
theorem dX8_sayWith_31 : decode cX8_sayWith 31 = .ok (.ireturn, 1) := by decide +kernel
theorem dX8_speak_0 : decode cX8_speak 0 = .ok (.iload_n 1, 1) := by decide +kernel
theorem dX8_speak_1 : decode cX8_speak 1 = .ok (.aload_n 0, 1) := by decide +kernel
theorem dX8_speak_2 : decode cX8_speak 2 = .ok (.getfield 9, 3) := by decide +kernel
theorem dX8_speak_5 : decode cX8_speak 5 = .ok (.getfield 42, 3) := by decide +kernel
theorem dX8_speak_8 : decode cX8_speak 8 = .ok (.if_icmp .ge 9, 3) := by decide +kernel
theorem dX8_speak_11 : decode cX8_speak 11 = .ok (.iload_n 1, 1) := by decide +kernel
theorem dX8_speak_12 : decode cX8_speak 12 = .ok (.bipush 7, 2) := by decide +kernel
theorem dX8_speak_14 : decode cX8_speak 14 = .ok (.if_icmp .lt 10, 3) := by decide +kernel
theorem dX8_speak_17 : decode cX8_speak 17 = .ok (.aload_n 0, 1) := by decide +kernel
theorem dX8_speak_18 : decode cX8_speak 18 = .ok (.iload_n 2, 1) := by decide +kernel
theorem dX8_speak_19 : decode cX8_speak 19 = .ok (.iload_n 3, 1) := by decide +kernel
theorem dX8_speak_20 : decode cX8_speak 20 = .ok (.invokevirtual 70, 3) := by decide +kernel
theorem dX8_speak_23 : decode cX8_speak 23 = .ok (.return_, 1) := by decide +kernel
theorem dX8_speak_24 : decode cX8_speak 24 = .ok (.aload_n 0, 1) := by decide +kernel
theorem dX8_speak_25 : decode cX8_speak 25 = .ok (.iload_n 1, 1) := by decide +kernel
theorem dX8_speak_26 : decode cX8_speak 26 = .ok (.invokevirtual 74, 3) := by decide +kernel
theorem dX8_speak_29 : decode cX8_speak 29 = .ok (.aload_n 0, 1) := by decide +kernel
theorem dX8_speak_30 : decode cX8_speak 30 = .ok (.iload_n 1, 1) := by decide +kernel
theorem dX8_speak_31 : decode cX8_speak 31 = .ok (.iload_n 2, 1) := by decide +kernel
theorem dX8_speak_32 : decode cX8_speak 32 = .ok (.invokevirtual 78, 3) := by decide +kernel
theorem dX8_speak_35 : decode cX8_speak 35 = .ok (.istore 4, 2) := by decide +kernel
theorem dX8_speak_37 : decode cX8_speak 37 = .ok (.iconst 0, 1) := by decide +kernel
theorem dX8_speak_38 : decode cX8_speak 38 = .ok (.istore 5, 2) := by decide +kernel
theorem dX8_speak_40 : decode cX8_speak 40 = .ok (.iload 5, 2) := by decide +kernel
theorem dX8_speak_42 : decode cX8_speak 42 = .ok (.aload_n 0, 1) := by decide +kernel
theorem dX8_speak_43 : decode cX8_speak 43 = .ok (.getfield 9, 3) := by decide +kernel
theorem dX8_speak_46 : decode cX8_speak 46 = .ok (.getfield 82, 3) := by decide +kernel
theorem dX8_speak_49 : decode cX8_speak 49 = .ok (.if_icmp .ge 30, 3) := by decide +kernel
theorem dX8_speak_52 : decode cX8_speak 52 = .ok (.aload_n 0, 1) := by decide +kernel
theorem dX8_speak_53 : decode cX8_speak 53 = .ok (.iload_n 1, 1) := by decide +kernel
theorem dX8_speak_54 : decode cX8_speak 54 = .ok (.iload 5, 2) := by decide +kernel
theorem dX8_speak_56 : decode cX8_speak 56 = .ok (.invokevirtual 85, 3) := by decide +kernel
theorem dX8_speak_59 : decode cX8_speak 59 = .ok (.ifCond .eq 14, 3) := by decide +kernel
theorem dX8_speak_62 : decode cX8_speak 62 = .ok (.aload_n 0, 1) := by decide +kernel
theorem dX8_speak_63 : decode cX8_speak 63 = .ok (.iload_n 1, 1) := by decide +kernel
theorem dX8_speak_64 : decode cX8_speak 64 = .ok (.iconst 1, 1) := by decide +kernel
theorem dX8_speak_65 : decode cX8_speak 65 = .ok (.iadd, 1) := by decide +kernel
theorem dX8_speak_66 : decode cX8_speak 66 = .ok (.iload 4, 2) := by decide +kernel
theorem dX8_speak_68 : decode cX8_speak 68 = .ok (.iload 5, 2) := by decide +kernel
theorem dX8_speak_70 : decode cX8_speak 70 = .ok (.invokevirtual 63, 3) := by decide +kernel
theorem dX8_speak_73 : decode cX8_speak 73 = .ok (.iinc 5 1, 3) := by decide +kernel
theorem dX8_speak_76 : decode cX8_speak 76 = .ok (.goto (-36), 3) := by decide +kernel
theorem dX8_speak_79 : decode cX8_speak 79 = .ok (.return_, 1) := by decide +kernel
theorem dX8_speakAll_0 : decode cX8_speakAll 0 = .ok (.aload_n 0, 1) := by decide +kernel
theorem dX8_speakAll_1 : decode cX8_speakAll 1 = .ok (.aload_n 1, 1) := by decide +kernel
theorem dX8_speakAll_2 : decode cX8_speakAll 2 = .ok (.putfield 9, 3) := by decide +kernel
theorem dX8_speakAll_5 : decode cX8_speakAll 5 = .ok (.iconst 0, 1) := by decide +kernel
theorem dX8_speakAll_6 : decode cX8_speakAll 6 = .ok (.istore_n 3, 1) := by decide +kernel
theorem dX8_speakAll_7 : decode cX8_speakAll 7 = .ok (.iload_n 3, 1) := by decide +kernel
theorem dX8_speakAll_8 : decode cX8_speakAll 8 = .ok (.aload_n 0, 1) := by decide +kernel
theorem dX8_speakAll_9 : decode cX8_speakAll 9 = .ok (.getfield 9, 3) := by decide +kernel
theorem dX8_speakAll_12 : decode cX8_speakAll 12 = .ok (.getfield 42, 3) := by decide +kernel
theorem dX8_speakAll_15 : decode cX8_speakAll 15 = .ok (.if_icmp .ge 18, 3) := by decide +kernel
theorem dX8_speakAll_18 : decode cX8_speakAll 18 = .ok (.aload_n 0, 1) := by decide +kernel
theorem dX8_speakAll_19 : decode cX8_speakAll 19 = .ok (.getfield 15, 3) := by decide +kernel
theorem dX8_speakAll_22 : decode cX8_speakAll 22 = .ok (.iload_n 3, 1) := by decide +kernel
theorem dX8_speakAll_23 : decode cX8_speakAll 23 = .ok (.aload_n 2, 1) := by decide +kernel
theorem dX8_speakAll_24 : decode cX8_speakAll 24 = .ok (.iload_n 3, 1) := by decide +kernel
theorem dX8_speakAll_25 : decode cX8_speakAll 25 = .ok (.iaload, 1) := by decide +kernel
theorem dX8_speakAll_26 : decode cX8_speakAll 26 = .ok (.iastore, 1) := by decide +kernel
theorem dX8_speakAll_27 : decode cX8_speakAll 27 = .ok (.iinc 3 1, 3) := by decide +kernel
theorem dX8_speakAll_30 : decode cX8_speakAll 30 = .ok (.goto (-23), 3) := by decide +kernel
theorem dX8_speakAll_33 : decode cX8_speakAll 33 = .ok (.aload_n 0, 1) := by decide +kernel
theorem dX8_speakAll_34 : decode cX8_speakAll 34 = .ok (.invokevirtual 46, 3) := by decide +kernel
theorem dX8_speakAll_37 : decode cX8_speakAll 37 = .ok (.return_, 1) := by decide +kernel
theorem dX8_speakInOrder_0 : decode cX8_speakInOrder 0 = .ok (.aload_n 0, 1) := by decide +kernel
theorem dX8_speakInOrder_1 : decode cX8_speakInOrder 1 = .ok (.getfield 29, 3) := by decide +kernel
theorem dX8_speakInOrder_4 : decode cX8_speakInOrder 4 = .ok (.invokestatic 49, 3) := by decide +kernel
theorem dX8_speakInOrder_7 : decode cX8_speakInOrder 7 = .ok (.aload_n 0, 1) := by decide +kernel
theorem dX8_speakInOrder_8 : decode cX8_speakInOrder 8 = .ok (.lconst 0, 1) := by decide +kernel
theorem dX8_speakInOrder_9 : decode cX8_speakInOrder 9 = .ok (.putfield 53, 3) := by decide +kernel
theorem dX8_speakInOrder_12 : decode cX8_speakInOrder 12 = .ok (.aload_n 0, 1) := by decide +kernel
theorem dX8_speakInOrder_13 : decode cX8_speakInOrder 13 = .ok (.lconst 0, 1) := by decide +kernel
theorem dX8_speakInOrder_14 : decode cX8_speakInOrder 14 = .ok (.putfield 57, 3) := by decide +kernel
theorem dX8_speakInOrder_17 : decode cX8_speakInOrder 17 = .ok (.aload_n 0, 1) := by decide +kernel
theorem dX8_speakInOrder_18 : decode cX8_speakInOrder 18 = .ok (.invokevirtual 60, 3) := by decide +kernel
theorem dX8_speakInOrder_21 : decode cX8_speakInOrder 21 = .ok (.aload_n 0, 1) := by decide +kernel
theorem dX8_speakInOrder_22 : decode cX8_speakInOrder 22 = .ok (.iconst 0, 1) := by decide +kernel
theorem dX8_speakInOrder_23 : decode cX8_speakInOrder 23 = .ok (.iconst (-1), 1) := by decide +kernel
theorem dX8_speakInOrder_24 : decode cX8_speakInOrder 24 = .ok (.iconst 0, 1) := by decide +kernel
theorem dX8_speakInOrder_25 : decode cX8_speakInOrder 25 = .ok (.invokevirtual 63, 3) := by decide +kernel
theorem dX8_speakInOrder_28 : decode cX8_speakInOrder 28 = .ok (.return_, 1) := by decide +kernel
theorem dX8_swap_0 : decode cX8_swap 0 = .ok (.aload_n 0, 1) := by decide +kernel
theorem dX8_swap_1 : decode cX8_swap 1 = .ok (.getfield 15, 3) := by decide +kernel
theorem dX8_swap_4 : decode cX8_swap 4 = .ok (.iload_n 1, 1) := by decide +kernel
theorem dX8_swap_5 : decode cX8_swap 5 = .ok (.iaload, 1) := by decide +kernel
theorem dX8_swap_6 : decode cX8_swap 6 = .ok (.istore_n 3, 1) := by decide +kernel
theorem dX8_swap_7 : decode cX8_swap 7 = .ok (.aload_n 0, 1) := by decide +kernel
theorem dX8_swap_8 : decode cX8_swap 8 = .ok (.getfield 15, 3) := by decide +kernel
theorem dX8_swap_11 : decode cX8_swap 11 = .ok (.iload_n 1, 1) := by decide +kernel
theorem dX8_swap_12 : decode cX8_swap 12 = .ok (.aload_n 0, 1) := by decide +kernel
theorem dX8_swap_13 : decode cX8_swap 13 = .ok (.getfield 15, 3) := by decide +kernel
theorem dX8_swap_16 : decode cX8_swap 16 = .ok (.iload_n 2, 1) := by decide +kernel
theorem dX8_swap_17 : decode cX8_swap 17 = .ok (.iaload, 1) := by decide +kernel
theorem dX8_swap_18 : decode cX8_swap 18 = .ok (.iastore, 1) := by decide +kernel
theorem dX8_swap_19 : decode cX8_swap 19 = .ok (.aload_n 0, 1) := by decide +kernel
theorem dX8_swap_20 : decode cX8_swap 20 = .ok (.getfield 15, 3) := by decide +kernel
theorem dX8_swap_23 : decode cX8_swap 23 = .ok (.iload_n 2, 1) := by decide +kernel
theorem dX8_swap_24 : decode cX8_swap 24 = .ok (.iload_n 3, 1) := by decide +kernel
theorem dX8_swap_25 : decode cX8_swap 25 = .ok (.iastore, 1) := by decide +kernel
theorem dX8_swap_26 : decode cX8_swap 26 = .ok (.return_, 1) := by decide +kernel
theorem dX8_tryOrders_0 : decode cX8_tryOrders 0 = .ok (.aload_n 0, 1) := by decide +kernel
theorem dX8_tryOrders_1 : decode cX8_tryOrders 1 = .ok (.aload_n 1, 1) := by decide +kernel
theorem dX8_tryOrders_2 : decode cX8_tryOrders 2 = .ok (.putfield 9, 3) := by decide +kernel
theorem dX8_tryOrders_5 : decode cX8_tryOrders 5 = .ok (.iconst 0, 1) := by decide +kernel
theorem dX8_tryOrders_6 : decode cX8_tryOrders 6 = .ok (.istore_n 2, 1) := by decide +kernel
theorem dX8_tryOrders_7 : decode cX8_tryOrders 7 = .ok (.iload_n 2, 1) := by decide +kernel
theorem dX8_tryOrders_8 : decode cX8_tryOrders 8 = .ok (.aload_n 0, 1) := by decide +kernel
theorem dX8_tryOrders_9 : decode cX8_tryOrders 9 = .ok (.getfield 9, 3) := by decide +kernel
theorem dX8_tryOrders_12 : decode cX8_tryOrders 12 = .ok (.getfield 42, 3) := by decide +kernel
theorem dX8_tryOrders_15 : decode cX8_tryOrders 15 = .ok (.if_icmp .ge 16, 3) := by decide +kernel
theorem dX8_tryOrders_18 : decode cX8_tryOrders 18 = .ok (.aload_n 0, 1) := by decide +kernel
theorem dX8_tryOrders_19 : decode cX8_tryOrders 19 = .ok (.getfield 15, 3) := by decide +kernel
theorem dX8_tryOrders_22 : decode cX8_tryOrders 22 = .ok (.iload_n 2, 1) := by decide +kernel
theorem dX8_tryOrders_23 : decode cX8_tryOrders 23 = .ok (.iload_n 2, 1) := by decide +kernel
theorem dX8_tryOrders_24 : decode cX8_tryOrders 24 = .ok (.iastore, 1) := by decide +kernel
theorem dX8_tryOrders_25 : decode cX8_tryOrders 25 = .ok (.iinc 2 1, 3) := by decide +kernel
theorem dX8_tryOrders_28 : decode cX8_tryOrders 28 = .ok (.goto (-21), 3) := by decide +kernel
theorem dX8_tryOrders_31 : decode cX8_tryOrders 31 = .ok (.iconst 0, 1) := by decide +kernel
theorem dX8_tryOrders_32 : decode cX8_tryOrders 32 = .ok (.istore_n 2, 1) := by decide +kernel
theorem dX8_tryOrders_33 : decode cX8_tryOrders 33 = .ok (.ldc2_w 123, 3) := by decide +kernel
theorem dX8_tryOrders_36 : decode cX8_tryOrders 36 = .ok (.lstore_n 3, 1) := by decide +kernel
theorem dX8_tryOrders_37 : decode cX8_tryOrders 37 = .ok (.iconst 1, 1) := by decide +kernel
theorem dX8_tryOrders_38 : decode cX8_tryOrders 38 = .ok (.istore 5, 2) := by decide +kernel
theorem dX8_tryOrders_40 : decode cX8_tryOrders 40 = .ok (.iconst 0, 1) := by decide +kernel
theorem dX8_tryOrders_41 : decode cX8_tryOrders 41 = .ok (.istore 6, 2) := by decide +kernel
theorem dX8_tryOrders_43 : decode cX8_tryOrders 43 = .ok (.iload 6, 2) := by decide +kernel
theorem dX8_tryOrders_45 : decode cX8_tryOrders 45 = .ok (.bipush 120, 2) := by decide +kernel
theorem dX8_tryOrders_47 : decode cX8_tryOrders 47 = .ok (.if_icmp .ge 55, 3) := by decide +kernel
theorem dX8_tryOrders_50 : decode cX8_tryOrders 50 = .ok (.iload 5, 2) := by decide +kernel
theorem dX8_tryOrders_52 : decode cX8_tryOrders 52 = .ok (.ifCond .eq 50, 3) := by decide +kernel
theorem dX8_tryOrders_55 : decode cX8_tryOrders 55 = .ok (.aload_n 0, 1) := by decide +kernel
theorem dX8_tryOrders_56 : decode cX8_tryOrders 56 = .ok (.invokevirtual 46, 3) := by decide +kernel
theorem dX8_tryOrders_59 : decode cX8_tryOrders 59 = .ok (.aload_n 0, 1) := by decide +kernel
theorem dX8_tryOrders_60 : decode cX8_tryOrders 60 = .ok (.getfield 9, 3) := by decide +kernel
theorem dX8_tryOrders_63 : decode cX8_tryOrders 63 = .ok (.getfield 125, 3) := by decide +kernel
theorem dX8_tryOrders_66 : decode cX8_tryOrders 66 = .ok (.aload_n 0, 1) := by decide +kernel
theorem dX8_tryOrders_67 : decode cX8_tryOrders 67 = .ok (.getfield 29, 3) := by decide +kernel
theorem dX8_tryOrders_70 : decode cX8_tryOrders 70 = .ok (.invokevirtual 128, 3) := by decide +kernel
theorem dX8_tryOrders_73 : decode cX8_tryOrders 73 = .ok (.lstore 7, 2) := by decide +kernel
theorem dX8_tryOrders_75 : decode cX8_tryOrders 75 = .ok (.lload 7, 2) := by decide +kernel
theorem dX8_tryOrders_77 : decode cX8_tryOrders 77 = .ok (.lload_n 3, 1) := by decide +kernel
theorem dX8_tryOrders_78 : decode cX8_tryOrders 78 = .ok (.lcmp, 1) := by decide +kernel
theorem dX8_tryOrders_79 : decode cX8_tryOrders 79 = .ok (.ifCond .ge 11, 3) := by decide +kernel
theorem dX8_tryOrders_82 : decode cX8_tryOrders 82 = .ok (.lload 7, 2) := by decide +kernel
theorem dX8_tryOrders_84 : decode cX8_tryOrders 84 = .ok (.lstore_n 3, 1) := by decide +kernel
theorem dX8_tryOrders_85 : decode cX8_tryOrders 85 = .ok (.aload_n 0, 1) := by decide +kernel
theorem dX8_tryOrders_86 : decode cX8_tryOrders 86 = .ok (.invokevirtual 132, 3) := by decide +kernel
theorem dX8_tryOrders_89 : decode cX8_tryOrders 89 = .ok (.istore_n 2, 1) := by decide +kernel
theorem dX8_tryOrders_90 : decode cX8_tryOrders 90 = .ok (.aload_n 0, 1) := by decide +kernel
theorem dX8_tryOrders_91 : decode cX8_tryOrders 91 = .ok (.invokevirtual 136, 3) := by decide +kernel
theorem dX8_tryOrders_94 : decode cX8_tryOrders 94 = .ok (.istore 5, 2) := by decide +kernel
theorem dX8_tryOrders_96 : decode cX8_tryOrders 96 = .ok (.iinc 6 1, 3) := by decide +kernel
theorem dX8_tryOrders_99 : decode cX8_tryOrders 99 = .ok (.goto (-56), 3) := by decide +kernel
theorem dX8_tryOrders_102 : decode cX8_tryOrders 102 = .ok (.iload_n 2, 1) := by decide +kernel
theorem dX8_tryOrders_103 : decode cX8_tryOrders 103 = .ok (.ireturn, 1) := by decide +kernel
theorem dX9_begin_0 : decode cX9_begin 0 = .ok (.aload_n 0, 1) := by decide +kernel
theorem dX9_begin_1 : decode cX9_begin 1 = .ok (.iload_n 1, 1) := by decide +kernel
theorem dX9_begin_2 : decode cX9_begin 2 = .ok (.putfield 28, 3) := by decide +kernel
theorem dX9_begin_5 : decode cX9_begin 5 = .ok (.aload_n 0, 1) := by decide +kernel
theorem dX9_begin_6 : decode cX9_begin 6 = .ok (.iconst 1, 1) := by decide +kernel
theorem dX9_begin_7 : decode cX9_begin 7 = .ok (.putfield 32, 3) := by decide +kernel
theorem dX9_begin_10 : decode cX9_begin 10 = .ok (.aload_n 0, 1) := by decide +kernel
theorem dX9_begin_11 : decode cX9_begin 11 = .ok (.iconst 0, 1) := by decide +kernel
theorem dX9_begin_12 : decode cX9_begin 12 = .ok (.putfield 35, 3) := by decide +kernel
theorem dX9_begin_15 : decode cX9_begin 15 = .ok (.iconst 0, 1) := by decide +kernel
theorem dX9_begin_16 : decode cX9_begin 16 = .ok (.istore_n 2, 1) := by decide +kernel
theorem dX9_begin_17 : decode cX9_begin 17 = .ok (.iload_n 2, 1) := by decide +kernel
theorem dX9_begin_18 : decode cX9_begin 18 = .ok (.bipush 9, 2) := by decide +kernel
theorem dX9_begin_20 : decode cX9_begin 20 = .ok (.if_icmp .ge 23, 3) := by decide +kernel
theorem dX9_begin_23 : decode cX9_begin 23 = .ok (.aload_n 0, 1) := by decide +kernel
theorem dX9_begin_24 : decode cX9_begin 24 = .ok (.getfield 9, 3) := by decide +kernel
theorem dX9_begin_27 : decode cX9_begin 27 = .ok (.iload_n 2, 1) := by decide +kernel
theorem dX9_begin_28 : decode cX9_begin 28 = .ok (.iconst 0, 1) := by decide +kernel
theorem dX9_begin_29 : decode cX9_begin 29 = .ok (.iastore, 1) := by decide +kernel
theorem dX9_begin_30 : decode cX9_begin 30 = .ok (.aload_n 0, 1) := by decide +kernel
theorem dX9_begin_31 : decode cX9_begin 31 = .ok (.getfield 15, 3) := by decide +kernel
theorem dX9_begin_34 : decode cX9_begin 34 = .ok (.iload_n 2, 1) := by decide +kernel
theorem dX9_begin_35 : decode cX9_begin 35 = .ok (.iconst (-1), 1) := by decide +kernel
theorem dX9_begin_36 : decode cX9_begin 36 = .ok (.iastore, 1) := by decide +kernel
theorem dX9_begin_37 : decode cX9_begin 37 = .ok (.iinc 2 1, 3) := by decide +kernel
theorem dX9_begin_40 : decode cX9_begin 40 = .ok (.goto (-23), 3) := by decide +kernel
theorem dX9_begin_43 : decode cX9_begin 43 = .ok (.return_, 1) := by decide +kernel
theorem dX9_fillLosses_0 : decode cX9_fillLosses 0 = .ok (.iconst 0, 1) := by decide +kernel
theorem dX9_fillLosses_1 : decode cX9_fillLosses 1 = .ok (.istore_n 2, 1) := by decide +kernel
theorem dX9_fillLosses_2 : decode cX9_fillLosses 2 = .ok (.iload_n 2, 1) := by decide +kernel
theorem dX9_fillLosses_3 : decode cX9_fillLosses 3 = .ok (.bipush 9, 2) := by decide +kernel
theorem dX9_fillLosses_5 : decode cX9_fillLosses 5 = .ok (.if_icmp .ge 43, 3) := by decide +kernel
theorem dX9_fillLosses_8 : decode cX9_fillLosses 8 = .ok (.aload_n 0, 1) := by decide +kernel
theorem dX9_fillLosses_9 : decode cX9_fillLosses 9 = .ok (.getfield 21, 3) := by decide +kernel
theorem dX9_fillLosses_12 : decode cX9_fillLosses 12 = .ok (.getfield 38, 3) := by decide +kernel
theorem dX9_fillLosses_15 : decode cX9_fillLosses 15 = .ok (.iload_n 2, 1) := by decide +kernel
theorem dX9_fillLosses_16 : decode cX9_fillLosses 16 = .ok (.aload_n 0, 1) := by decide +kernel
theorem dX9_fillLosses_17 : decode cX9_fillLosses 17 = .ok (.getfield 15, 3) := by decide +kernel
theorem dX9_fillLosses_20 : decode cX9_fillLosses 20 = .ok (.iload_n 2, 1) := by decide +kernel
theorem dX9_fillLosses_21 : decode cX9_fillLosses 21 = .ok (.iaload, 1) := by decide +kernel
theorem dX9_fillLosses_22 : decode cX9_fillLosses 22 = .ok (.iconst (-1), 1) := by decide +kernel
theorem dX9_fillLosses_23 : decode cX9_fillLosses 23 = .ok (.if_icmp .ne 12, 3) := by decide +kernel
theorem dX9_fillLosses_26 : decode cX9_fillLosses 26 = .ok (.aload_n 1, 1) := by decide +kernel
theorem dX9_fillLosses_27 : decode cX9_fillLosses 27 = .ok (.getfield 38, 3) := by decide +kernel
theorem dX9_fillLosses_30 : decode cX9_fillLosses 30 = .ok (.iload_n 2, 1) := by decide +kernel
theorem dX9_fillLosses_31 : decode cX9_fillLosses 31 = .ok (.iaload, 1) := by decide +kernel
theorem dX9_fillLosses_32 : decode cX9_fillLosses 32 = .ok (.goto 9, 3) := by decide +kernel
theorem dX9_fillLosses_35 : decode cX9_fillLosses 35 = .ok (.aload_n 0, 1) := by decide +kernel
theorem dX9_fillLosses_36 : decode cX9_fillLosses 36 = .ok (.getfield 15, 3) := by decide +kernel
theorem dX9_fillLosses_39 : decode cX9_fillLosses 39 = .ok (.iload_n 2, 1) := by decide +kernel
theorem dX9_fillLosses_40 : decode cX9_fillLosses 40 = .ok (.iaload, 1) := by decide +kernel
theorem dX9_fillLosses_41 : decode cX9_fillLosses 41 = .ok (.iastore, 1) := by decide +kernel
theorem dX9_fillLosses_42 : decode cX9_fillLosses 42 = .ok (.iinc 2 1, 3) := by decide +kernel
theorem dX9_fillLosses_45 : decode cX9_fillLosses 45 = .ok (.goto (-43), 3) := by decide +kernel
theorem dX9_fillLosses_48 : decode cX9_fillLosses 48 = .ok (.return_, 1) := by decide +kernel
theorem dX9_init_0 : decode cX9_init 0 = .ok (.aload_n 0, 1) := by decide +kernel
theorem dX9_init_1 : decode cX9_init 1 = .ok (.invokespecial 3, 3) := by decide +kernel
theorem dX9_init_4 : decode cX9_init 4 = .ok (.aload_n 0, 1) := by decide +kernel
theorem dX9_init_5 : decode cX9_init 5 = .ok (.bipush 9, 2) := by decide +kernel
theorem dX9_init_7 : decode cX9_init 7 = .ok (.newarray .int, 2) := by decide +kernel
theorem dX9_init_9 : decode cX9_init 9 = .ok (.putfield 9, 3) := by decide +kernel
theorem dX9_init_12 : decode cX9_init 12 = .ok (.aload_n 0, 1) := by decide +kernel
theorem dX9_init_13 : decode cX9_init 13 = .ok (.bipush 9, 2) := by decide +kernel
theorem dX9_init_15 : decode cX9_init 15 = .ok (.newarray .int, 2) := by decide +kernel
theorem dX9_init_17 : decode cX9_init 17 = .ok (.putfield 15, 3) := by decide +kernel
theorem dX9_init_20 : decode cX9_init 20 = .ok (.aload_n 0, 1) := by decide +kernel
theorem dX9_init_21 : decode cX9_init 21 = .ok (.new 18, 3) := by decide +kernel
theorem dX9_init_24 : decode cX9_init 24 = .ok (.dup, 1) := by decide +kernel
theorem dX9_init_25 : decode cX9_init 25 = .ok (.invokespecial 20, 3) := by decide +kernel
theorem dX9_init_28 : decode cX9_init 28 = .ok (.putfield 21, 3) := by decide +kernel
theorem dX9_init_31 : decode cX9_init 31 = .ok (.aload_n 0, 1) := by decide +kernel
theorem dX9_init_32 : decode cX9_init 32 = .ok (.iconst 3, 1) := by decide +kernel
theorem dX9_init_33 : decode cX9_init 33 = .ok (.newarray .int, 2) := by decide +kernel
theorem dX9_init_35 : decode cX9_init 35 = .ok (.putfield 25, 3) := by decide +kernel
theorem dX9_init_38 : decode cX9_init 38 = .ok (.return_, 1) := by decide +kernel
theorem dX9_likeliest_0 : decode cX9_likeliest 0 = .ok (.iconst 0, 1) := by decide +kernel
theorem dX9_likeliest_1 : decode cX9_likeliest 1 = .ok (.istore_n 3, 1) := by decide +kernel
theorem dX9_likeliest_2 : decode cX9_likeliest 2 = .ok (.iconst 1, 1) := by decide +kernel
theorem dX9_likeliest_3 : decode cX9_likeliest 3 = .ok (.istore 4, 2) := by decide +kernel
theorem dX9_likeliest_5 : decode cX9_likeliest 5 = .ok (.iload 4, 2) := by decide +kernel
theorem dX9_likeliest_7 : decode cX9_likeliest 7 = .ok (.iload_n 1, 1) := by decide +kernel
theorem dX9_likeliest_8 : decode cX9_likeliest 8 = .ok (.if_icmp .ge 36, 3) := by decide +kernel
theorem dX9_likeliest_11 : decode cX9_likeliest 11 = .ok (.aload_n 0, 1) := by decide +kernel
theorem dX9_likeliest_12 : decode cX9_likeliest 12 = .ok (.getfield 9, 3) := by decide +kernel
theorem dX9_likeliest_15 : decode cX9_likeliest 15 = .ok (.iload 4, 2) := by decide +kernel
theorem dX9_likeliest_17 : decode cX9_likeliest 17 = .ok (.iconst 3, 1) := by decide +kernel
theorem dX9_likeliest_18 : decode cX9_likeliest 18 = .ok (.imul, 1) := by decide +kernel
theorem dX9_likeliest_19 : decode cX9_likeliest 19 = .ok (.iload_n 2, 1) := by decide +kernel
theorem dX9_likeliest_20 : decode cX9_likeliest 20 = .ok (.iadd, 1) := by decide +kernel
theorem dX9_likeliest_21 : decode cX9_likeliest 21 = .ok (.iaload, 1) := by decide +kernel
theorem dX9_likeliest_22 : decode cX9_likeliest 22 = .ok (.aload_n 0, 1) := by decide +kernel
theorem dX9_likeliest_23 : decode cX9_likeliest 23 = .ok (.getfield 9, 3) := by decide +kernel
theorem dX9_likeliest_26 : decode cX9_likeliest 26 = .ok (.iload_n 3, 1) := by decide +kernel
theorem dX9_likeliest_27 : decode cX9_likeliest 27 = .ok (.iconst 3, 1) := by decide +kernel
theorem dX9_likeliest_28 : decode cX9_likeliest 28 = .ok (.imul, 1) := by decide +kernel
theorem dX9_likeliest_29 : decode cX9_likeliest 29 = .ok (.iload_n 2, 1) := by decide +kernel
theorem dX9_likeliest_30 : decode cX9_likeliest 30 = .ok (.iadd, 1) := by decide +kernel
theorem dX9_likeliest_31 : decode cX9_likeliest 31 = .ok (.iaload, 1) := by decide +kernel
theorem dX9_likeliest_32 : decode cX9_likeliest 32 = .ok (.if_icmp .le 6, 3) := by decide +kernel
theorem dX9_likeliest_35 : decode cX9_likeliest 35 = .ok (.iload 4, 2) := by decide +kernel
theorem dX9_likeliest_37 : decode cX9_likeliest 37 = .ok (.istore_n 3, 1) := by decide +kernel
theorem dX9_likeliest_38 : decode cX9_likeliest 38 = .ok (.iinc 4 1, 3) := by decide +kernel
theorem dX9_likeliest_41 : decode cX9_likeliest 41 = .ok (.goto (-36), 3) := by decide +kernel
theorem dX9_likeliest_44 : decode cX9_likeliest 44 = .ok (.iload_n 3, 1) := by decide +kernel
theorem dX9_likeliest_45 : decode cX9_likeliest 45 = .ok (.ireturn, 1) := by decide +kernel
