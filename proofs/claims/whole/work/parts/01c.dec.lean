theorem dX12_lostWithout_0 : decode cX12_lostWithout 0 = .ok (.aload_n 0, 1) := by decide +kernel
theorem dX12_lostWithout_1 : decode cX12_lostWithout 1 = .ok (.invokevirtual 387, 3) := by decide +kernel
theorem dX12_lostWithout_4 : decode cX12_lostWithout 4 = .ok (.iload_n 1, 1) := by decide +kernel
theorem dX12_lostWithout_5 : decode cX12_lostWithout 5 = .ok (.iconst (-1), 1) := by decide +kernel
theorem dX12_lostWithout_6 : decode cX12_lostWithout 6 = .ok (.if_icmp .eq 8, 3) := by decide +kernel
theorem dX12_lostWithout_9 : decode cX12_lostWithout 9 = .ok (.aload_n 0, 1) := by decide +kernel
theorem dX12_lostWithout_10 : decode cX12_lostWithout 10 = .ok (.iload_n 1, 1) := by decide +kernel
theorem dX12_lostWithout_11 : decode cX12_lostWithout 11 = .ok (.invokevirtual 455, 3) := by decide +kernel
theorem dX12_lostWithout_14 : decode cX12_lostWithout 14 = .ok (.iload_n 2, 1) := by decide +kernel
theorem dX12_lostWithout_15 : decode cX12_lostWithout 15 = .ok (.iconst (-1), 1) := by decide +kernel
theorem dX12_lostWithout_16 : decode cX12_lostWithout 16 = .ok (.if_icmp .eq 8, 3) := by decide +kernel
theorem dX12_lostWithout_19 : decode cX12_lostWithout 19 = .ok (.aload_n 0, 1) := by decide +kernel
theorem dX12_lostWithout_20 : decode cX12_lostWithout 20 = .ok (.iload_n 2, 1) := by decide +kernel
theorem dX12_lostWithout_21 : decode cX12_lostWithout 21 = .ok (.invokevirtual 455, 3) := by decide +kernel
theorem dX12_lostWithout_24 : decode cX12_lostWithout 24 = .ok (.aload_n 0, 1) := by decide +kernel
theorem dX12_lostWithout_25 : decode cX12_lostWithout 25 = .ok (.iconst 1, 1) := by decide +kernel
theorem dX12_lostWithout_26 : decode cX12_lostWithout 26 = .ok (.invokevirtual 362, 3) := by decide +kernel
theorem dX12_lostWithout_29 : decode cX12_lostWithout 29 = .ok (.lreturn, 1) := by decide +kernel
theorem dX12_many_0 : decode cX12_many 0 = .ok (.iload_n 1, 1) := by decide +kernel
theorem dX12_many_1 : decode cX12_many 1 = .ok (.iconst 1, 1) := by decide +kernel
theorem dX12_many_2 : decode cX12_many 2 = .ok (.bipush 11, 2) := by decide +kernel
theorem dX12_many_4 : decode cX12_many 4 = .ok (.invokestatic 234, 3) := by decide +kernel
theorem dX12_many_7 : decode cX12_many 7 = .ok (.ifCond .eq 19, 3) := by decide +kernel
theorem dX12_many_10 : decode cX12_many 10 = .ok (.iload_n 1, 1) := by decide +kernel
theorem dX12_many_11 : decode cX12_many 11 = .ok (.iconst 2, 1) := by decide +kernel
theorem dX12_many_12 : decode cX12_many 12 = .ok (.irem, 1) := by decide +kernel
theorem dX12_many_13 : decode cX12_many 13 = .ok (.ifCond .eq 13, 3) := by decide +kernel
theorem dX12_many_16 : decode cX12_many 16 = .ok (.iload_n 2, 1) := by decide +kernel
theorem dX12_many_17 : decode cX12_many 17 = .ok (.iconst 0, 1) := by decide +kernel
theorem dX12_many_18 : decode cX12_many 18 = .ok (.bipush 20, 2) := by decide +kernel
theorem dX12_many_20 : decode cX12_many 20 = .ok (.invokestatic 234, 3) := by decide +kernel
theorem dX12_many_23 : decode cX12_many 23 = .ok (.ifCond .ne 8, 3) := by decide +kernel
theorem dX12_many_26 : decode cX12_many 26 = .ok (.aload_n 0, 1) := by decide +kernel
theorem dX12_many_27 : decode cX12_many 27 = .ok (.invokevirtual 325, 3) := by decide +kernel
theorem dX12_many_30 : decode cX12_many 30 = .ok (.lreturn, 1) := by decide +kernel
theorem dX12_many_31 : decode cX12_many 31 = .ok (.aload_n 0, 1) := by decide +kernel
theorem dX12_many_32 : decode cX12_many 32 = .ok (.iconst 0, 1) := by decide +kernel
theorem dX12_many_33 : decode cX12_many 33 = .ok (.putfield 149, 3) := by decide +kernel
theorem dX12_many_36 : decode cX12_many 36 = .ok (.lconst 0, 1) := by decide +kernel
theorem dX12_many_37 : decode cX12_many 37 = .ok (.lstore_n 3, 1) := by decide +kernel
theorem dX12_many_38 : decode cX12_many 38 = .ok (.iload_n 1, 1) := by decide +kernel
theorem dX12_many_39 : decode cX12_many 39 = .ok (.iconst 2, 1) := by decide +kernel
theorem dX12_many_40 : decode cX12_many 40 = .ok (.idiv, 1) := by decide +kernel
theorem dX12_many_41 : decode cX12_many 41 = .ok (.iconst 1, 1) := by decide +kernel
theorem dX12_many_42 : decode cX12_many 42 = .ok (.iadd, 1) := by decide +kernel
theorem dX12_many_43 : decode cX12_many 43 = .ok (.istore 5, 2) := by decide +kernel
theorem dX12_many_45 : decode cX12_many 45 = .ok (.iload 5, 2) := by decide +kernel
theorem dX12_many_47 : decode cX12_many 47 = .ok (.iload_n 1, 1) := by decide +kernel
theorem dX12_many_48 : decode cX12_many 48 = .ok (.if_icmp .gt 87, 3) := by decide +kernel
theorem dX12_many_51 : decode cX12_many 51 = .ok (.lconst 1, 1) := by decide +kernel
theorem dX12_many_52 : decode cX12_many 52 = .ok (.lstore 6, 2) := by decide +kernel
theorem dX12_many_54 : decode cX12_many 54 = .ok (.iconst 1, 1) := by decide +kernel
theorem dX12_many_55 : decode cX12_many 55 = .ok (.istore 8, 2) := by decide +kernel
theorem dX12_many_57 : decode cX12_many 57 = .ok (.iload 8, 2) := by decide +kernel
theorem dX12_many_59 : decode cX12_many 59 = .ok (.iload 5, 2) := by decide +kernel
theorem dX12_many_61 : decode cX12_many 61 = .ok (.if_icmp .gt 26, 3) := by decide +kernel
theorem dX12_many_64 : decode cX12_many 64 = .ok (.lload 6, 2) := by decide +kernel
theorem dX12_many_66 : decode cX12_many 66 = .ok (.iload_n 1, 1) := by decide +kernel
theorem dX12_many_67 : decode cX12_many 67 = .ok (.iload 5, 2) := by decide +kernel
theorem dX12_many_69 : decode cX12_many 69 = .ok (.isub, 1) := by decide +kernel
theorem dX12_many_70 : decode cX12_many 70 = .ok (.iload 8, 2) := by decide +kernel
theorem dX12_many_72 : decode cX12_many 72 = .ok (.iadd, 1) := by decide +kernel
theorem dX12_many_73 : decode cX12_many 73 = .ok (.i2l, 1) := by decide +kernel
theorem dX12_many_74 : decode cX12_many 74 = .ok (.lmul, 1) := by decide +kernel
theorem dX12_many_75 : decode cX12_many 75 = .ok (.iload 8, 2) := by decide +kernel
theorem dX12_many_77 : decode cX12_many 77 = .ok (.i2l, 1) := by decide +kernel
theorem dX12_many_78 : decode cX12_many 78 = .ok (.ldiv, 1) := by decide +kernel
theorem dX12_many_79 : decode cX12_many 79 = .ok (.lstore 6, 2) := by decide +kernel
theorem dX12_many_81 : decode cX12_many 81 = .ok (.iinc 8 1, 3) := by decide +kernel
theorem dX12_many_84 : decode cX12_many 84 = .ok (.goto (-27), 3) := by decide +kernel
theorem dX12_many_87 : decode cX12_many 87 = .ok (.iconst 0, 1) := by decide +kernel
theorem dX12_many_88 : decode cX12_many 88 = .ok (.istore 8, 2) := by decide +kernel
theorem dX12_many_90 : decode cX12_many 90 = .ok (.iload 8, 2) := by decide +kernel
theorem dX12_many_92 : decode cX12_many 92 = .ok (.iload_n 1, 1) := by decide +kernel
theorem dX12_many_93 : decode cX12_many 93 = .ok (.if_icmp .ge 31, 3) := by decide +kernel
theorem dX12_many_96 : decode cX12_many 96 = .ok (.lload 6, 2) := by decide +kernel
theorem dX12_many_98 : decode cX12_many 98 = .ok (.iload 8, 2) := by decide +kernel
theorem dX12_many_100 : decode cX12_many 100 = .ok (.iload 5, 2) := by decide +kernel
theorem dX12_many_102 : decode cX12_many 102 = .ok (.if_icmp .ge 8, 3) := by decide +kernel
theorem dX12_many_105 : decode cX12_many 105 = .ok (.iload_n 2, 1) := by decide +kernel
theorem dX12_many_106 : decode cX12_many 106 = .ok (.i2l, 1) := by decide +kernel
theorem dX12_many_107 : decode cX12_many 107 = .ok (.goto 8, 3) := by decide +kernel
theorem dX12_many_110 : decode cX12_many 110 = .ok (.bipush 20, 2) := by decide +kernel
theorem dX12_many_112 : decode cX12_many 112 = .ok (.iload_n 2, 1) := by decide +kernel
theorem dX12_many_113 : decode cX12_many 113 = .ok (.isub, 1) := by decide +kernel
theorem dX12_many_114 : decode cX12_many 114 = .ok (.i2l, 1) := by decide +kernel
theorem dX12_many_115 : decode cX12_many 115 = .ok (.lmul, 1) := by decide +kernel
theorem dX12_many_116 : decode cX12_many 116 = .ok (.lstore 6, 2) := by decide +kernel
theorem dX12_many_118 : decode cX12_many 118 = .ok (.iinc 8 1, 3) := by decide +kernel
theorem dX12_many_121 : decode cX12_many 121 = .ok (.goto (-31), 3) := by decide +kernel
theorem dX12_many_124 : decode cX12_many 124 = .ok (.lload_n 3, 1) := by decide +kernel
theorem dX12_many_125 : decode cX12_many 125 = .ok (.lload 6, 2) := by decide +kernel
theorem dX12_many_127 : decode cX12_many 127 = .ok (.ladd, 1) := by decide +kernel
theorem dX12_many_128 : decode cX12_many 128 = .ok (.lstore_n 3, 1) := by decide +kernel
theorem dX12_many_129 : decode cX12_many 129 = .ok (.iinc 5 1, 3) := by decide +kernel
theorem dX12_many_132 : decode cX12_many 132 = .ok (.goto (-87), 3) := by decide +kernel
theorem dX12_many_135 : decode cX12_many 135 = .ok (.lload_n 3, 1) := by decide +kernel
theorem dX12_many_136 : decode cX12_many 136 = .ok (.lreturn, 1) := by decide +kernel
theorem dX12_matter_0 : decode cX12_matter 0 = .ok (.aload_n 0, 1) := by decide +kernel
theorem dX12_matter_1 : decode cX12_matter 1 = .ok (.iconst 0, 1) := by decide +kernel
theorem dX12_matter_2 : decode cX12_matter 2 = .ok (.putfield 149, 3) := by decide +kernel
theorem dX12_matter_5 : decode cX12_matter 5 = .ok (.aload_n 0, 1) := by decide +kernel
theorem dX12_matter_6 : decode cX12_matter 6 = .ok (.aload_n 0, 1) := by decide +kernel
theorem dX12_matter_7 : decode cX12_matter 7 = .ok (.invokevirtual 288, 3) := by decide +kernel
theorem dX12_matter_10 : decode cX12_matter 10 = .ok (.putfield 160, 3) := by decide +kernel
theorem dX12_matter_13 : decode cX12_matter 13 = .ok (.aload_n 0, 1) := by decide +kernel
theorem dX12_matter_14 : decode cX12_matter 14 = .ok (.iconst 0, 1) := by decide +kernel
theorem dX12_matter_15 : decode cX12_matter 15 = .ok (.putfield 197, 3) := by decide +kernel
theorem dX12_matter_18 : decode cX12_matter 18 = .ok (.aload_n 0, 1) := by decide +kernel
theorem dX12_matter_19 : decode cX12_matter 19 = .ok (.iconst 0, 1) := by decide +kernel
theorem dX12_matter_20 : decode cX12_matter 20 = .ok (.putfield 251, 3) := by decide +kernel
theorem dX12_matter_23 : decode cX12_matter 23 = .ok (.aload_n 0, 1) := by decide +kernel
theorem dX12_matter_24 : decode cX12_matter 24 = .ok (.getfield 20, 3) := by decide +kernel
theorem dX12_matter_27 : decode cX12_matter 27 = .ok (.iconst 1, 1) := by decide +kernel
theorem dX12_matter_28 : decode cX12_matter 28 = .ok (.iconst 0, 1) := by decide +kernel
theorem dX12_matter_29 : decode cX12_matter 29 = .ok (.iastore, 1) := by decide +kernel
theorem dX12_matter_30 : decode cX12_matter 30 = .ok (.aload_n 0, 1) := by decide +kernel
theorem dX12_matter_31 : decode cX12_matter 31 = .ok (.getfield 23, 3) := by decide +kernel
theorem dX12_matter_34 : decode cX12_matter 34 = .ok (.iconst 1, 1) := by decide +kernel
theorem dX12_matter_35 : decode cX12_matter 35 = .ok (.iconst 0, 1) := by decide +kernel
theorem dX12_matter_36 : decode cX12_matter 36 = .ok (.iastore, 1) := by decide +kernel
theorem dX12_matter_37 : decode cX12_matter 37 = .ok (.aload_n 0, 1) := by decide +kernel
theorem dX12_matter_38 : decode cX12_matter 38 = .ok (.getfield 50, 3) := by decide +kernel
theorem dX12_matter_41 : decode cX12_matter 41 = .ok (.iconst 1, 1) := by decide +kernel
theorem dX12_matter_42 : decode cX12_matter 42 = .ok (.iconst 0, 1) := by decide +kernel
theorem dX12_matter_43 : decode cX12_matter 43 = .ok (.iastore, 1) := by decide +kernel
theorem dX12_matter_44 : decode cX12_matter 44 = .ok (.aload_n 0, 1) := by decide +kernel
theorem dX12_matter_45 : decode cX12_matter 45 = .ok (.getfield 59, 3) := by decide +kernel
theorem dX12_matter_48 : decode cX12_matter 48 = .ok (.iconst 1, 1) := by decide +kernel
theorem dX12_matter_49 : decode cX12_matter 49 = .ok (.iconst (-1), 1) := by decide +kernel
theorem dX12_matter_50 : decode cX12_matter 50 = .ok (.iastore, 1) := by decide +kernel
theorem dX12_matter_51 : decode cX12_matter 51 = .ok (.iconst 0, 1) := by decide +kernel
theorem dX12_matter_52 : decode cX12_matter 52 = .ok (.istore_n 1, 1) := by decide +kernel
theorem dX12_matter_53 : decode cX12_matter 53 = .ok (.iload_n 1, 1) := by decide +kernel
theorem dX12_matter_54 : decode cX12_matter 54 = .ok (.bipush 9, 2) := by decide +kernel
theorem dX12_matter_56 : decode cX12_matter 56 = .ok (.if_icmp .ge 20, 3) := by decide +kernel
theorem dX12_matter_59 : decode cX12_matter 59 = .ok (.aload_n 0, 1) := by decide +kernel
theorem dX12_matter_60 : decode cX12_matter 60 = .ok (.getfield 35, 3) := by decide +kernel
theorem dX12_matter_63 : decode cX12_matter 63 = .ok (.sipush 135, 3) := by decide +kernel
theorem dX12_matter_66 : decode cX12_matter 66 = .ok (.iload_n 1, 1) := by decide +kernel
theorem dX12_matter_67 : decode cX12_matter 67 = .ok (.iadd, 1) := by decide +kernel
theorem dX12_matter_68 : decode cX12_matter 68 = .ok (.iconst (-1), 1) := by decide +kernel
theorem dX12_matter_69 : decode cX12_matter 69 = .ok (.iastore, 1) := by decide +kernel
theorem dX12_matter_70 : decode cX12_matter 70 = .ok (.iinc 1 1, 3) := by decide +kernel
theorem dX12_matter_73 : decode cX12_matter 73 = .ok (.goto (-20), 3) := by decide +kernel
theorem dX12_matter_76 : decode cX12_matter 76 = .ok (.aload_n 0, 1) := by decide +kernel
theorem dX12_matter_77 : decode cX12_matter 77 = .ok (.iconst 0, 1) := by decide +kernel
theorem dX12_matter_78 : decode cX12_matter 78 = .ok (.putfield 163, 3) := by decide +kernel
theorem dX12_matter_81 : decode cX12_matter 81 = .ok (.aload_n 0, 1) := by decide +kernel
theorem dX12_matter_82 : decode cX12_matter 82 = .ok (.invokevirtual 210, 3) := by decide +kernel
theorem dX12_matter_85 : decode cX12_matter 85 = .ok (.aload_n 0, 1) := by decide +kernel
theorem dX12_matter_86 : decode cX12_matter 86 = .ok (.getfield 169, 3) := by decide +kernel
theorem dX12_matter_89 : decode cX12_matter 89 = .ok (.ifCond .eq 17, 3) := by decide +kernel
theorem dX12_matter_92 : decode cX12_matter 92 = .ok (.aload_n 0, 1) := by decide +kernel
theorem dX12_matter_93 : decode cX12_matter 93 = .ok (.invokevirtual 291, 3) := by decide +kernel
theorem dX12_matter_96 : decode cX12_matter 96 = .ok (.ifCond .ne (-11), 3) := by decide +kernel
theorem dX12_matter_99 : decode cX12_matter 99 = .ok (.iconst (-1), 1) := by decide +kernel
theorem dX12_matter_100 : decode cX12_matter 100 = .ok (.aload_n 0, 1) := by decide +kernel
theorem dX12_matter_101 : decode cX12_matter 101 = .ok (.getfield 200, 3) := by decide +kernel
theorem dX12_matter_104 : decode cX12_matter 104 = .ok (.isub, 1) := by decide +kernel
theorem dX12_matter_105 : decode cX12_matter 105 = .ok (.ireturn, 1) := by decide +kernel
theorem dX12_matter_106 : decode cX12_matter 106 = .ok (.aload_n 0, 1) := by decide +kernel
theorem dX12_matter_107 : decode cX12_matter 107 = .ok (.getfield 23, 3) := by decide +kernel
theorem dX12_matter_110 : decode cX12_matter 110 = .ok (.iconst 1, 1) := by decide +kernel
theorem dX12_matter_111 : decode cX12_matter 111 = .ok (.iaload, 1) := by decide +kernel
theorem dX12_matter_112 : decode cX12_matter 112 = .ok (.ifCond .ne 16, 3) := by decide +kernel
theorem dX12_matter_115 : decode cX12_matter 115 = .ok (.aload_n 0, 1) := by decide +kernel
theorem dX12_matter_116 : decode cX12_matter 116 = .ok (.iconst 1, 1) := by decide +kernel
theorem dX12_matter_117 : decode cX12_matter 117 = .ok (.invokevirtual 207, 3) := by decide +kernel
theorem dX12_matter_120 : decode cX12_matter 120 = .ok (.pop, 1) := by decide +kernel
theorem dX12_matter_121 : decode cX12_matter 121 = .ok (.iconst (-1), 1) := by decide +kernel
theorem dX12_matter_122 : decode cX12_matter 122 = .ok (.aload_n 0, 1) := by decide +kernel
theorem dX12_matter_123 : decode cX12_matter 123 = .ok (.getfield 200, 3) := by decide +kernel
theorem dX12_matter_126 : decode cX12_matter 126 = .ok (.isub, 1) := by decide +kernel
theorem dX12_matter_127 : decode cX12_matter 127 = .ok (.ireturn, 1) := by decide +kernel
theorem dX12_matter_128 : decode cX12_matter 128 = .ok (.aload_n 0, 1) := by decide +kernel
theorem dX12_matter_129 : decode cX12_matter 129 = .ok (.invokevirtual 294, 3) := by decide +kernel
theorem dX12_matter_132 : decode cX12_matter 132 = .ok (.aload_n 0, 1) := by decide +kernel
theorem dX12_matter_133 : decode cX12_matter 133 = .ok (.invokevirtual 297, 3) := by decide +kernel
theorem dX12_matter_136 : decode cX12_matter 136 = .ok (.aload_n 0, 1) := by decide +kernel
theorem dX12_matter_137 : decode cX12_matter 137 = .ok (.invokevirtual 300, 3) := by decide +kernel
theorem dX12_matter_140 : decode cX12_matter 140 = .ok (.aload_n 0, 1) := by decide +kernel
theorem dX12_matter_141 : decode cX12_matter 141 = .ok (.getfield 251, 3) := by decide +kernel
theorem dX12_matter_144 : decode cX12_matter 144 = .ok (.ireturn, 1) := by decide +kernel
theorem dX12_minutes_0 : decode cX12_minutes 0 = .ok (.aload_n 0, 1) := by decide +kernel
theorem dX12_minutes_1 : decode cX12_minutes 1 = .ok (.iload_n 1, 1) := by decide +kernel
theorem dX12_minutes_2 : decode cX12_minutes 2 = .ok (.iload_n 2, 1) := by decide +kernel
theorem dX12_minutes_3 : decode cX12_minutes 3 = .ok (.invokevirtual 349, 3) := by decide +kernel
theorem dX12_minutes_6 : decode cX12_minutes 6 = .ok (.ifCond .eq 10, 3) := by decide +kernel
theorem dX12_minutes_9 : decode cX12_minutes 9 = .ok (.aload_n 0, 1) := by decide +kernel
theorem dX12_minutes_10 : decode cX12_minutes 10 = .ok (.invokevirtual 470, 3) := by decide +kernel
theorem dX12_minutes_13 : decode cX12_minutes 13 = .ok (.ifCond .ne 8, 3) := by decide +kernel
theorem dX12_minutes_16 : decode cX12_minutes 16 = .ok (.aload_n 0, 1) := by decide +kernel
theorem dX12_minutes_17 : decode cX12_minutes 17 = .ok (.invokevirtual 325, 3) := by decide +kernel
theorem dX12_minutes_20 : decode cX12_minutes 20 = .ok (.lreturn, 1) := by decide +kernel
theorem dX12_minutes_21 : decode cX12_minutes 21 = .ok (.aload_n 0, 1) := by decide +kernel
theorem dX12_minutes_22 : decode cX12_minutes 22 = .ok (.iconst 0, 1) := by decide +kernel
theorem dX12_minutes_23 : decode cX12_minutes 23 = .ok (.putfield 149, 3) := by decide +kernel
theorem dX12_minutes_26 : decode cX12_minutes 26 = .ok (.aload_n 0, 1) := by decide +kernel
theorem dX12_minutes_27 : decode cX12_minutes 27 = .ok (.iconst 0, 1) := by decide +kernel
theorem dX12_minutes_28 : decode cX12_minutes 28 = .ok (.putfield 153, 3) := by decide +kernel
theorem dX12_minutes_31 : decode cX12_minutes 31 = .ok (.lconst 0, 1) := by decide +kernel
theorem dX12_minutes_32 : decode cX12_minutes 32 = .ok (.lstore_n 3, 1) := by decide +kernel
theorem dX12_minutes_33 : decode cX12_minutes 33 = .ok (.iconst 0, 1) := by decide +kernel
theorem dX12_minutes_34 : decode cX12_minutes 34 = .ok (.istore 5, 2) := by decide +kernel
theorem dX12_minutes_36 : decode cX12_minutes 36 = .ok (.iload 5, 2) := by decide +kernel
theorem dX12_minutes_38 : decode cX12_minutes 38 = .ok (.aload_n 0, 1) := by decide +kernel
theorem dX12_minutes_39 : decode cX12_minutes 39 = .ok (.getfield 309, 3) := by decide +kernel
theorem dX12_minutes_42 : decode cX12_minutes 42 = .ok (.if_icmp .ge 38, 3) := by decide +kernel
theorem dX12_minutes_45 : decode cX12_minutes 45 = .ok (.aload_n 0, 1) := by decide +kernel
theorem dX12_minutes_46 : decode cX12_minutes 46 = .ok (.iload 5, 2) := by decide +kernel
theorem dX12_minutes_48 : decode cX12_minutes 48 = .ok (.iload_n 1, 1) := by decide +kernel
theorem dX12_minutes_49 : decode cX12_minutes 49 = .ok (.invokevirtual 312, 3) := by decide +kernel
theorem dX12_minutes_52 : decode cX12_minutes 52 = .ok (.iload_n 2, 1) := by decide +kernel
theorem dX12_minutes_53 : decode cX12_minutes 53 = .ok (.if_icmp .ne 21, 3) := by decide +kernel
theorem dX12_minutes_56 : decode cX12_minutes 56 = .ok (.aload_n 0, 1) := by decide +kernel
theorem dX12_minutes_57 : decode cX12_minutes 57 = .ok (.iload 5, 2) := by decide +kernel
theorem dX12_minutes_59 : decode cX12_minutes 59 = .ok (.invokevirtual 473, 3) := by decide +kernel
theorem dX12_minutes_62 : decode cX12_minutes 62 = .ok (.ifCond .eq 12, 3) := by decide +kernel
theorem dX12_minutes_65 : decode cX12_minutes 65 = .ok (.lload_n 3, 1) := by decide +kernel
theorem dX12_minutes_66 : decode cX12_minutes 66 = .ok (.aload_n 0, 1) := by decide +kernel
theorem dX12_minutes_67 : decode cX12_minutes 67 = .ok (.iload 5, 2) := by decide +kernel
theorem dX12_minutes_69 : decode cX12_minutes 69 = .ok (.invokevirtual 476, 3) := by decide +kernel
theorem dX12_minutes_72 : decode cX12_minutes 72 = .ok (.ladd, 1) := by decide +kernel
theorem dX12_minutes_73 : decode cX12_minutes 73 = .ok (.lstore_n 3, 1) := by decide +kernel
theorem dX12_minutes_74 : decode cX12_minutes 74 = .ok (.iinc 5 1, 3) := by decide +kernel
theorem dX12_minutes_77 : decode cX12_minutes 77 = .ok (.goto (-41), 3) := by decide +kernel
theorem dX12_minutes_80 : decode cX12_minutes 80 = .ok (.lload_n 3, 1) := by decide +kernel
theorem dX12_minutes_81 : decode cX12_minutes 81 = .ok (.lreturn, 1) := by decide +kernel
theorem dX12_none_0 : decode cX12_none 0 = .ok (.bipush 110, 2) := by decide +kernel
theorem dX12_none_2 : decode cX12_none 2 = .ok (.bipush 111, 2) := by decide +kernel
theorem dX12_none_4 : decode cX12_none 4 = .ok (.bipush 110, 2) := by decide +kernel
theorem dX12_none_6 : decode cX12_none 6 = .ok (.bipush 101, 2) := by decide +kernel
theorem dX12_none_8 : decode cX12_none 8 = .ok (.iconst 0, 1) := by decide +kernel
theorem dX12_none_9 : decode cX12_none 9 = .ok (.invokestatic 193, 3) := by decide +kernel
theorem dX12_none_12 : decode cX12_none 12 = .ok (.lreturn, 1) := by decide +kernel
theorem dX12_other_0 : decode cX12_other 0 = .ok (.bipush 101, 2) := by decide +kernel
theorem dX12_other_2 : decode cX12_other 2 = .ok (.bipush 108, 2) := by decide +kernel
theorem dX12_other_4 : decode cX12_other 4 = .ok (.bipush 115, 2) := by decide +kernel
theorem dX12_other_6 : decode cX12_other 6 = .ok (.bipush 101, 2) := by decide +kernel
theorem dX12_other_8 : decode cX12_other 8 = .ok (.iconst 0, 1) := by decide +kernel
theorem dX12_other_9 : decode cX12_other 9 = .ok (.invokestatic 193, 3) := by decide +kernel
theorem dX12_other_12 : decode cX12_other 12 = .ok (.lreturn, 1) := by decide +kernel
theorem dX12_parts_0 : decode cX12_parts 0 = .ok (.aload_n 0, 1) := by decide +kernel
theorem dX12_parts_1 : decode cX12_parts 1 = .ok (.invokevirtual 319, 3) := by decide +kernel
theorem dX12_parts_4 : decode cX12_parts 4 = .ok (.istore_n 2, 1) := by decide +kernel
theorem dX12_parts_5 : decode cX12_parts 5 = .ok (.aload_n 0, 1) := by decide +kernel
theorem dX12_parts_6 : decode cX12_parts 6 = .ok (.iload_n 1, 1) := by decide +kernel
theorem dX12_parts_7 : decode cX12_parts 7 = .ok (.invokevirtual 322, 3) := by decide +kernel
theorem dX12_parts_10 : decode cX12_parts 10 = .ok (.ifCond .eq 8, 3) := by decide +kernel
theorem dX12_parts_13 : decode cX12_parts 13 = .ok (.iload_n 2, 1) := by decide +kernel
theorem dX12_parts_14 : decode cX12_parts 14 = .ok (.iconst (-1), 1) := by decide +kernel
theorem dX12_parts_15 : decode cX12_parts 15 = .ok (.if_icmp .ne 8, 3) := by decide +kernel
theorem dX12_parts_18 : decode cX12_parts 18 = .ok (.aload_n 0, 1) := by decide +kernel
theorem dX12_parts_19 : decode cX12_parts 19 = .ok (.invokevirtual 325, 3) := by decide +kernel
theorem dX12_parts_22 : decode cX12_parts 22 = .ok (.lreturn, 1) := by decide +kernel
theorem dX12_parts_23 : decode cX12_parts 23 = .ok (.aload_n 0, 1) := by decide +kernel
theorem dX12_parts_24 : decode cX12_parts 24 = .ok (.iconst 0, 1) := by decide +kernel
theorem dX12_parts_25 : decode cX12_parts 25 = .ok (.putfield 149, 3) := by decide +kernel
theorem dX12_parts_28 : decode cX12_parts 28 = .ok (.aload_n 0, 1) := by decide +kernel
theorem dX12_parts_29 : decode cX12_parts 29 = .ok (.iconst 0, 1) := by decide +kernel
theorem dX12_parts_30 : decode cX12_parts 30 = .ok (.putfield 153, 3) := by decide +kernel
theorem dX12_parts_33 : decode cX12_parts 33 = .ok (.aload_n 0, 1) := by decide +kernel
theorem dX12_parts_34 : decode cX12_parts 34 = .ok (.getfield 65, 3) := by decide +kernel
theorem dX12_parts_37 : decode cX12_parts 37 = .ok (.iconst 3, 1) := by decide +kernel
theorem dX12_parts_38 : decode cX12_parts 38 = .ok (.iload_n 2, 1) := by decide +kernel
theorem dX12_parts_39 : decode cX12_parts 39 = .ok (.imul, 1) := by decide +kernel
theorem dX12_parts_40 : decode cX12_parts 40 = .ok (.iload_n 1, 1) := by decide +kernel
theorem dX12_parts_41 : decode cX12_parts 41 = .ok (.iadd, 1) := by decide +kernel
theorem dX12_parts_42 : decode cX12_parts 42 = .ok (.laload, 1) := by decide +kernel
theorem dX12_parts_43 : decode cX12_parts 43 = .ok (.lreturn, 1) := by decide +kernel
theorem dX12_readKey_0 : decode cX12_readKey 0 = .ok (.aload_n 0, 1) := by decide +kernel
theorem dX12_readKey_1 : decode cX12_readKey 1 = .ok (.lload_n 1, 1) := by decide +kernel
theorem dX12_readKey_2 : decode cX12_readKey 2 = .ok (.invokevirtual 203, 3) := by decide +kernel
theorem dX12_readKey_5 : decode cX12_readKey 5 = .ok (.ifCond .ne 9, 3) := by decide +kernel
theorem dX12_readKey_8 : decode cX12_readKey 8 = .ok (.aload_n 0, 1) := by decide +kernel
theorem dX12_readKey_9 : decode cX12_readKey 9 = .ok (.iconst 1, 1) := by decide +kernel
theorem dX12_readKey_10 : decode cX12_readKey 10 = .ok (.invokevirtual 207, 3) := by decide +kernel
theorem dX12_readKey_13 : decode cX12_readKey 13 = .ok (.ireturn, 1) := by decide +kernel
theorem dX12_readKey_14 : decode cX12_readKey 14 = .ok (.aload_n 0, 1) := by decide +kernel
theorem dX12_readKey_15 : decode cX12_readKey 15 = .ok (.invokevirtual 210, 3) := by decide +kernel
theorem dX12_readKey_18 : decode cX12_readKey 18 = .ok (.iconst 1, 1) := by decide +kernel
theorem dX12_readKey_19 : decode cX12_readKey 19 = .ok (.ireturn, 1) := by decide +kernel
theorem dX12_readLine_0 : decode cX12_readLine 0 = .ok (.aload_n 0, 1) := by decide +kernel
theorem dX12_readLine_1 : decode cX12_readLine 1 = .ok (.invokevirtual 217, 3) := by decide +kernel
theorem dX12_readLine_4 : decode cX12_readLine 4 = .ok (.istore_n 1, 1) := by decide +kernel
theorem dX12_readLine_5 : decode cX12_readLine 5 = .ok (.iload_n 1, 1) := by decide +kernel
theorem dX12_readLine_6 : decode cX12_readLine 6 = .ok (.iconst (-1), 1) := by decide +kernel
theorem dX12_readLine_7 : decode cX12_readLine 7 = .ok (.if_icmp .ne 9, 3) := by decide +kernel
theorem dX12_readLine_10 : decode cX12_readLine 10 = .ok (.aload_n 0, 1) := by decide +kernel
theorem dX12_readLine_11 : decode cX12_readLine 11 = .ok (.iconst 1, 1) := by decide +kernel
theorem dX12_readLine_12 : decode cX12_readLine 12 = .ok (.invokevirtual 207, 3) := by decide +kernel
theorem dX12_readLine_15 : decode cX12_readLine 15 = .ok (.ireturn, 1) := by decide +kernel
theorem dX12_readLine_16 : decode cX12_readLine 16 = .ok (.iload_n 1, 1) := by decide +kernel
theorem dX12_readLine_17 : decode cX12_readLine 17 = .ok (.ifCond .le 29, 3) := by decide +kernel
theorem dX12_readLine_20 : decode cX12_readLine 20 = .ok (.aload_n 0, 1) := by decide +kernel
theorem dX12_readLine_21 : decode cX12_readLine 21 = .ok (.getfield 251, 3) := by decide +kernel
theorem dX12_readLine_24 : decode cX12_readLine 24 = .ok (.aload_n 0, 1) := by decide +kernel
theorem dX12_readLine_25 : decode cX12_readLine 25 = .ok (.getfield 20, 3) := by decide +kernel
theorem dX12_readLine_28 : decode cX12_readLine 28 = .ok (.iconst 1, 1) := by decide +kernel
theorem dX12_readLine_29 : decode cX12_readLine 29 = .ok (.iaload, 1) := by decide +kernel
theorem dX12_readLine_30 : decode cX12_readLine 30 = .ok (.if_icmp .ne 16, 3) := by decide +kernel
theorem dX12_readLine_33 : decode cX12_readLine 33 = .ok (.aload_n 0, 1) := by decide +kernel
theorem dX12_readLine_34 : decode cX12_readLine 34 = .ok (.invokevirtual 270, 3) := by decide +kernel
theorem dX12_readLine_37 : decode cX12_readLine 37 = .ok (.ifCond .ne 9, 3) := by decide +kernel
theorem dX12_readLine_40 : decode cX12_readLine 40 = .ok (.aload_n 0, 1) := by decide +kernel
theorem dX12_readLine_41 : decode cX12_readLine 41 = .ok (.iconst 4, 1) := by decide +kernel
theorem dX12_readLine_42 : decode cX12_readLine 42 = .ok (.invokevirtual 207, 3) := by decide +kernel
theorem dX12_readLine_45 : decode cX12_readLine 45 = .ok (.ireturn, 1) := by decide +kernel
theorem dX12_readLine_46 : decode cX12_readLine 46 = .ok (.iload_n 1, 1) := by decide +kernel
theorem dX12_readLine_47 : decode cX12_readLine 47 = .ok (.tableswitch 111 0 4 #[33, 41, 49, 57, 65], 33) := by decide +kernel
theorem dX12_readLine_80 : decode cX12_readLine 80 = .ok (.aload_n 0, 1) := by decide +kernel
theorem dX12_readLine_81 : decode cX12_readLine 81 = .ok (.invokevirtual 273, 3) := by decide +kernel
theorem dX12_readLine_84 : decode cX12_readLine 84 = .ok (.istore_n 2, 1) := by decide +kernel
theorem dX12_readLine_85 : decode cX12_readLine 85 = .ok (.goto 78, 3) := by decide +kernel
theorem dX12_readLine_88 : decode cX12_readLine 88 = .ok (.aload_n 0, 1) := by decide +kernel
theorem dX12_readLine_89 : decode cX12_readLine 89 = .ok (.invokevirtual 276, 3) := by decide +kernel
theorem dX12_readLine_92 : decode cX12_readLine 92 = .ok (.istore_n 2, 1) := by decide +kernel
theorem dX12_readLine_93 : decode cX12_readLine 93 = .ok (.goto 70, 3) := by decide +kernel
theorem dX12_readLine_96 : decode cX12_readLine 96 = .ok (.aload_n 0, 1) := by decide +kernel
theorem dX12_readLine_97 : decode cX12_readLine 97 = .ok (.invokevirtual 279, 3) := by decide +kernel
theorem dX12_readLine_100 : decode cX12_readLine 100 = .ok (.istore_n 2, 1) := by decide +kernel
theorem dX12_readLine_101 : decode cX12_readLine 101 = .ok (.goto 62, 3) := by decide +kernel
theorem dX12_readLine_104 : decode cX12_readLine 104 = .ok (.aload_n 0, 1) := by decide +kernel
theorem dX12_readLine_105 : decode cX12_readLine 105 = .ok (.invokevirtual 282, 3) := by decide +kernel
theorem dX12_readLine_108 : decode cX12_readLine 108 = .ok (.istore_n 2, 1) := by decide +kernel
theorem dX12_readLine_109 : decode cX12_readLine 109 = .ok (.goto 54, 3) := by decide +kernel
theorem dX12_readLine_112 : decode cX12_readLine 112 = .ok (.aload_n 0, 1) := by decide +kernel
theorem dX12_readLine_113 : decode cX12_readLine 113 = .ok (.invokevirtual 210, 3) := by decide +kernel
theorem dX12_readLine_116 : decode cX12_readLine 116 = .ok (.aload_n 0, 1) := by decide +kernel
theorem dX12_readLine_117 : decode cX12_readLine 117 = .ok (.invokevirtual 267, 3) := by decide +kernel
theorem dX12_readLine_120 : decode cX12_readLine 120 = .ok (.istore_n 2, 1) := by decide +kernel
theorem dX12_readLine_121 : decode cX12_readLine 121 = .ok (.aload_n 0, 1) := by decide +kernel
theorem dX12_readLine_122 : decode cX12_readLine 122 = .ok (.getfield 238, 3) := by decide +kernel
theorem dX12_readLine_125 : decode cX12_readLine 125 = .ok (.istore_n 3, 1) := by decide +kernel
theorem dX12_readLine_126 : decode cX12_readLine 126 = .ok (.iload_n 2, 1) := by decide +kernel
theorem dX12_readLine_127 : decode cX12_readLine 127 = .ok (.ifCond .eq 11, 3) := by decide +kernel
theorem dX12_readLine_130 : decode cX12_readLine 130 = .ok (.aload_n 0, 1) := by decide +kernel
theorem dX12_readLine_131 : decode cX12_readLine 131 = .ok (.iconst 0, 1) := by decide +kernel
theorem dX12_readLine_132 : decode cX12_readLine 132 = .ok (.bipush 9, 2) := by decide +kernel
theorem dX12_readLine_134 : decode cX12_readLine 134 = .ok (.invokevirtual 257, 3) := by decide +kernel
theorem dX12_readLine_137 : decode cX12_readLine 137 = .ok (.istore_n 2, 1) := by decide +kernel
theorem dX12_readLine_138 : decode cX12_readLine 138 = .ok (.iload_n 2, 1) := by decide +kernel
theorem dX12_readLine_139 : decode cX12_readLine 139 = .ok (.ifCond .eq 24, 3) := by decide +kernel
theorem dX12_readLine_142 : decode cX12_readLine 142 = .ok (.aload_n 0, 1) := by decide +kernel
theorem dX12_readLine_143 : decode cX12_readLine 143 = .ok (.getfield 47, 3) := by decide +kernel
theorem dX12_readLine_146 : decode cX12_readLine 146 = .ok (.bipush 7, 2) := by decide +kernel
theorem dX12_readLine_148 : decode cX12_readLine 148 = .ok (.iload_n 3, 1) := by decide +kernel
theorem dX12_readLine_149 : decode cX12_readLine 149 = .ok (.iadd, 1) := by decide +kernel
theorem dX12_readLine_150 : decode cX12_readLine 150 = .ok (.aload_n 0, 1) := by decide +kernel
theorem dX12_readLine_151 : decode cX12_readLine 151 = .ok (.getfield 238, 3) := by decide +kernel
theorem dX12_readLine_154 : decode cX12_readLine 154 = .ok (.iastore, 1) := by decide +kernel
theorem dX12_readLine_155 : decode cX12_readLine 155 = .ok (.goto 8, 3) := by decide +kernel
theorem dX12_readLine_158 : decode cX12_readLine 158 = .ok (.aload_n 0, 1) := by decide +kernel
theorem dX12_readLine_159 : decode cX12_readLine 159 = .ok (.invokevirtual 285, 3) := by decide +kernel
theorem dX12_readLine_162 : decode cX12_readLine 162 = .ok (.istore_n 2, 1) := by decide +kernel
theorem dX12_readLine_163 : decode cX12_readLine 163 = .ok (.iload_n 2, 1) := by decide +kernel
theorem dX12_readLine_164 : decode cX12_readLine 164 = .ok (.ifCond .ne 5, 3) := by decide +kernel
theorem dX12_readLine_167 : decode cX12_readLine 167 = .ok (.iconst 0, 1) := by decide +kernel
theorem dX12_readLine_168 : decode cX12_readLine 168 = .ok (.ireturn, 1) := by decide +kernel
theorem dX12_readLine_169 : decode cX12_readLine 169 = .ok (.aload_n 0, 1) := by decide +kernel
theorem dX12_readLine_170 : decode cX12_readLine 170 = .ok (.getfield 169, 3) := by decide +kernel
theorem dX12_readLine_173 : decode cX12_readLine 173 = .ok (.iconst 4, 1) := by decide +kernel
theorem dX12_readLine_174 : decode cX12_readLine 174 = .ok (.if_icmp .eq 9, 3) := by decide +kernel
theorem dX12_readLine_177 : decode cX12_readLine 177 = .ok (.aload_n 0, 1) := by decide +kernel
theorem dX12_readLine_178 : decode cX12_readLine 178 = .ok (.iconst 1, 1) := by decide +kernel
theorem dX12_readLine_179 : decode cX12_readLine 179 = .ok (.invokevirtual 207, 3) := by decide +kernel
theorem dX12_readLine_182 : decode cX12_readLine 182 = .ok (.ireturn, 1) := by decide +kernel
theorem dX12_readLine_183 : decode cX12_readLine 183 = .ok (.aload_n 0, 1) := by decide +kernel
theorem dX12_readLine_184 : decode cX12_readLine 184 = .ok (.dup, 1) := by decide +kernel
theorem dX12_readLine_185 : decode cX12_readLine 185 = .ok (.getfield 251, 3) := by decide +kernel
theorem dX12_readLine_188 : decode cX12_readLine 188 = .ok (.iconst 1, 1) := by decide +kernel
theorem dX12_readLine_189 : decode cX12_readLine 189 = .ok (.iadd, 1) := by decide +kernel
theorem dX12_readLine_190 : decode cX12_readLine 190 = .ok (.putfield 251, 3) := by decide +kernel
theorem dX12_readLine_193 : decode cX12_readLine 193 = .ok (.aload_n 0, 1) := by decide +kernel
theorem dX12_readLine_194 : decode cX12_readLine 194 = .ok (.invokevirtual 210, 3) := by decide +kernel
theorem dX12_readLine_197 : decode cX12_readLine 197 = .ok (.iconst 1, 1) := by decide +kernel
theorem dX12_readLine_198 : decode cX12_readLine 198 = .ok (.ireturn, 1) := by decide +kernel
theorem dX12_readLoss_0 : decode cX12_readLoss 0 = .ok (.aload_n 0, 1) := by decide +kernel
theorem dX12_readLoss_1 : decode cX12_readLoss 1 = .ok (.invokevirtual 210, 3) := by decide +kernel
theorem dX12_readLoss_4 : decode cX12_readLoss 4 = .ok (.aload_n 0, 1) := by decide +kernel
theorem dX12_readLoss_5 : decode cX12_readLoss 5 = .ok (.invokevirtual 241, 3) := by decide +kernel
theorem dX12_readLoss_8 : decode cX12_readLoss 8 = .ok (.ifCond .ne 9, 3) := by decide +kernel
theorem dX12_readLoss_11 : decode cX12_readLoss 11 = .ok (.aload_n 0, 1) := by decide +kernel
theorem dX12_readLoss_12 : decode cX12_readLoss 12 = .ok (.iconst 1, 1) := by decide +kernel
theorem dX12_readLoss_13 : decode cX12_readLoss 13 = .ok (.invokevirtual 207, 3) := by decide +kernel
theorem dX12_readLoss_16 : decode cX12_readLoss 16 = .ok (.ireturn, 1) := by decide +kernel
theorem dX12_readLoss_17 : decode cX12_readLoss 17 = .ok (.aload_n 0, 1) := by decide +kernel
theorem dX12_readLoss_18 : decode cX12_readLoss 18 = .ok (.invokevirtual 248, 3) := by decide +kernel
theorem dX12_readLoss_21 : decode cX12_readLoss 21 = .ok (.istore_n 1, 1) := by decide +kernel
theorem dX12_readLoss_22 : decode cX12_readLoss 22 = .ok (.iload_n 1, 1) := by decide +kernel
theorem dX12_readLoss_23 : decode cX12_readLoss 23 = .ok (.iconst (-1), 1) := by decide +kernel
theorem dX12_readLoss_24 : decode cX12_readLoss 24 = .ok (.if_icmp .eq 10, 3) := by decide +kernel
theorem dX12_readLoss_27 : decode cX12_readLoss 27 = .ok (.aload_n 0, 1) := by decide +kernel
theorem dX12_readLoss_28 : decode cX12_readLoss 28 = .ok (.invokevirtual 210, 3) := by decide +kernel
theorem dX12_readLoss_31 : decode cX12_readLoss 31 = .ok (.goto 6, 3) := by decide +kernel
theorem dX12_readLoss_34 : decode cX12_readLoss 34 = .ok (.bipush 7, 2) := by decide +kernel
theorem dX12_readLoss_36 : decode cX12_readLoss 36 = .ok (.istore_n 1, 1) := by decide +kernel
theorem dX12_readLoss_37 : decode cX12_readLoss 37 = .ok (.aload_n 0, 1) := by decide +kernel
theorem dX12_readLoss_38 : decode cX12_readLoss 38 = .ok (.invokevirtual 264, 3) := by decide +kernel
theorem dX12_readLoss_41 : decode cX12_readLoss 41 = .ok (.ifCond .ne 5, 3) := by decide +kernel
theorem dX12_readLoss_44 : decode cX12_readLoss 44 = .ok (.iconst 0, 1) := by decide +kernel
theorem dX12_readLoss_45 : decode cX12_readLoss 45 = .ok (.ireturn, 1) := by decide +kernel
theorem dX12_readLoss_46 : decode cX12_readLoss 46 = .ok (.aload_n 0, 1) := by decide +kernel
theorem dX12_readLoss_47 : decode cX12_readLoss 47 = .ok (.getfield 238, 3) := by decide +kernel
theorem dX12_readLoss_50 : decode cX12_readLoss 50 = .ok (.istore_n 2, 1) := by decide +kernel
theorem dX12_readLoss_51 : decode cX12_readLoss 51 = .ok (.aload_n 0, 1) := by decide +kernel
theorem dX12_readLoss_52 : decode cX12_readLoss 52 = .ok (.invokevirtual 264, 3) := by decide +kernel
theorem dX12_readLoss_55 : decode cX12_readLoss 55 = .ok (.ifCond .ne 5, 3) := by decide +kernel
theorem dX12_readLoss_58 : decode cX12_readLoss 58 = .ok (.iconst 0, 1) := by decide +kernel
theorem dX12_readLoss_59 : decode cX12_readLoss 59 = .ok (.ireturn, 1) := by decide +kernel
theorem dX12_readLoss_60 : decode cX12_readLoss 60 = .ok (.aload_n 0, 1) := by decide +kernel
theorem dX12_readLoss_61 : decode cX12_readLoss 61 = .ok (.getfield 238, 3) := by decide +kernel
theorem dX12_readLoss_64 : decode cX12_readLoss 64 = .ok (.istore_n 3, 1) := by decide +kernel
theorem dX12_readLoss_65 : decode cX12_readLoss 65 = .ok (.aload_n 0, 1) := by decide +kernel
theorem dX12_readLoss_66 : decode cX12_readLoss 66 = .ok (.iconst 0, 1) := by decide +kernel
theorem dX12_readLoss_67 : decode cX12_readLoss 67 = .ok (.bipush 50, 2) := by decide +kernel
theorem dX12_readLoss_69 : decode cX12_readLoss 69 = .ok (.invokevirtual 257, 3) := by decide +kernel
theorem dX12_readLoss_72 : decode cX12_readLoss 72 = .ok (.ifCond .ne 5, 3) := by decide +kernel
theorem dX12_readLoss_75 : decode cX12_readLoss 75 = .ok (.iconst 0, 1) := by decide +kernel
theorem dX12_readLoss_76 : decode cX12_readLoss 76 = .ok (.ireturn, 1) := by decide +kernel
theorem dX12_readLoss_77 : decode cX12_readLoss 77 = .ok (.aload_n 0, 1) := by decide +kernel
theorem dX12_readLoss_78 : decode cX12_readLoss 78 = .ok (.getfield 35, 3) := by decide +kernel
theorem dX12_readLoss_81 : decode cX12_readLoss 81 = .ok (.bipush 72, 2) := by decide +kernel
theorem dX12_readLoss_83 : decode cX12_readLoss 83 = .ok (.bipush 9, 2) := by decide +kernel
theorem dX12_readLoss_85 : decode cX12_readLoss 85 = .ok (.iload_n 1, 1) := by decide +kernel
theorem dX12_readLoss_86 : decode cX12_readLoss 86 = .ok (.imul, 1) := by decide +kernel
theorem dX12_readLoss_87 : decode cX12_readLoss 87 = .ok (.iadd, 1) := by decide +kernel
theorem dX12_readLoss_88 : decode cX12_readLoss 88 = .ok (.iconst 3, 1) := by decide +kernel
theorem dX12_readLoss_89 : decode cX12_readLoss 89 = .ok (.iload_n 2, 1) := by decide +kernel
theorem dX12_readLoss_90 : decode cX12_readLoss 90 = .ok (.imul, 1) := by decide +kernel
theorem dX12_readLoss_91 : decode cX12_readLoss 91 = .ok (.iadd, 1) := by decide +kernel
theorem dX12_readLoss_92 : decode cX12_readLoss 92 = .ok (.iload_n 3, 1) := by decide +kernel
theorem dX12_readLoss_93 : decode cX12_readLoss 93 = .ok (.iadd, 1) := by decide +kernel
theorem dX12_readLoss_94 : decode cX12_readLoss 94 = .ok (.aload_n 0, 1) := by decide +kernel
theorem dX12_readLoss_95 : decode cX12_readLoss 95 = .ok (.getfield 238, 3) := by decide +kernel
theorem dX12_readLoss_98 : decode cX12_readLoss 98 = .ok (.iastore, 1) := by decide +kernel
theorem dX12_readLoss_99 : decode cX12_readLoss 99 = .ok (.iconst 1, 1) := by decide +kernel
theorem dX12_readLoss_100 : decode cX12_readLoss 100 = .ok (.ireturn, 1) := by decide +kernel
theorem dX12_readNew_0 : decode cX12_readNew 0 = .ok (.aload_n 0, 1) := by decide +kernel
theorem dX12_readNew_1 : decode cX12_readNew 1 = .ok (.invokevirtual 241, 3) := by decide +kernel
theorem dX12_readNew_4 : decode cX12_readNew 4 = .ok (.ifCond .ne 9, 3) := by decide +kernel
theorem dX12_readNew_7 : decode cX12_readNew 7 = .ok (.aload_n 0, 1) := by decide +kernel
theorem dX12_readNew_8 : decode cX12_readNew 8 = .ok (.iconst 1, 1) := by decide +kernel
theorem dX12_readNew_9 : decode cX12_readNew 9 = .ok (.invokevirtual 207, 3) := by decide +kernel
theorem dX12_readNew_12 : decode cX12_readNew 12 = .ok (.ireturn, 1) := by decide +kernel
theorem dX12_readNew_13 : decode cX12_readNew 13 = .ok (.aload_n 0, 1) := by decide +kernel
theorem dX12_readNew_14 : decode cX12_readNew 14 = .ok (.invokevirtual 245, 3) := by decide +kernel
theorem dX12_readNew_17 : decode cX12_readNew 17 = .ok (.iconst (-1), 1) := by decide +kernel
theorem dX12_readNew_18 : decode cX12_readNew 18 = .ok (.if_icmp .ne 11, 3) := by decide +kernel
theorem dX12_readNew_21 : decode cX12_readNew 21 = .ok (.aload_n 0, 1) := by decide +kernel
theorem dX12_readNew_22 : decode cX12_readNew 22 = .ok (.invokevirtual 248, 3) := by decide +kernel
theorem dX12_readNew_25 : decode cX12_readNew 25 = .ok (.iconst (-1), 1) := by decide +kernel
theorem dX12_readNew_26 : decode cX12_readNew 26 = .ok (.if_icmp .eq 11, 3) := by decide +kernel
theorem dX12_readNew_29 : decode cX12_readNew 29 = .ok (.aload_n 0, 1) := by decide +kernel
theorem dX12_readNew_30 : decode cX12_readNew 30 = .ok (.iconst 3, 1) := by decide +kernel
theorem dX12_readNew_31 : decode cX12_readNew 31 = .ok (.invokevirtual 207, 3) := by decide +kernel
theorem dX12_readNew_34 : decode cX12_readNew 34 = .ok (.ifCond .eq 7, 3) := by decide +kernel
theorem dX12_readNew_37 : decode cX12_readNew 37 = .ok (.iconst 1, 1) := by decide +kernel
theorem dX12_readNew_38 : decode cX12_readNew 38 = .ok (.goto 4, 3) := by decide +kernel
theorem dX12_readNew_41 : decode cX12_readNew 41 = .ok (.iconst 0, 1) := by decide +kernel
theorem dX12_readNew_42 : decode cX12_readNew 42 = .ok (.ireturn, 1) := by decide +kernel
theorem dX12_readNumber_0 : decode cX12_readNumber 0 = .ok (.aload_n 0, 1) := by decide +kernel
theorem dX12_readNumber_1 : decode cX12_readNumber 1 = .ok (.getfield 169, 3) := by decide +kernel
theorem dX12_readNumber_4 : decode cX12_readNumber 4 = .ok (.iconst 3, 1) := by decide +kernel
theorem dX12_readNumber_5 : decode cX12_readNumber 5 = .ok (.if_icmp .eq 9, 3) := by decide +kernel
theorem dX12_readNumber_8 : decode cX12_readNumber 8 = .ok (.aload_n 0, 1) := by decide +kernel
theorem dX12_readNumber_9 : decode cX12_readNumber 9 = .ok (.iconst 1, 1) := by decide +kernel
theorem dX12_readNumber_10 : decode cX12_readNumber 10 = .ok (.invokevirtual 207, 3) := by decide +kernel
theorem dX12_readNumber_13 : decode cX12_readNumber 13 = .ok (.ireturn, 1) := by decide +kernel
theorem dX12_readNumber_14 : decode cX12_readNumber 14 = .ok (.aload_n 0, 1) := by decide +kernel
theorem dX12_readNumber_15 : decode cX12_readNumber 15 = .ok (.getfield 182, 3) := by decide +kernel
theorem dX12_readNumber_18 : decode cX12_readNumber 18 = .ok (.iload_n 1, 1) := by decide +kernel
theorem dX12_readNumber_19 : decode cX12_readNumber 19 = .ok (.iload_n 2, 1) := by decide +kernel
theorem dX12_readNumber_20 : decode cX12_readNumber 20 = .ok (.invokestatic 234, 3) := by decide +kernel
theorem dX12_readNumber_23 : decode cX12_readNumber 23 = .ok (.ifCond .ne 9, 3) := by decide +kernel
theorem dX12_readNumber_26 : decode cX12_readNumber 26 = .ok (.aload_n 0, 1) := by decide +kernel
theorem dX12_readNumber_27 : decode cX12_readNumber 27 = .ok (.iconst 2, 1) := by decide +kernel
theorem dX12_readNumber_28 : decode cX12_readNumber 28 = .ok (.invokevirtual 207, 3) := by decide +kernel
theorem dX12_readNumber_31 : decode cX12_readNumber 31 = .ok (.ireturn, 1) := by decide +kernel
theorem dX12_readNumber_32 : decode cX12_readNumber 32 = .ok (.aload_n 0, 1) := by decide +kernel
theorem dX12_readNumber_33 : decode cX12_readNumber 33 = .ok (.aload_n 0, 1) := by decide +kernel
theorem dX12_readNumber_34 : decode cX12_readNumber 34 = .ok (.getfield 182, 3) := by decide +kernel
theorem dX12_readNumber_37 : decode cX12_readNumber 37 = .ok (.putfield 238, 3) := by decide +kernel
theorem dX12_readNumber_40 : decode cX12_readNumber 40 = .ok (.aload_n 0, 1) := by decide +kernel
theorem dX12_readNumber_41 : decode cX12_readNumber 41 = .ok (.invokevirtual 210, 3) := by decide +kernel
theorem dX12_readNumber_44 : decode cX12_readNumber 44 = .ok (.iconst 1, 1) := by decide +kernel
theorem dX12_readNumber_45 : decode cX12_readNumber 45 = .ok (.ireturn, 1) := by decide +kernel
theorem dX12_readRule_0 : decode cX12_readRule 0 = .ok (.aload_n 0, 1) := by decide +kernel
theorem dX12_readRule_1 : decode cX12_readRule 1 = .ok (.invokevirtual 210, 3) := by decide +kernel
theorem dX12_readRule_4 : decode cX12_readRule 4 = .ok (.aload_n 0, 1) := by decide +kernel
theorem dX12_readRule_5 : decode cX12_readRule 5 = .ok (.bipush 109, 2) := by decide +kernel
theorem dX12_readRule_7 : decode cX12_readRule 7 = .ok (.bipush 111, 2) := by decide +kernel
theorem dX12_readRule_9 : decode cX12_readRule 9 = .ok (.bipush 115, 2) := by decide +kernel
theorem dX12_readRule_11 : decode cX12_readRule 11 = .ok (.bipush 116, 2) := by decide +kernel
theorem dX12_readRule_13 : decode cX12_readRule 13 = .ok (.iconst 0, 1) := by decide +kernel
theorem dX12_readRule_14 : decode cX12_readRule 14 = .ok (.invokestatic 193, 3) := by decide +kernel
theorem dX12_readRule_17 : decode cX12_readRule 17 = .ok (.invokevirtual 203, 3) := by decide +kernel
theorem dX12_readRule_20 : decode cX12_readRule 20 = .ok (.ifCond .eq 58, 3) := by decide +kernel
theorem dX12_readRule_23 : decode cX12_readRule 23 = .ok (.aload_n 0, 1) := by decide +kernel
theorem dX12_readRule_24 : decode cX12_readRule 24 = .ok (.invokevirtual 210, 3) := by decide +kernel
theorem dX12_readRule_27 : decode cX12_readRule 27 = .ok (.aload_n 0, 1) := by decide +kernel
theorem dX12_readRule_28 : decode cX12_readRule 28 = .ok (.getfield 50, 3) := by decide +kernel
theorem dX12_readRule_31 : decode cX12_readRule 31 = .ok (.iconst 1, 1) := by decide +kernel
theorem dX12_readRule_32 : decode cX12_readRule 32 = .ok (.iconst 0, 1) := by decide +kernel
theorem dX12_readRule_33 : decode cX12_readRule 33 = .ok (.iastore, 1) := by decide +kernel
theorem dX12_readRule_34 : decode cX12_readRule 34 = .ok (.aload_n 0, 1) := by decide +kernel
theorem dX12_readRule_35 : decode cX12_readRule 35 = .ok (.getfield 59, 3) := by decide +kernel
theorem dX12_readRule_38 : decode cX12_readRule 38 = .ok (.iconst 1, 1) := by decide +kernel
theorem dX12_readRule_39 : decode cX12_readRule 39 = .ok (.iconst (-1), 1) := by decide +kernel
theorem dX12_readRule_40 : decode cX12_readRule 40 = .ok (.iastore, 1) := by decide +kernel
theorem dX12_readRule_41 : decode cX12_readRule 41 = .ok (.aload_n 0, 1) := by decide +kernel
theorem dX12_readRule_42 : decode cX12_readRule 42 = .ok (.invokestatic 228, 3) := by decide +kernel
theorem dX12_readRule_45 : decode cX12_readRule 45 = .ok (.invokevirtual 203, 3) := by decide +kernel
theorem dX12_readRule_48 : decode cX12_readRule 48 = .ok (.ifCond .ne 5, 3) := by decide +kernel
theorem dX12_readRule_51 : decode cX12_readRule 51 = .ok (.iconst 1, 1) := by decide +kernel
theorem dX12_readRule_52 : decode cX12_readRule 52 = .ok (.ireturn, 1) := by decide +kernel
theorem dX12_readRule_53 : decode cX12_readRule 53 = .ok (.aload_n 0, 1) := by decide +kernel
theorem dX12_readRule_54 : decode cX12_readRule 54 = .ok (.invokevirtual 210, 3) := by decide +kernel
theorem dX12_readRule_57 : decode cX12_readRule 57 = .ok (.aload_n 0, 1) := by decide +kernel
theorem dX12_readRule_58 : decode cX12_readRule 58 = .ok (.invokevirtual 267, 3) := by decide +kernel
theorem dX12_readRule_61 : decode cX12_readRule 61 = .ok (.ifCond .ne 5, 3) := by decide +kernel
theorem dX12_readRule_64 : decode cX12_readRule 64 = .ok (.iconst 0, 1) := by decide +kernel
theorem dX12_readRule_65 : decode cX12_readRule 65 = .ok (.ireturn, 1) := by decide +kernel
theorem dX12_readRule_66 : decode cX12_readRule 66 = .ok (.aload_n 0, 1) := by decide +kernel
theorem dX12_readRule_67 : decode cX12_readRule 67 = .ok (.getfield 59, 3) := by decide +kernel
theorem dX12_readRule_70 : decode cX12_readRule 70 = .ok (.iconst 1, 1) := by decide +kernel
theorem dX12_readRule_71 : decode cX12_readRule 71 = .ok (.aload_n 0, 1) := by decide +kernel
theorem dX12_readRule_72 : decode cX12_readRule 72 = .ok (.getfield 238, 3) := by decide +kernel
theorem dX12_readRule_75 : decode cX12_readRule 75 = .ok (.iastore, 1) := by decide +kernel
theorem dX12_readRule_76 : decode cX12_readRule 76 = .ok (.iconst 1, 1) := by decide +kernel
theorem dX12_readRule_77 : decode cX12_readRule 77 = .ok (.ireturn, 1) := by decide +kernel
theorem dX12_readRule_78 : decode cX12_readRule 78 = .ok (.aload_n 0, 1) := by decide +kernel
theorem dX12_readRule_79 : decode cX12_readRule 79 = .ok (.bipush 110, 2) := by decide +kernel
theorem dX12_readRule_81 : decode cX12_readRule 81 = .ok (.bipush 101, 2) := by decide +kernel
theorem dX12_readRule_83 : decode cX12_readRule 83 = .ok (.bipush 101, 2) := by decide +kernel
theorem dX12_readRule_85 : decode cX12_readRule 85 = .ok (.bipush 100, 2) := by decide +kernel
theorem dX12_readRule_87 : decode cX12_readRule 87 = .ok (.iconst 0, 1) := by decide +kernel
theorem dX12_readRule_88 : decode cX12_readRule 88 = .ok (.invokestatic 193, 3) := by decide +kernel
theorem dX12_readRule_91 : decode cX12_readRule 91 = .ok (.invokevirtual 261, 3) := by decide +kernel
theorem dX12_readRule_94 : decode cX12_readRule 94 = .ok (.ifCond .eq 13, 3) := by decide +kernel
theorem dX12_readRule_97 : decode cX12_readRule 97 = .ok (.aload_n 0, 1) := by decide +kernel
theorem dX12_readRule_98 : decode cX12_readRule 98 = .ok (.iconst 1, 1) := by decide +kernel
theorem dX12_readRule_99 : decode cX12_readRule 99 = .ok (.bipush 81, 2) := by decide +kernel
theorem dX12_readRule_101 : decode cX12_readRule 101 = .ok (.invokevirtual 257, 3) := by decide +kernel
theorem dX12_readRule_104 : decode cX12_readRule 104 = .ok (.ifCond .ne 5, 3) := by decide +kernel
theorem dX12_readRule_107 : decode cX12_readRule 107 = .ok (.iconst 0, 1) := by decide +kernel
theorem dX12_readRule_108 : decode cX12_readRule 108 = .ok (.ireturn, 1) := by decide +kernel
theorem dX12_readRule_109 : decode cX12_readRule 109 = .ok (.aload_n 0, 1) := by decide +kernel
theorem dX12_readRule_110 : decode cX12_readRule 110 = .ok (.getfield 238, 3) := by decide +kernel
theorem dX12_readRule_113 : decode cX12_readRule 113 = .ok (.istore_n 1, 1) := by decide +kernel
theorem dX12_readRule_114 : decode cX12_readRule 114 = .ok (.aload_n 0, 1) := by decide +kernel
theorem dX12_readRule_115 : decode cX12_readRule 115 = .ok (.invokevirtual 264, 3) := by decide +kernel
theorem dX12_readRule_118 : decode cX12_readRule 118 = .ok (.ifCond .ne 5, 3) := by decide +kernel
theorem dX12_readRule_121 : decode cX12_readRule 121 = .ok (.iconst 0, 1) := by decide +kernel
theorem dX12_readRule_122 : decode cX12_readRule 122 = .ok (.ireturn, 1) := by decide +kernel
theorem dX12_readRule_123 : decode cX12_readRule 123 = .ok (.aload_n 0, 1) := by decide +kernel
theorem dX12_readRule_124 : decode cX12_readRule 124 = .ok (.getfield 53, 3) := by decide +kernel
theorem dX12_readRule_127 : decode cX12_readRule 127 = .ok (.iconst 1, 1) := by decide +kernel
theorem dX12_readRule_128 : decode cX12_readRule 128 = .ok (.aload_n 0, 1) := by decide +kernel
theorem dX12_readRule_129 : decode cX12_readRule 129 = .ok (.getfield 238, 3) := by decide +kernel
theorem dX12_readRule_132 : decode cX12_readRule 132 = .ok (.iastore, 1) := by decide +kernel
theorem dX12_readRule_133 : decode cX12_readRule 133 = .ok (.aload_n 0, 1) := by decide +kernel
theorem dX12_readRule_134 : decode cX12_readRule 134 = .ok (.invokestatic 231, 3) := by decide +kernel
theorem dX12_readRule_137 : decode cX12_readRule 137 = .ok (.invokevirtual 261, 3) := by decide +kernel
theorem dX12_readRule_140 : decode cX12_readRule 140 = .ok (.ifCond .eq 10, 3) := by decide +kernel
theorem dX12_readRule_143 : decode cX12_readRule 143 = .ok (.aload_n 0, 1) := by decide +kernel
theorem dX12_readRule_144 : decode cX12_readRule 144 = .ok (.invokevirtual 264, 3) := by decide +kernel
theorem dX12_readRule_147 : decode cX12_readRule 147 = .ok (.ifCond .ne 5, 3) := by decide +kernel
theorem dX12_readRule_150 : decode cX12_readRule 150 = .ok (.iconst 0, 1) := by decide +kernel
theorem dX12_readRule_151 : decode cX12_readRule 151 = .ok (.ireturn, 1) := by decide +kernel
theorem dX12_readRule_152 : decode cX12_readRule 152 = .ok (.aload_n 0, 1) := by decide +kernel
theorem dX12_readRule_153 : decode cX12_readRule 153 = .ok (.getfield 56, 3) := by decide +kernel
theorem dX12_readRule_156 : decode cX12_readRule 156 = .ok (.iconst 1, 1) := by decide +kernel
theorem dX12_readRule_157 : decode cX12_readRule 157 = .ok (.aload_n 0, 1) := by decide +kernel
theorem dX12_readRule_158 : decode cX12_readRule 158 = .ok (.getfield 238, 3) := by decide +kernel
theorem dX12_readRule_161 : decode cX12_readRule 161 = .ok (.iastore, 1) := by decide +kernel
theorem dX12_readRule_162 : decode cX12_readRule 162 = .ok (.aload_n 0, 1) := by decide +kernel
theorem dX12_readRule_163 : decode cX12_readRule 163 = .ok (.getfield 50, 3) := by decide +kernel
theorem dX12_readRule_166 : decode cX12_readRule 166 = .ok (.iconst 1, 1) := by decide +kernel
theorem dX12_readRule_167 : decode cX12_readRule 167 = .ok (.iload_n 1, 1) := by decide +kernel
theorem dX12_readRule_168 : decode cX12_readRule 168 = .ok (.iastore, 1) := by decide +kernel
theorem dX12_readRule_169 : decode cX12_readRule 169 = .ok (.iconst 1, 1) := by decide +kernel
theorem dX12_readRule_170 : decode cX12_readRule 170 = .ok (.ireturn, 1) := by decide +kernel
theorem dX12_readTruth_0 : decode cX12_readTruth 0 = .ok (.aload_n 0, 1) := by decide +kernel
theorem dX12_readTruth_1 : decode cX12_readTruth 1 = .ok (.invokevirtual 241, 3) := by decide +kernel
theorem dX12_readTruth_4 : decode cX12_readTruth 4 = .ok (.ifCond .ne 9, 3) := by decide +kernel
theorem dX12_readTruth_7 : decode cX12_readTruth 7 = .ok (.aload_n 0, 1) := by decide +kernel
theorem dX12_readTruth_8 : decode cX12_readTruth 8 = .ok (.iconst 1, 1) := by decide +kernel
theorem dX12_readTruth_9 : decode cX12_readTruth 9 = .ok (.invokevirtual 207, 3) := by decide +kernel
theorem dX12_readTruth_12 : decode cX12_readTruth 12 = .ok (.ireturn, 1) := by decide +kernel
theorem dX12_readTruth_13 : decode cX12_readTruth 13 = .ok (.aload_n 0, 1) := by decide +kernel
theorem dX12_readTruth_14 : decode cX12_readTruth 14 = .ok (.aload_n 0, 1) := by decide +kernel
theorem dX12_readTruth_15 : decode cX12_readTruth 15 = .ok (.invokevirtual 245, 3) := by decide +kernel
theorem dX12_readTruth_18 : decode cX12_readTruth 18 = .ok (.putfield 238, 3) := by decide +kernel
theorem dX12_readTruth_21 : decode cX12_readTruth 21 = .ok (.aload_n 0, 1) := by decide +kernel
theorem dX12_readTruth_22 : decode cX12_readTruth 22 = .ok (.getfield 238, 3) := by decide +kernel
theorem dX12_readTruth_25 : decode cX12_readTruth 25 = .ok (.iconst (-1), 1) := by decide +kernel
theorem dX12_readTruth_26 : decode cX12_readTruth 26 = .ok (.if_icmp .ne 9, 3) := by decide +kernel
theorem dX12_readTruth_29 : decode cX12_readTruth 29 = .ok (.aload_n 0, 1) := by decide +kernel
theorem dX12_readTruth_30 : decode cX12_readTruth 30 = .ok (.iconst 3, 1) := by decide +kernel
theorem dX12_readTruth_31 : decode cX12_readTruth 31 = .ok (.invokevirtual 207, 3) := by decide +kernel
theorem dX12_readTruth_34 : decode cX12_readTruth 34 = .ok (.ireturn, 1) := by decide +kernel
theorem dX12_readTruth_35 : decode cX12_readTruth 35 = .ok (.aload_n 0, 1) := by decide +kernel
theorem dX12_readTruth_36 : decode cX12_readTruth 36 = .ok (.invokevirtual 210, 3) := by decide +kernel
theorem dX12_readTruth_39 : decode cX12_readTruth 39 = .ok (.iconst 1, 1) := by decide +kernel
theorem dX12_readTruth_40 : decode cX12_readTruth 40 = .ok (.ireturn, 1) := by decide +kernel
theorem dX12_readTruthLine_0 : decode cX12_readTruthLine 0 = .ok (.aload_n 0, 1) := by decide +kernel
theorem dX12_readTruthLine_1 : decode cX12_readTruthLine 1 = .ok (.getfield 20, 3) := by decide +kernel
theorem dX12_readTruthLine_4 : decode cX12_readTruthLine 4 = .ok (.iconst 1, 1) := by decide +kernel
theorem dX12_readTruthLine_5 : decode cX12_readTruthLine 5 = .ok (.iaload, 1) := by decide +kernel
theorem dX12_readTruthLine_6 : decode cX12_readTruthLine 6 = .ok (.iconst 3, 1) := by decide +kernel
theorem dX12_readTruthLine_7 : decode cX12_readTruthLine 7 = .ok (.if_icmp .eq 16, 3) := by decide +kernel
theorem dX12_readTruthLine_10 : decode cX12_readTruthLine 10 = .ok (.aload_n 0, 1) := by decide +kernel
theorem dX12_readTruthLine_11 : decode cX12_readTruthLine 11 = .ok (.getfield 251, 3) := by decide +kernel
theorem dX12_readTruthLine_14 : decode cX12_readTruthLine 14 = .ok (.aload_n 0, 1) := by decide +kernel
theorem dX12_readTruthLine_15 : decode cX12_readTruthLine 15 = .ok (.getfield 20, 3) := by decide +kernel
theorem dX12_readTruthLine_18 : decode cX12_readTruthLine 18 = .ok (.iconst 1, 1) := by decide +kernel
theorem dX12_readTruthLine_19 : decode cX12_readTruthLine 19 = .ok (.iaload, 1) := by decide +kernel
theorem dX12_readTruthLine_20 : decode cX12_readTruthLine 20 = .ok (.if_icmp .le 9, 3) := by decide +kernel
theorem dX12_readTruthLine_23 : decode cX12_readTruthLine 23 = .ok (.aload_n 0, 1) := by decide +kernel
theorem dX12_readTruthLine_24 : decode cX12_readTruthLine 24 = .ok (.iconst 4, 1) := by decide +kernel
theorem dX12_readTruthLine_25 : decode cX12_readTruthLine 25 = .ok (.invokevirtual 207, 3) := by decide +kernel
theorem dX12_readTruthLine_28 : decode cX12_readTruthLine 28 = .ok (.ireturn, 1) := by decide +kernel
theorem dX12_readTruthLine_29 : decode cX12_readTruthLine 29 = .ok (.aload_n 0, 1) := by decide +kernel
theorem dX12_readTruthLine_30 : decode cX12_readTruthLine 30 = .ok (.invokevirtual 210, 3) := by decide +kernel
theorem dX12_readTruthLine_33 : decode cX12_readTruthLine 33 = .ok (.aload_n 0, 1) := by decide +kernel
theorem dX12_readTruthLine_34 : decode cX12_readTruthLine 34 = .ok (.invokevirtual 254, 3) := by decide +kernel
theorem dX12_readTruthLine_37 : decode cX12_readTruthLine 37 = .ok (.ifCond .ne 5, 3) := by decide +kernel
theorem dX12_readTruthLine_40 : decode cX12_readTruthLine 40 = .ok (.iconst 0, 1) := by decide +kernel
theorem dX12_readTruthLine_41 : decode cX12_readTruthLine 41 = .ok (.ireturn, 1) := by decide +kernel
theorem dX12_readTruthLine_42 : decode cX12_readTruthLine 42 = .ok (.aload_n 0, 1) := by decide +kernel
theorem dX12_readTruthLine_43 : decode cX12_readTruthLine 43 = .ok (.getfield 13, 3) := by decide +kernel
theorem dX12_readTruthLine_46 : decode cX12_readTruthLine 46 = .ok (.iconst 3, 1) := by decide +kernel
theorem dX12_readTruthLine_47 : decode cX12_readTruthLine 47 = .ok (.aload_n 0, 1) := by decide +kernel
theorem dX12_readTruthLine_48 : decode cX12_readTruthLine 48 = .ok (.getfield 20, 3) := by decide +kernel
theorem dX12_readTruthLine_51 : decode cX12_readTruthLine 51 = .ok (.iconst 1, 1) := by decide +kernel
theorem dX12_readTruthLine_52 : decode cX12_readTruthLine 52 = .ok (.iaload, 1) := by decide +kernel
theorem dX12_readTruthLine_53 : decode cX12_readTruthLine 53 = .ok (.iadd, 1) := by decide +kernel
theorem dX12_readTruthLine_54 : decode cX12_readTruthLine 54 = .ok (.aload_n 0, 1) := by decide +kernel
theorem dX12_readTruthLine_55 : decode cX12_readTruthLine 55 = .ok (.getfield 179, 3) := by decide +kernel
theorem dX12_readTruthLine_58 : decode cX12_readTruthLine 58 = .ok (.lastore, 1) := by decide +kernel
theorem dX12_readTruthLine_59 : decode cX12_readTruthLine 59 = .ok (.aload_n 0, 1) := by decide +kernel
theorem dX12_readTruthLine_60 : decode cX12_readTruthLine 60 = .ok (.invokevirtual 210, 3) := by decide +kernel
theorem dX12_readTruthLine_63 : decode cX12_readTruthLine 63 = .ok (.aload_n 0, 1) := by decide +kernel
theorem dX12_readTruthLine_64 : decode cX12_readTruthLine 64 = .ok (.iconst 1, 1) := by decide +kernel
theorem dX12_readTruthLine_65 : decode cX12_readTruthLine 65 = .ok (.bipush 19, 2) := by decide +kernel
theorem dX12_readTruthLine_67 : decode cX12_readTruthLine 67 = .ok (.invokevirtual 257, 3) := by decide +kernel
theorem dX12_readTruthLine_70 : decode cX12_readTruthLine 70 = .ok (.ifCond .ne 5, 3) := by decide +kernel
theorem dX12_readTruthLine_73 : decode cX12_readTruthLine 73 = .ok (.iconst 0, 1) := by decide +kernel
theorem dX12_readTruthLine_74 : decode cX12_readTruthLine 74 = .ok (.ireturn, 1) := by decide +kernel
theorem dX12_readTruthLine_75 : decode cX12_readTruthLine 75 = .ok (.aload_n 0, 1) := by decide +kernel
theorem dX12_readTruthLine_76 : decode cX12_readTruthLine 76 = .ok (.getfield 26, 3) := by decide +kernel
theorem dX12_readTruthLine_79 : decode cX12_readTruthLine 79 = .ok (.iconst 3, 1) := by decide +kernel
theorem dX12_readTruthLine_80 : decode cX12_readTruthLine 80 = .ok (.aload_n 0, 1) := by decide +kernel
theorem dX12_readTruthLine_81 : decode cX12_readTruthLine 81 = .ok (.getfield 20, 3) := by decide +kernel
theorem dX12_readTruthLine_84 : decode cX12_readTruthLine 84 = .ok (.iconst 1, 1) := by decide +kernel
theorem dX12_readTruthLine_85 : decode cX12_readTruthLine 85 = .ok (.iaload, 1) := by decide +kernel
theorem dX12_readTruthLine_86 : decode cX12_readTruthLine 86 = .ok (.iadd, 1) := by decide +kernel
theorem dX12_readTruthLine_87 : decode cX12_readTruthLine 87 = .ok (.aload_n 0, 1) := by decide +kernel
theorem dX12_readTruthLine_88 : decode cX12_readTruthLine 88 = .ok (.getfield 238, 3) := by decide +kernel
theorem dX12_readTruthLine_91 : decode cX12_readTruthLine 91 = .ok (.iastore, 1) := by decide +kernel
theorem dX12_readTruthLine_92 : decode cX12_readTruthLine 92 = .ok (.aload_n 0, 1) := by decide +kernel
theorem dX12_readTruthLine_93 : decode cX12_readTruthLine 93 = .ok (.getfield 20, 3) := by decide +kernel
theorem dX12_readTruthLine_96 : decode cX12_readTruthLine 96 = .ok (.iconst 1, 1) := by decide +kernel
theorem dX12_readTruthLine_97 : decode cX12_readTruthLine 97 = .ok (.dup2, 1) := by decide +kernel
theorem dX12_readTruthLine_98 : decode cX12_readTruthLine 98 = .ok (.iaload, 1) := by decide +kernel
theorem dX12_readTruthLine_99 : decode cX12_readTruthLine 99 = .ok (.iconst 1, 1) := by decide +kernel
theorem dX12_readTruthLine_100 : decode cX12_readTruthLine 100 = .ok (.iadd, 1) := by decide +kernel
theorem dX12_readTruthLine_101 : decode cX12_readTruthLine 101 = .ok (.iastore, 1) := by decide +kernel
theorem dX12_readTruthLine_102 : decode cX12_readTruthLine 102 = .ok (.iconst 1, 1) := by decide +kernel
theorem dX12_readTruthLine_103 : decode cX12_readTruthLine 103 = .ok (.ireturn, 1) := by decide +kernel
theorem dX12_readVoter_0 : decode cX12_readVoter 0 = .ok (.aload_n 0, 1) := by decide +kernel
theorem dX12_readVoter_1 : decode cX12_readVoter 1 = .ok (.invokevirtual 241, 3) := by decide +kernel
theorem dX12_readVoter_4 : decode cX12_readVoter 4 = .ok (.ifCond .ne 9, 3) := by decide +kernel
theorem dX12_readVoter_7 : decode cX12_readVoter 7 = .ok (.aload_n 0, 1) := by decide +kernel
theorem dX12_readVoter_8 : decode cX12_readVoter 8 = .ok (.iconst 1, 1) := by decide +kernel
theorem dX12_readVoter_9 : decode cX12_readVoter 9 = .ok (.invokevirtual 207, 3) := by decide +kernel
theorem dX12_readVoter_12 : decode cX12_readVoter 12 = .ok (.ireturn, 1) := by decide +kernel
theorem dX12_readVoter_13 : decode cX12_readVoter 13 = .ok (.aload_n 0, 1) := by decide +kernel
theorem dX12_readVoter_14 : decode cX12_readVoter 14 = .ok (.aload_n 0, 1) := by decide +kernel
theorem dX12_readVoter_15 : decode cX12_readVoter 15 = .ok (.invokevirtual 248, 3) := by decide +kernel
theorem dX12_readVoter_18 : decode cX12_readVoter 18 = .ok (.putfield 238, 3) := by decide +kernel
theorem dX12_readVoter_21 : decode cX12_readVoter 21 = .ok (.aload_n 0, 1) := by decide +kernel
theorem dX12_readVoter_22 : decode cX12_readVoter 22 = .ok (.getfield 238, 3) := by decide +kernel
theorem dX12_readVoter_25 : decode cX12_readVoter 25 = .ok (.iconst (-1), 1) := by decide +kernel
theorem dX12_readVoter_26 : decode cX12_readVoter 26 = .ok (.if_icmp .ne 9, 3) := by decide +kernel
theorem dX12_readVoter_29 : decode cX12_readVoter 29 = .ok (.aload_n 0, 1) := by decide +kernel
theorem dX12_readVoter_30 : decode cX12_readVoter 30 = .ok (.iconst 3, 1) := by decide +kernel
theorem dX12_readVoter_31 : decode cX12_readVoter 31 = .ok (.invokevirtual 207, 3) := by decide +kernel
theorem dX12_readVoter_34 : decode cX12_readVoter 34 = .ok (.ireturn, 1) := by decide +kernel
theorem dX12_readVoter_35 : decode cX12_readVoter 35 = .ok (.aload_n 0, 1) := by decide +kernel
theorem dX12_readVoter_36 : decode cX12_readVoter 36 = .ok (.invokevirtual 210, 3) := by decide +kernel
theorem dX12_readVoter_39 : decode cX12_readVoter 39 = .ok (.iconst 1, 1) := by decide +kernel
theorem dX12_readVoter_40 : decode cX12_readVoter 40 = .ok (.ireturn, 1) := by decide +kernel
theorem dX12_readVoterLine_0 : decode cX12_readVoterLine 0 = .ok (.aload_n 0, 1) := by decide +kernel
theorem dX12_readVoterLine_1 : decode cX12_readVoterLine 1 = .ok (.getfield 23, 3) := by decide +kernel
theorem dX12_readVoterLine_4 : decode cX12_readVoterLine 4 = .ok (.iconst 1, 1) := by decide +kernel
theorem dX12_readVoterLine_5 : decode cX12_readVoterLine 5 = .ok (.iaload, 1) := by decide +kernel
theorem dX12_readVoterLine_6 : decode cX12_readVoterLine 6 = .ok (.istore_n 1, 1) := by decide +kernel
theorem dX12_readVoterLine_7 : decode cX12_readVoterLine 7 = .ok (.iload_n 1, 1) := by decide +kernel
theorem dX12_readVoterLine_8 : decode cX12_readVoterLine 8 = .ok (.bipush 7, 2) := by decide +kernel
theorem dX12_readVoterLine_10 : decode cX12_readVoterLine 10 = .ok (.if_icmp .ne 9, 3) := by decide +kernel
theorem dX12_readVoterLine_13 : decode cX12_readVoterLine 13 = .ok (.aload_n 0, 1) := by decide +kernel
theorem dX12_readVoterLine_14 : decode cX12_readVoterLine 14 = .ok (.iconst 4, 1) := by decide +kernel
theorem dX12_readVoterLine_15 : decode cX12_readVoterLine 15 = .ok (.invokevirtual 207, 3) := by decide +kernel
theorem dX12_readVoterLine_18 : decode cX12_readVoterLine 18 = .ok (.ireturn, 1) := by decide +kernel
theorem dX12_readVoterLine_19 : decode cX12_readVoterLine 19 = .ok (.aload_n 0, 1) := by decide +kernel
theorem dX12_readVoterLine_20 : decode cX12_readVoterLine 20 = .ok (.invokevirtual 210, 3) := by decide +kernel
theorem dX12_readVoterLine_23 : decode cX12_readVoterLine 23 = .ok (.aload_n 0, 1) := by decide +kernel
theorem dX12_readVoterLine_24 : decode cX12_readVoterLine 24 = .ok (.invokevirtual 254, 3) := by decide +kernel
theorem dX12_readVoterLine_27 : decode cX12_readVoterLine 27 = .ok (.ifCond .ne 5, 3) := by decide +kernel
theorem dX12_readVoterLine_30 : decode cX12_readVoterLine 30 = .ok (.iconst 0, 1) := by decide +kernel
theorem dX12_readVoterLine_31 : decode cX12_readVoterLine 31 = .ok (.ireturn, 1) := by decide +kernel
theorem dX12_readVoterLine_32 : decode cX12_readVoterLine 32 = .ok (.aload_n 0, 1) := by decide +kernel
theorem dX12_readVoterLine_33 : decode cX12_readVoterLine 33 = .ok (.getfield 17, 3) := by decide +kernel
theorem dX12_readVoterLine_36 : decode cX12_readVoterLine 36 = .ok (.bipush 7, 2) := by decide +kernel
theorem dX12_readVoterLine_38 : decode cX12_readVoterLine 38 = .ok (.iload_n 1, 1) := by decide +kernel
theorem dX12_readVoterLine_39 : decode cX12_readVoterLine 39 = .ok (.iadd, 1) := by decide +kernel
theorem dX12_readVoterLine_40 : decode cX12_readVoterLine 40 = .ok (.aload_n 0, 1) := by decide +kernel
theorem dX12_readVoterLine_41 : decode cX12_readVoterLine 41 = .ok (.getfield 179, 3) := by decide +kernel
theorem dX12_readVoterLine_44 : decode cX12_readVoterLine 44 = .ok (.lastore, 1) := by decide +kernel
theorem dX12_readVoterLine_45 : decode cX12_readVoterLine 45 = .ok (.aload_n 0, 1) := by decide +kernel
theorem dX12_readVoterLine_46 : decode cX12_readVoterLine 46 = .ok (.invokevirtual 210, 3) := by decide +kernel
theorem dX12_readVoterLine_49 : decode cX12_readVoterLine 49 = .ok (.aload_n 0, 1) := by decide +kernel
theorem dX12_readVoterLine_50 : decode cX12_readVoterLine 50 = .ok (.bipush 115, 2) := by decide +kernel
theorem dX12_readVoterLine_52 : decode cX12_readVoterLine 52 = .ok (.bipush 101, 2) := by decide +kernel
theorem dX12_readVoterLine_54 : decode cX12_readVoterLine 54 = .ok (.bipush 101, 2) := by decide +kernel
theorem dX12_readVoterLine_56 : decode cX12_readVoterLine 56 = .ok (.bipush 115, 2) := by decide +kernel
theorem dX12_readVoterLine_58 : decode cX12_readVoterLine 58 = .ok (.iconst 0, 1) := by decide +kernel
theorem dX12_readVoterLine_59 : decode cX12_readVoterLine 59 = .ok (.invokestatic 193, 3) := by decide +kernel
theorem dX12_readVoterLine_62 : decode cX12_readVoterLine 62 = .ok (.invokevirtual 261, 3) := by decide +kernel
theorem dX12_readVoterLine_65 : decode cX12_readVoterLine 65 = .ok (.ifCond .eq 12, 3) := by decide +kernel
theorem dX12_readVoterLine_68 : decode cX12_readVoterLine 68 = .ok (.aload_n 0, 1) := by decide +kernel
theorem dX12_readVoterLine_69 : decode cX12_readVoterLine 69 = .ok (.iconst 2, 1) := by decide +kernel
theorem dX12_readVoterLine_70 : decode cX12_readVoterLine 70 = .ok (.iconst 3, 1) := by decide +kernel
theorem dX12_readVoterLine_71 : decode cX12_readVoterLine 71 = .ok (.invokevirtual 257, 3) := by decide +kernel
theorem dX12_readVoterLine_74 : decode cX12_readVoterLine 74 = .ok (.ifCond .ne 5, 3) := by decide +kernel
theorem dX12_readVoterLine_77 : decode cX12_readVoterLine 77 = .ok (.iconst 0, 1) := by decide +kernel
theorem dX12_readVoterLine_78 : decode cX12_readVoterLine 78 = .ok (.ireturn, 1) := by decide +kernel
theorem dX12_readVoterLine_79 : decode cX12_readVoterLine 79 = .ok (.aload_n 0, 1) := by decide +kernel
theorem dX12_readVoterLine_80 : decode cX12_readVoterLine 80 = .ok (.getfield 29, 3) := by decide +kernel
theorem dX12_readVoterLine_83 : decode cX12_readVoterLine 83 = .ok (.bipush 7, 2) := by decide +kernel
theorem dX12_readVoterLine_85 : decode cX12_readVoterLine 85 = .ok (.iload_n 1, 1) := by decide +kernel
theorem dX12_readVoterLine_86 : decode cX12_readVoterLine 86 = .ok (.iadd, 1) := by decide +kernel
theorem dX12_readVoterLine_87 : decode cX12_readVoterLine 87 = .ok (.aload_n 0, 1) := by decide +kernel
theorem dX12_readVoterLine_88 : decode cX12_readVoterLine 88 = .ok (.getfield 238, 3) := by decide +kernel
theorem dX12_readVoterLine_91 : decode cX12_readVoterLine 91 = .ok (.iastore, 1) := by decide +kernel
theorem dX12_readVoterLine_92 : decode cX12_readVoterLine 92 = .ok (.iconst 0, 1) := by decide +kernel
theorem dX12_readVoterLine_93 : decode cX12_readVoterLine 93 = .ok (.istore_n 2, 1) := by decide +kernel
theorem dX12_readVoterLine_94 : decode cX12_readVoterLine 94 = .ok (.iload_n 2, 1) := by decide +kernel
theorem dX12_readVoterLine_95 : decode cX12_readVoterLine 95 = .ok (.aload_n 0, 1) := by decide +kernel
theorem dX12_readVoterLine_96 : decode cX12_readVoterLine 96 = .ok (.getfield 20, 3) := by decide +kernel
theorem dX12_readVoterLine_99 : decode cX12_readVoterLine 99 = .ok (.iconst 1, 1) := by decide +kernel
theorem dX12_readVoterLine_100 : decode cX12_readVoterLine 100 = .ok (.iaload, 1) := by decide +kernel
theorem dX12_readVoterLine_101 : decode cX12_readVoterLine 101 = .ok (.if_icmp .ge 119, 3) := by decide +kernel
theorem dX12_readVoterLine_104 : decode cX12_readVoterLine 104 = .ok (.iconst 0, 1) := by decide +kernel
theorem dX12_readVoterLine_105 : decode cX12_readVoterLine 105 = .ok (.istore_n 3, 1) := by decide +kernel
theorem dX12_readVoterLine_106 : decode cX12_readVoterLine 106 = .ok (.iconst 0, 1) := by decide +kernel
theorem dX12_readVoterLine_107 : decode cX12_readVoterLine 107 = .ok (.istore 4, 2) := by decide +kernel
theorem dX12_readVoterLine_109 : decode cX12_readVoterLine 109 = .ok (.iload 4, 2) := by decide +kernel
theorem dX12_readVoterLine_111 : decode cX12_readVoterLine 111 = .ok (.aload_n 0, 1) := by decide +kernel
theorem dX12_readVoterLine_112 : decode cX12_readVoterLine 112 = .ok (.getfield 29, 3) := by decide +kernel
theorem dX12_readVoterLine_115 : decode cX12_readVoterLine 115 = .ok (.bipush 7, 2) := by decide +kernel
theorem dX12_readVoterLine_117 : decode cX12_readVoterLine 117 = .ok (.iload_n 1, 1) := by decide +kernel
theorem dX12_readVoterLine_118 : decode cX12_readVoterLine 118 = .ok (.iadd, 1) := by decide +kernel
theorem dX12_readVoterLine_119 : decode cX12_readVoterLine 119 = .ok (.iaload, 1) := by decide +kernel
theorem dX12_readVoterLine_120 : decode cX12_readVoterLine 120 = .ok (.if_icmp .ge 94, 3) := by decide +kernel
theorem dX12_readVoterLine_123 : decode cX12_readVoterLine 123 = .ok (.aload_n 0, 1) := by decide +kernel
theorem dX12_readVoterLine_124 : decode cX12_readVoterLine 124 = .ok (.getfield 169, 3) := by decide +kernel
theorem dX12_readVoterLine_127 : decode cX12_readVoterLine 127 = .ok (.iconst 3, 1) := by decide +kernel
theorem dX12_readVoterLine_128 : decode cX12_readVoterLine 128 = .ok (.if_icmp .eq 9, 3) := by decide +kernel
theorem dX12_readVoterLine_131 : decode cX12_readVoterLine 131 = .ok (.aload_n 0, 1) := by decide +kernel
theorem dX12_readVoterLine_132 : decode cX12_readVoterLine 132 = .ok (.iconst 1, 1) := by decide +kernel
theorem dX12_readVoterLine_133 : decode cX12_readVoterLine 133 = .ok (.invokevirtual 207, 3) := by decide +kernel
theorem dX12_readVoterLine_136 : decode cX12_readVoterLine 136 = .ok (.ireturn, 1) := by decide +kernel
theorem dX12_readVoterLine_137 : decode cX12_readVoterLine 137 = .ok (.iload_n 3, 1) := by decide +kernel
theorem dX12_readVoterLine_138 : decode cX12_readVoterLine 138 = .ok (.aload_n 0, 1) := by decide +kernel
theorem dX12_readVoterLine_139 : decode cX12_readVoterLine 139 = .ok (.getfield 182, 3) := by decide +kernel
theorem dX12_readVoterLine_142 : decode cX12_readVoterLine 142 = .ok (.iadd, 1) := by decide +kernel
theorem dX12_readVoterLine_143 : decode cX12_readVoterLine 143 = .ok (.istore_n 3, 1) := by decide +kernel
theorem dX12_readVoterLine_144 : decode cX12_readVoterLine 144 = .ok (.aload_n 0, 1) := by decide +kernel
theorem dX12_readVoterLine_145 : decode cX12_readVoterLine 145 = .ok (.getfield 182, 3) := by decide +kernel
theorem dX12_readVoterLine_148 : decode cX12_readVoterLine 148 = .ok (.bipush 20, 2) := by decide +kernel
theorem dX12_readVoterLine_150 : decode cX12_readVoterLine 150 = .ok (.if_icmp .gt 25, 3) := by decide +kernel
theorem dX12_readVoterLine_153 : decode cX12_readVoterLine 153 = .ok (.iload 4, 2) := by decide +kernel
theorem dX12_readVoterLine_155 : decode cX12_readVoterLine 155 = .ok (.aload_n 0, 1) := by decide +kernel
theorem dX12_readVoterLine_156 : decode cX12_readVoterLine 156 = .ok (.getfield 29, 3) := by decide +kernel
theorem dX12_readVoterLine_159 : decode cX12_readVoterLine 159 = .ok (.bipush 7, 2) := by decide +kernel
theorem dX12_readVoterLine_161 : decode cX12_readVoterLine 161 = .ok (.iload_n 1, 1) := by decide +kernel
theorem dX12_readVoterLine_162 : decode cX12_readVoterLine 162 = .ok (.iadd, 1) := by decide +kernel
theorem dX12_readVoterLine_163 : decode cX12_readVoterLine 163 = .ok (.iaload, 1) := by decide +kernel
theorem dX12_readVoterLine_164 : decode cX12_readVoterLine 164 = .ok (.iconst 1, 1) := by decide +kernel
theorem dX12_readVoterLine_165 : decode cX12_readVoterLine 165 = .ok (.isub, 1) := by decide +kernel
theorem dX12_readVoterLine_166 : decode cX12_readVoterLine 166 = .ok (.if_icmp .ne 15, 3) := by decide +kernel
theorem dX12_readVoterLine_169 : decode cX12_readVoterLine 169 = .ok (.iload_n 3, 1) := by decide +kernel
theorem dX12_readVoterLine_170 : decode cX12_readVoterLine 170 = .ok (.bipush 20, 2) := by decide +kernel
theorem dX12_readVoterLine_172 : decode cX12_readVoterLine 172 = .ok (.if_icmp .eq 9, 3) := by decide +kernel
theorem dX12_readVoterLine_175 : decode cX12_readVoterLine 175 = .ok (.aload_n 0, 1) := by decide +kernel
theorem dX12_readVoterLine_176 : decode cX12_readVoterLine 176 = .ok (.iconst 2, 1) := by decide +kernel
theorem dX12_readVoterLine_177 : decode cX12_readVoterLine 177 = .ok (.invokevirtual 207, 3) := by decide +kernel
theorem dX12_readVoterLine_180 : decode cX12_readVoterLine 180 = .ok (.ireturn, 1) := by decide +kernel
theorem dX12_readVoterLine_181 : decode cX12_readVoterLine 181 = .ok (.aload_n 0, 1) := by decide +kernel
theorem dX12_readVoterLine_182 : decode cX12_readVoterLine 182 = .ok (.getfield 32, 3) := by decide +kernel
theorem dX12_readVoterLine_185 : decode cX12_readVoterLine 185 = .ok (.bipush 63, 2) := by decide +kernel
theorem dX12_readVoterLine_187 : decode cX12_readVoterLine 187 = .ok (.bipush 9, 2) := by decide +kernel
theorem dX12_readVoterLine_189 : decode cX12_readVoterLine 189 = .ok (.iload_n 1, 1) := by decide +kernel
theorem dX12_readVoterLine_190 : decode cX12_readVoterLine 190 = .ok (.imul, 1) := by decide +kernel
theorem dX12_readVoterLine_191 : decode cX12_readVoterLine 191 = .ok (.iadd, 1) := by decide +kernel
theorem dX12_readVoterLine_192 : decode cX12_readVoterLine 192 = .ok (.iconst 3, 1) := by decide +kernel
theorem dX12_readVoterLine_193 : decode cX12_readVoterLine 193 = .ok (.iload 4, 2) := by decide +kernel
theorem dX12_readVoterLine_195 : decode cX12_readVoterLine 195 = .ok (.imul, 1) := by decide +kernel
theorem dX12_readVoterLine_196 : decode cX12_readVoterLine 196 = .ok (.iadd, 1) := by decide +kernel
theorem dX12_readVoterLine_197 : decode cX12_readVoterLine 197 = .ok (.iload_n 2, 1) := by decide +kernel
theorem dX12_readVoterLine_198 : decode cX12_readVoterLine 198 = .ok (.iadd, 1) := by decide +kernel
theorem dX12_readVoterLine_199 : decode cX12_readVoterLine 199 = .ok (.aload_n 0, 1) := by decide +kernel
theorem dX12_readVoterLine_200 : decode cX12_readVoterLine 200 = .ok (.getfield 182, 3) := by decide +kernel
theorem dX12_readVoterLine_203 : decode cX12_readVoterLine 203 = .ok (.iastore, 1) := by decide +kernel
theorem dX12_readVoterLine_204 : decode cX12_readVoterLine 204 = .ok (.aload_n 0, 1) := by decide +kernel
theorem dX12_readVoterLine_205 : decode cX12_readVoterLine 205 = .ok (.invokevirtual 210, 3) := by decide +kernel
theorem dX12_readVoterLine_208 : decode cX12_readVoterLine 208 = .ok (.iinc 4 1, 3) := by decide +kernel
theorem dX12_readVoterLine_211 : decode cX12_readVoterLine 211 = .ok (.goto (-102), 3) := by decide +kernel
theorem dX12_readVoterLine_214 : decode cX12_readVoterLine 214 = .ok (.iinc 2 1, 3) := by decide +kernel
theorem dX12_readVoterLine_217 : decode cX12_readVoterLine 217 = .ok (.goto (-123), 3) := by decide +kernel
theorem dX12_readVoterLine_220 : decode cX12_readVoterLine 220 = .ok (.aload_n 0, 1) := by decide +kernel
theorem dX12_readVoterLine_221 : decode cX12_readVoterLine 221 = .ok (.getfield 38, 3) := by decide +kernel
theorem dX12_readVoterLine_224 : decode cX12_readVoterLine 224 = .ok (.bipush 7, 2) := by decide +kernel
theorem dX12_readVoterLine_226 : decode cX12_readVoterLine 226 = .ok (.iload_n 1, 1) := by decide +kernel
theorem dX12_readVoterLine_227 : decode cX12_readVoterLine 227 = .ok (.iadd, 1) := by decide +kernel
theorem dX12_readVoterLine_228 : decode cX12_readVoterLine 228 = .ok (.iconst 0, 1) := by decide +kernel
theorem dX12_readVoterLine_229 : decode cX12_readVoterLine 229 = .ok (.iastore, 1) := by decide +kernel
theorem dX12_readVoterLine_230 : decode cX12_readVoterLine 230 = .ok (.aload_n 0, 1) := by decide +kernel
theorem dX12_readVoterLine_231 : decode cX12_readVoterLine 231 = .ok (.getfield 47, 3) := by decide +kernel
theorem dX12_readVoterLine_234 : decode cX12_readVoterLine 234 = .ok (.bipush 7, 2) := by decide +kernel
theorem dX12_readVoterLine_236 : decode cX12_readVoterLine 236 = .ok (.iload_n 1, 1) := by decide +kernel
theorem dX12_readVoterLine_237 : decode cX12_readVoterLine 237 = .ok (.iadd, 1) := by decide +kernel
theorem dX12_readVoterLine_238 : decode cX12_readVoterLine 238 = .ok (.iconst 1, 1) := by decide +kernel
theorem dX12_readVoterLine_239 : decode cX12_readVoterLine 239 = .ok (.iastore, 1) := by decide +kernel
theorem dX12_readVoterLine_240 : decode cX12_readVoterLine 240 = .ok (.iconst 0, 1) := by decide +kernel
theorem dX12_readVoterLine_241 : decode cX12_readVoterLine 241 = .ok (.istore_n 2, 1) := by decide +kernel
theorem dX12_readVoterLine_242 : decode cX12_readVoterLine 242 = .ok (.iload_n 2, 1) := by decide +kernel
theorem dX12_readVoterLine_243 : decode cX12_readVoterLine 243 = .ok (.bipush 9, 2) := by decide +kernel
theorem dX12_readVoterLine_245 : decode cX12_readVoterLine 245 = .ok (.if_icmp .ge 24, 3) := by decide +kernel
theorem dX12_readVoterLine_248 : decode cX12_readVoterLine 248 = .ok (.aload_n 0, 1) := by decide +kernel
theorem dX12_readVoterLine_249 : decode cX12_readVoterLine 249 = .ok (.getfield 35, 3) := by decide +kernel
theorem dX12_readVoterLine_252 : decode cX12_readVoterLine 252 = .ok (.bipush 72, 2) := by decide +kernel
theorem dX12_readVoterLine_254 : decode cX12_readVoterLine 254 = .ok (.bipush 9, 2) := by decide +kernel
theorem dX12_readVoterLine_256 : decode cX12_readVoterLine 256 = .ok (.iload_n 1, 1) := by decide +kernel
theorem dX12_readVoterLine_257 : decode cX12_readVoterLine 257 = .ok (.imul, 1) := by decide +kernel
theorem dX12_readVoterLine_258 : decode cX12_readVoterLine 258 = .ok (.iadd, 1) := by decide +kernel
theorem dX12_readVoterLine_259 : decode cX12_readVoterLine 259 = .ok (.iload_n 2, 1) := by decide +kernel
theorem dX12_readVoterLine_260 : decode cX12_readVoterLine 260 = .ok (.iadd, 1) := by decide +kernel
theorem dX12_readVoterLine_261 : decode cX12_readVoterLine 261 = .ok (.iconst (-1), 1) := by decide +kernel
theorem dX12_readVoterLine_262 : decode cX12_readVoterLine 262 = .ok (.iastore, 1) := by decide +kernel
theorem dX12_readVoterLine_263 : decode cX12_readVoterLine 263 = .ok (.iinc 2 1, 3) := by decide +kernel
theorem dX12_readVoterLine_266 : decode cX12_readVoterLine 266 = .ok (.goto (-24), 3) := by decide +kernel
theorem dX12_readVoterLine_269 : decode cX12_readVoterLine 269 = .ok (.aload_n 0, 1) := by decide +kernel
theorem dX12_readVoterLine_270 : decode cX12_readVoterLine 270 = .ok (.getfield 23, 3) := by decide +kernel
theorem dX12_readVoterLine_273 : decode cX12_readVoterLine 273 = .ok (.iconst 1, 1) := by decide +kernel
theorem dX12_readVoterLine_274 : decode cX12_readVoterLine 274 = .ok (.dup2, 1) := by decide +kernel
theorem dX12_readVoterLine_275 : decode cX12_readVoterLine 275 = .ok (.iaload, 1) := by decide +kernel
theorem dX12_readVoterLine_276 : decode cX12_readVoterLine 276 = .ok (.iconst 1, 1) := by decide +kernel
theorem dX12_readVoterLine_277 : decode cX12_readVoterLine 277 = .ok (.iadd, 1) := by decide +kernel
theorem dX12_readVoterLine_278 : decode cX12_readVoterLine 278 = .ok (.iastore, 1) := by decide +kernel
theorem dX12_readVoterLine_279 : decode cX12_readVoterLine 279 = .ok (.iconst 1, 1) := by decide +kernel
theorem dX12_readVoterLine_280 : decode cX12_readVoterLine 280 = .ok (.ireturn, 1) := by decide +kernel
theorem dX12_readWay_0 : decode cX12_readWay 0 = .ok (.aload_n 0, 1) := by decide +kernel
theorem dX12_readWay_1 : decode cX12_readWay 1 = .ok (.invokevirtual 210, 3) := by decide +kernel
theorem dX12_readWay_4 : decode cX12_readWay 4 = .ok (.aload_n 0, 1) := by decide +kernel
theorem dX12_readWay_5 : decode cX12_readWay 5 = .ok (.invokevirtual 267, 3) := by decide +kernel
theorem dX12_readWay_8 : decode cX12_readWay 8 = .ok (.ifCond .ne 5, 3) := by decide +kernel
theorem dX12_readWay_11 : decode cX12_readWay 11 = .ok (.iconst 0, 1) := by decide +kernel
theorem dX12_readWay_12 : decode cX12_readWay 12 = .ok (.ireturn, 1) := by decide +kernel
theorem dX12_readWay_13 : decode cX12_readWay 13 = .ok (.bipush 7, 2) := by decide +kernel
theorem dX12_readWay_15 : decode cX12_readWay 15 = .ok (.aload_n 0, 1) := by decide +kernel
theorem dX12_readWay_16 : decode cX12_readWay 16 = .ok (.getfield 238, 3) := by decide +kernel
theorem dX12_readWay_19 : decode cX12_readWay 19 = .ok (.iadd, 1) := by decide +kernel
theorem dX12_readWay_20 : decode cX12_readWay 20 = .ok (.istore_n 1, 1) := by decide +kernel
theorem dX12_readWay_21 : decode cX12_readWay 21 = .ok (.aload_n 0, 1) := by decide +kernel
theorem dX12_readWay_22 : decode cX12_readWay 22 = .ok (.invokevirtual 221, 3) := by decide +kernel
theorem dX12_readWay_25 : decode cX12_readWay 25 = .ok (.istore_n 2, 1) := by decide +kernel
theorem dX12_readWay_26 : decode cX12_readWay 26 = .ok (.iload_n 2, 1) := by decide +kernel
theorem dX12_readWay_27 : decode cX12_readWay 27 = .ok (.iconst (-1), 1) := by decide +kernel
theorem dX12_readWay_28 : decode cX12_readWay 28 = .ok (.if_icmp .ne 9, 3) := by decide +kernel
theorem dX12_readWay_31 : decode cX12_readWay 31 = .ok (.aload_n 0, 1) := by decide +kernel
theorem dX12_readWay_32 : decode cX12_readWay 32 = .ok (.iconst 1, 1) := by decide +kernel
theorem dX12_readWay_33 : decode cX12_readWay 33 = .ok (.invokevirtual 207, 3) := by decide +kernel
theorem dX12_readWay_36 : decode cX12_readWay 36 = .ok (.ireturn, 1) := by decide +kernel
theorem dX12_readWay_37 : decode cX12_readWay 37 = .ok (.aload_n 0, 1) := by decide +kernel
theorem dX12_readWay_38 : decode cX12_readWay 38 = .ok (.invokevirtual 210, 3) := by decide +kernel
theorem dX12_readWay_41 : decode cX12_readWay 41 = .ok (.iload_n 2, 1) := by decide +kernel
theorem dX12_readWay_42 : decode cX12_readWay 42 = .ok (.iconst 2, 1) := by decide +kernel
theorem dX12_readWay_43 : decode cX12_readWay 43 = .ok (.if_icmp .ne 15, 3) := by decide +kernel
theorem dX12_readWay_46 : decode cX12_readWay 46 = .ok (.aload_n 0, 1) := by decide +kernel
theorem dX12_readWay_47 : decode cX12_readWay 47 = .ok (.iconst 1, 1) := by decide +kernel
theorem dX12_readWay_48 : decode cX12_readWay 48 = .ok (.bipush 20, 2) := by decide +kernel
theorem dX12_readWay_50 : decode cX12_readWay 50 = .ok (.invokevirtual 257, 3) := by decide +kernel
theorem dX12_readWay_53 : decode cX12_readWay 53 = .ok (.ifCond .ne 5, 3) := by decide +kernel
theorem dX12_readWay_56 : decode cX12_readWay 56 = .ok (.iconst 0, 1) := by decide +kernel
theorem dX12_readWay_57 : decode cX12_readWay 57 = .ok (.ireturn, 1) := by decide +kernel
theorem dX12_readWay_58 : decode cX12_readWay 58 = .ok (.iload_n 2, 1) := by decide +kernel
theorem dX12_readWay_59 : decode cX12_readWay 59 = .ok (.iconst 2, 1) := by decide +kernel
theorem dX12_readWay_60 : decode cX12_readWay 60 = .ok (.if_icmp .ne 13, 3) := by decide +kernel
theorem dX12_readWay_63 : decode cX12_readWay 63 = .ok (.aload_n 0, 1) := by decide +kernel
theorem dX12_readWay_64 : decode cX12_readWay 64 = .ok (.getfield 41, 3) := by decide +kernel
theorem dX12_readWay_67 : decode cX12_readWay 67 = .ok (.iload_n 1, 1) := by decide +kernel
theorem dX12_readWay_68 : decode cX12_readWay 68 = .ok (.aload_n 0, 1) := by decide +kernel
theorem dX12_readWay_69 : decode cX12_readWay 69 = .ok (.getfield 238, 3) := by decide +kernel
theorem dX12_readWay_72 : decode cX12_readWay 72 = .ok (.iastore, 1) := by decide +kernel
theorem dX12_readWay_73 : decode cX12_readWay 73 = .ok (.iconst 0, 1) := by decide +kernel
theorem dX12_readWay_74 : decode cX12_readWay 74 = .ok (.istore_n 3, 1) := by decide +kernel
theorem dX12_readWay_75 : decode cX12_readWay 75 = .ok (.iload_n 2, 1) := by decide +kernel
theorem dX12_readWay_76 : decode cX12_readWay 76 = .ok (.iconst 3, 1) := by decide +kernel
theorem dX12_readWay_77 : decode cX12_readWay 77 = .ok (.if_icmp .ne 65, 3) := by decide +kernel
theorem dX12_readWay_80 : decode cX12_readWay 80 = .ok (.iload_n 3, 1) := by decide +kernel
theorem dX12_readWay_81 : decode cX12_readWay 81 = .ok (.aload_n 0, 1) := by decide +kernel
theorem dX12_readWay_82 : decode cX12_readWay 82 = .ok (.getfield 29, 3) := by decide +kernel
theorem dX12_readWay_85 : decode cX12_readWay 85 = .ok (.iload_n 1, 1) := by decide +kernel
theorem dX12_readWay_86 : decode cX12_readWay 86 = .ok (.iaload, 1) := by decide +kernel
theorem dX12_readWay_87 : decode cX12_readWay 87 = .ok (.if_icmp .ge 55, 3) := by decide +kernel
theorem dX12_readWay_90 : decode cX12_readWay 90 = .ok (.aload_n 0, 1) := by decide +kernel
theorem dX12_readWay_91 : decode cX12_readWay 91 = .ok (.invokestatic 224, 3) := by decide +kernel
theorem dX12_readWay_94 : decode cX12_readWay 94 = .ok (.invokevirtual 203, 3) := by decide +kernel
theorem dX12_readWay_97 : decode cX12_readWay 97 = .ok (.ifCond .eq 16, 3) := by decide +kernel
theorem dX12_readWay_100 : decode cX12_readWay 100 = .ok (.aload_n 0, 1) := by decide +kernel
theorem dX12_readWay_101 : decode cX12_readWay 101 = .ok (.bipush 9, 2) := by decide +kernel
theorem dX12_readWay_103 : decode cX12_readWay 103 = .ok (.putfield 238, 3) := by decide +kernel
theorem dX12_readWay_106 : decode cX12_readWay 106 = .ok (.aload_n 0, 1) := by decide +kernel
theorem dX12_readWay_107 : decode cX12_readWay 107 = .ok (.invokevirtual 210, 3) := by decide +kernel
theorem dX12_readWay_110 : decode cX12_readWay 110 = .ok (.goto 12, 3) := by decide +kernel
theorem dX12_readWay_113 : decode cX12_readWay 113 = .ok (.aload_n 0, 1) := by decide +kernel
theorem dX12_readWay_114 : decode cX12_readWay 114 = .ok (.invokevirtual 264, 3) := by decide +kernel
theorem dX12_readWay_117 : decode cX12_readWay 117 = .ok (.ifCond .ne 5, 3) := by decide +kernel
theorem dX12_readWay_120 : decode cX12_readWay 120 = .ok (.iconst 0, 1) := by decide +kernel
theorem dX12_readWay_121 : decode cX12_readWay 121 = .ok (.ireturn, 1) := by decide +kernel
theorem dX12_readWay_122 : decode cX12_readWay 122 = .ok (.aload_n 0, 1) := by decide +kernel
theorem dX12_readWay_123 : decode cX12_readWay 123 = .ok (.getfield 44, 3) := by decide +kernel
theorem dX12_readWay_126 : decode cX12_readWay 126 = .ok (.iconst 3, 1) := by decide +kernel
theorem dX12_readWay_127 : decode cX12_readWay 127 = .ok (.iload_n 1, 1) := by decide +kernel
theorem dX12_readWay_128 : decode cX12_readWay 128 = .ok (.imul, 1) := by decide +kernel
theorem dX12_readWay_129 : decode cX12_readWay 129 = .ok (.iload_n 3, 1) := by decide +kernel
theorem dX12_readWay_130 : decode cX12_readWay 130 = .ok (.iadd, 1) := by decide +kernel
theorem dX12_readWay_131 : decode cX12_readWay 131 = .ok (.aload_n 0, 1) := by decide +kernel
theorem dX12_readWay_132 : decode cX12_readWay 132 = .ok (.getfield 238, 3) := by decide +kernel
theorem dX12_readWay_135 : decode cX12_readWay 135 = .ok (.iastore, 1) := by decide +kernel
theorem dX12_readWay_136 : decode cX12_readWay 136 = .ok (.iinc 3 1, 3) := by decide +kernel
theorem dX12_readWay_139 : decode cX12_readWay 139 = .ok (.goto (-64), 3) := by decide +kernel
theorem dX12_readWay_142 : decode cX12_readWay 142 = .ok (.aload_n 0, 1) := by decide +kernel
theorem dX12_readWay_143 : decode cX12_readWay 143 = .ok (.getfield 38, 3) := by decide +kernel
theorem dX12_readWay_146 : decode cX12_readWay 146 = .ok (.iload_n 1, 1) := by decide +kernel
theorem dX12_readWay_147 : decode cX12_readWay 147 = .ok (.iload_n 2, 1) := by decide +kernel
theorem dX12_readWay_148 : decode cX12_readWay 148 = .ok (.iastore, 1) := by decide +kernel
theorem dX12_readWay_149 : decode cX12_readWay 149 = .ok (.iconst 1, 1) := by decide +kernel
theorem dX12_readWay_150 : decode cX12_readWay 150 = .ok (.ireturn, 1) := by decide +kernel
theorem dX12_refuse_0 : decode cX12_refuse 0 = .ok (.aload_n 0, 1) := by decide +kernel
theorem dX12_refuse_1 : decode cX12_refuse 1 = .ok (.iconst 1, 1) := by decide +kernel
theorem dX12_refuse_2 : decode cX12_refuse 2 = .ok (.putfield 149, 3) := by decide +kernel
theorem dX12_refuse_5 : decode cX12_refuse 5 = .ok (.lconst 0, 1) := by decide +kernel
theorem dX12_refuse_6 : decode cX12_refuse 6 = .ok (.lreturn, 1) := by decide +kernel
theorem dX12_reply_0 : decode cX12_reply 0 = .ok (.aload_n 0, 1) := by decide +kernel
theorem dX12_reply_1 : decode cX12_reply 1 = .ok (.iconst 0, 1) := by decide +kernel
theorem dX12_reply_2 : decode cX12_reply 2 = .ok (.putfield 149, 3) := by decide +kernel
theorem dX12_reply_5 : decode cX12_reply 5 = .ok (.aload_n 0, 1) := by decide +kernel
theorem dX12_reply_6 : decode cX12_reply 6 = .ok (.iload_n 1, 1) := by decide +kernel
theorem dX12_reply_7 : decode cX12_reply 7 = .ok (.iload_n 2, 1) := by decide +kernel
theorem dX12_reply_8 : decode cX12_reply 8 = .ok (.invokevirtual 349, 3) := by decide +kernel
theorem dX12_reply_11 : decode cX12_reply 11 = .ok (.ifCond .eq 13, 3) := by decide +kernel
theorem dX12_reply_14 : decode cX12_reply 14 = .ok (.aload_n 0, 1) := by decide +kernel
theorem dX12_reply_15 : decode cX12_reply 15 = .ok (.iload_n 1, 1) := by decide +kernel
theorem dX12_reply_16 : decode cX12_reply 16 = .ok (.iload_n 2, 1) := by decide +kernel
theorem dX12_reply_17 : decode cX12_reply 17 = .ok (.iconst 0, 1) := by decide +kernel
theorem dX12_reply_18 : decode cX12_reply 18 = .ok (.invokevirtual 381, 3) := by decide +kernel
theorem dX12_reply_21 : decode cX12_reply 21 = .ok (.goto 4, 3) := by decide +kernel
theorem dX12_reply_24 : decode cX12_reply 24 = .ok (.iconst (-1), 1) := by decide +kernel
theorem dX12_reply_25 : decode cX12_reply 25 = .ok (.ireturn, 1) := by decide +kernel
theorem dX12_replyBy_0 : decode cX12_replyBy 0 = .ok (.iconst 0, 1) := by decide +kernel
theorem dX12_replyBy_1 : decode cX12_replyBy 1 = .ok (.istore 4, 2) := by decide +kernel
theorem dX12_replyBy_3 : decode cX12_replyBy 3 = .ok (.iload 4, 2) := by decide +kernel
theorem dX12_replyBy_5 : decode cX12_replyBy 5 = .ok (.aload_n 0, 1) := by decide +kernel
theorem dX12_replyBy_6 : decode cX12_replyBy 6 = .ok (.getfield 303, 3) := by decide +kernel
theorem dX12_replyBy_9 : decode cX12_replyBy 9 = .ok (.if_icmp .gt 17, 3) := by decide +kernel
theorem dX12_replyBy_12 : decode cX12_replyBy 12 = .ok (.aload_n 0, 1) := by decide +kernel
theorem dX12_replyBy_13 : decode cX12_replyBy 13 = .ok (.getfield 77, 3) := by decide +kernel
theorem dX12_replyBy_16 : decode cX12_replyBy 16 = .ok (.iload 4, 2) := by decide +kernel
theorem dX12_replyBy_18 : decode cX12_replyBy 18 = .ok (.lconst 0, 1) := by decide +kernel
theorem dX12_replyBy_19 : decode cX12_replyBy 19 = .ok (.lastore, 1) := by decide +kernel
theorem dX12_replyBy_20 : decode cX12_replyBy 20 = .ok (.iinc 4 1, 3) := by decide +kernel
theorem dX12_replyBy_23 : decode cX12_replyBy 23 = .ok (.goto (-20), 3) := by decide +kernel
theorem dX12_replyBy_26 : decode cX12_replyBy 26 = .ok (.iconst 0, 1) := by decide +kernel
theorem dX12_replyBy_27 : decode cX12_replyBy 27 = .ok (.istore 4, 2) := by decide +kernel
theorem dX12_replyBy_29 : decode cX12_replyBy 29 = .ok (.iload 4, 2) := by decide +kernel
theorem dX12_replyBy_31 : decode cX12_replyBy 31 = .ok (.aload_n 0, 1) := by decide +kernel
theorem dX12_replyBy_32 : decode cX12_replyBy 32 = .ok (.getfield 309, 3) := by decide +kernel
theorem dX12_replyBy_35 : decode cX12_replyBy 35 = .ok (.if_icmp .ge 109, 3) := by decide +kernel
theorem dX12_replyBy_38 : decode cX12_replyBy 38 = .ok (.aload_n 0, 1) := by decide +kernel
theorem dX12_replyBy_39 : decode cX12_replyBy 39 = .ok (.iload 4, 2) := by decide +kernel
theorem dX12_replyBy_41 : decode cX12_replyBy 41 = .ok (.iload_n 1, 1) := by decide +kernel
theorem dX12_replyBy_42 : decode cX12_replyBy 42 = .ok (.invokevirtual 312, 3) := by decide +kernel
theorem dX12_replyBy_45 : decode cX12_replyBy 45 = .ok (.iload_n 2, 1) := by decide +kernel
theorem dX12_replyBy_46 : decode cX12_replyBy 46 = .ok (.if_icmp .eq 6, 3) := by decide +kernel
theorem dX12_replyBy_49 : decode cX12_replyBy 49 = .ok (.goto 89, 3) := by decide +kernel
theorem dX12_replyBy_52 : decode cX12_replyBy 52 = .ok (.aload_n 0, 1) := by decide +kernel
theorem dX12_replyBy_53 : decode cX12_replyBy 53 = .ok (.iload 4, 2) := by decide +kernel
theorem dX12_replyBy_55 : decode cX12_replyBy 55 = .ok (.iload_n 3, 1) := by decide +kernel
theorem dX12_replyBy_56 : decode cX12_replyBy 56 = .ok (.invokevirtual 355, 3) := by decide +kernel
theorem dX12_replyBy_59 : decode cX12_replyBy 59 = .ok (.pop, 1) := by decide +kernel
theorem dX12_replyBy_60 : decode cX12_replyBy 60 = .ok (.iconst 0, 1) := by decide +kernel
theorem dX12_replyBy_61 : decode cX12_replyBy 61 = .ok (.istore 5, 2) := by decide +kernel
theorem dX12_replyBy_63 : decode cX12_replyBy 63 = .ok (.iload 5, 2) := by decide +kernel
theorem dX12_replyBy_65 : decode cX12_replyBy 65 = .ok (.aload_n 0, 1) := by decide +kernel
theorem dX12_replyBy_66 : decode cX12_replyBy 66 = .ok (.getfield 303, 3) := by decide +kernel
theorem dX12_replyBy_69 : decode cX12_replyBy 69 = .ok (.if_icmp .gt 69, 3) := by decide +kernel
theorem dX12_replyBy_72 : decode cX12_replyBy 72 = .ok (.aload_n 0, 1) := by decide +kernel
theorem dX12_replyBy_73 : decode cX12_replyBy 73 = .ok (.iload_n 1, 1) := by decide +kernel
theorem dX12_replyBy_74 : decode cX12_replyBy 74 = .ok (.iload 5, 2) := by decide +kernel
theorem dX12_replyBy_76 : decode cX12_replyBy 76 = .ok (.invokevirtual 372, 3) := by decide +kernel
theorem dX12_replyBy_79 : decode cX12_replyBy 79 = .ok (.istore 6, 2) := by decide +kernel
theorem dX12_replyBy_81 : decode cX12_replyBy 81 = .ok (.iconst 0, 1) := by decide +kernel
theorem dX12_replyBy_82 : decode cX12_replyBy 82 = .ok (.istore 7, 2) := by decide +kernel
theorem dX12_replyBy_84 : decode cX12_replyBy 84 = .ok (.iload 7, 2) := by decide +kernel
theorem dX12_replyBy_86 : decode cX12_replyBy 86 = .ok (.aload_n 0, 1) := by decide +kernel
theorem dX12_replyBy_87 : decode cX12_replyBy 87 = .ok (.getfield 303, 3) := by decide +kernel
theorem dX12_replyBy_90 : decode cX12_replyBy 90 = .ok (.if_icmp .ge 42, 3) := by decide +kernel
theorem dX12_replyBy_93 : decode cX12_replyBy 93 = .ok (.aload_n 0, 1) := by decide +kernel
theorem dX12_replyBy_94 : decode cX12_replyBy 94 = .ok (.getfield 77, 3) := by decide +kernel
theorem dX12_replyBy_97 : decode cX12_replyBy 97 = .ok (.iload 5, 2) := by decide +kernel
theorem dX12_replyBy_99 : decode cX12_replyBy 99 = .ok (.dup2, 1) := by decide +kernel
theorem dX12_replyBy_100 : decode cX12_replyBy 100 = .ok (.laload, 1) := by decide +kernel
theorem dX12_replyBy_101 : decode cX12_replyBy 101 = .ok (.aload_n 0, 1) := by decide +kernel
theorem dX12_replyBy_102 : decode cX12_replyBy 102 = .ok (.getfield 65, 3) := by decide +kernel
theorem dX12_replyBy_105 : decode cX12_replyBy 105 = .ok (.iconst 3, 1) := by decide +kernel
theorem dX12_replyBy_106 : decode cX12_replyBy 106 = .ok (.iload 4, 2) := by decide +kernel
theorem dX12_replyBy_108 : decode cX12_replyBy 108 = .ok (.imul, 1) := by decide +kernel
theorem dX12_replyBy_109 : decode cX12_replyBy 109 = .ok (.iload 7, 2) := by decide +kernel
theorem dX12_replyBy_111 : decode cX12_replyBy 111 = .ok (.iadd, 1) := by decide +kernel
theorem dX12_replyBy_112 : decode cX12_replyBy 112 = .ok (.laload, 1) := by decide +kernel
theorem dX12_replyBy_113 : decode cX12_replyBy 113 = .ok (.aload_n 0, 1) := by decide +kernel
theorem dX12_replyBy_114 : decode cX12_replyBy 114 = .ok (.iload_n 1, 1) := by decide +kernel
theorem dX12_replyBy_115 : decode cX12_replyBy 115 = .ok (.iload 7, 2) := by decide +kernel
theorem dX12_replyBy_117 : decode cX12_replyBy 117 = .ok (.iload 6, 2) := by decide +kernel
theorem dX12_replyBy_119 : decode cX12_replyBy 119 = .ok (.invokevirtual 334, 3) := by decide +kernel
theorem dX12_replyBy_122 : decode cX12_replyBy 122 = .ok (.i2l, 1) := by decide +kernel
theorem dX12_replyBy_123 : decode cX12_replyBy 123 = .ok (.lmul, 1) := by decide +kernel
theorem dX12_replyBy_124 : decode cX12_replyBy 124 = .ok (.ladd, 1) := by decide +kernel
theorem dX12_replyBy_125 : decode cX12_replyBy 125 = .ok (.lastore, 1) := by decide +kernel
theorem dX12_replyBy_126 : decode cX12_replyBy 126 = .ok (.iinc 7 1, 3) := by decide +kernel
theorem dX12_replyBy_129 : decode cX12_replyBy 129 = .ok (.goto (-45), 3) := by decide +kernel
theorem dX12_replyBy_132 : decode cX12_replyBy 132 = .ok (.iinc 5 1, 3) := by decide +kernel
theorem dX12_replyBy_135 : decode cX12_replyBy 135 = .ok (.goto (-72), 3) := by decide +kernel
theorem dX12_replyBy_138 : decode cX12_replyBy 138 = .ok (.iinc 4 1, 3) := by decide +kernel
theorem dX12_replyBy_141 : decode cX12_replyBy 141 = .ok (.goto (-112), 3) := by decide +kernel
theorem dX12_replyBy_144 : decode cX12_replyBy 144 = .ok (.aload_n 0, 1) := by decide +kernel
theorem dX12_replyBy_145 : decode cX12_replyBy 145 = .ok (.getfield 68, 3) := by decide +kernel
theorem dX12_replyBy_148 : decode cX12_replyBy 148 = .ok (.bipush 21, 2) := by decide +kernel
theorem dX12_replyBy_150 : decode cX12_replyBy 150 = .ok (.iload_n 3, 1) := by decide +kernel
theorem dX12_replyBy_151 : decode cX12_replyBy 151 = .ok (.imul, 1) := by decide +kernel
theorem dX12_replyBy_152 : decode cX12_replyBy 152 = .ok (.iconst 3, 1) := by decide +kernel
theorem dX12_replyBy_153 : decode cX12_replyBy 153 = .ok (.iload_n 1, 1) := by decide +kernel
theorem dX12_replyBy_154 : decode cX12_replyBy 154 = .ok (.imul, 1) := by decide +kernel
theorem dX12_replyBy_155 : decode cX12_replyBy 155 = .ok (.iadd, 1) := by decide +kernel
theorem dX12_replyBy_156 : decode cX12_replyBy 156 = .ok (.iload_n 2, 1) := by decide +kernel
theorem dX12_replyBy_157 : decode cX12_replyBy 157 = .ok (.iadd, 1) := by decide +kernel
theorem dX12_replyBy_158 : decode cX12_replyBy 158 = .ok (.iaload, 1) := by decide +kernel
theorem dX12_replyBy_159 : decode cX12_replyBy 159 = .ok (.istore 4, 2) := by decide +kernel
theorem dX12_replyBy_161 : decode cX12_replyBy 161 = .ok (.iload 4, 2) := by decide +kernel
theorem dX12_replyBy_163 : decode cX12_replyBy 163 = .ok (.bipush 9, 2) := by decide +kernel
theorem dX12_replyBy_165 : decode cX12_replyBy 165 = .ok (.if_icmp .ne 10, 3) := by decide +kernel
theorem dX12_replyBy_168 : decode cX12_replyBy 168 = .ok (.aload_n 0, 1) := by decide +kernel
theorem dX12_replyBy_169 : decode cX12_replyBy 169 = .ok (.getfield 303, 3) := by decide +kernel
theorem dX12_replyBy_172 : decode cX12_replyBy 172 = .ok (.goto 5, 3) := by decide +kernel
theorem dX12_replyBy_175 : decode cX12_replyBy 175 = .ok (.iload 4, 2) := by decide +kernel
theorem dX12_replyBy_177 : decode cX12_replyBy 177 = .ok (.istore 5, 2) := by decide +kernel
theorem dX12_replyBy_179 : decode cX12_replyBy 179 = .ok (.iload 5, 2) := by decide +kernel
theorem dX12_replyBy_181 : decode cX12_replyBy 181 = .ok (.istore 6, 2) := by decide +kernel
theorem dX12_replyBy_183 : decode cX12_replyBy 183 = .ok (.aload_n 0, 1) := by decide +kernel
theorem dX12_replyBy_184 : decode cX12_replyBy 184 = .ok (.getfield 303, 3) := by decide +kernel
theorem dX12_replyBy_187 : decode cX12_replyBy 187 = .ok (.istore 7, 2) := by decide +kernel
theorem dX12_replyBy_189 : decode cX12_replyBy 189 = .ok (.iload 7, 2) := by decide +kernel
theorem dX12_replyBy_191 : decode cX12_replyBy 191 = .ok (.ifCond .lt 56, 3) := by decide +kernel
theorem dX12_replyBy_194 : decode cX12_replyBy 194 = .ok (.aload_n 0, 1) := by decide +kernel
theorem dX12_replyBy_195 : decode cX12_replyBy 195 = .ok (.getfield 77, 3) := by decide +kernel
theorem dX12_replyBy_198 : decode cX12_replyBy 198 = .ok (.iload 7, 2) := by decide +kernel
theorem dX12_replyBy_200 : decode cX12_replyBy 200 = .ok (.laload, 1) := by decide +kernel
theorem dX12_replyBy_201 : decode cX12_replyBy 201 = .ok (.aload_n 0, 1) := by decide +kernel
theorem dX12_replyBy_202 : decode cX12_replyBy 202 = .ok (.getfield 77, 3) := by decide +kernel
theorem dX12_replyBy_205 : decode cX12_replyBy 205 = .ok (.iload 5, 2) := by decide +kernel
theorem dX12_replyBy_207 : decode cX12_replyBy 207 = .ok (.laload, 1) := by decide +kernel
theorem dX12_replyBy_208 : decode cX12_replyBy 208 = .ok (.lcmp, 1) := by decide +kernel
theorem dX12_replyBy_209 : decode cX12_replyBy 209 = .ok (.ifCond .lt 28, 3) := by decide +kernel
theorem dX12_replyBy_212 : decode cX12_replyBy 212 = .ok (.aload_n 0, 1) := by decide +kernel
theorem dX12_replyBy_213 : decode cX12_replyBy 213 = .ok (.getfield 77, 3) := by decide +kernel
theorem dX12_replyBy_216 : decode cX12_replyBy 216 = .ok (.iload 7, 2) := by decide +kernel
theorem dX12_replyBy_218 : decode cX12_replyBy 218 = .ok (.laload, 1) := by decide +kernel
theorem dX12_replyBy_219 : decode cX12_replyBy 219 = .ok (.aload_n 0, 1) := by decide +kernel
theorem dX12_replyBy_220 : decode cX12_replyBy 220 = .ok (.getfield 77, 3) := by decide +kernel
theorem dX12_replyBy_223 : decode cX12_replyBy 223 = .ok (.iload 5, 2) := by decide +kernel
theorem dX12_replyBy_225 : decode cX12_replyBy 225 = .ok (.laload, 1) := by decide +kernel
theorem dX12_replyBy_226 : decode cX12_replyBy 226 = .ok (.lcmp, 1) := by decide +kernel
theorem dX12_replyBy_227 : decode cX12_replyBy 227 = .ok (.ifCond .ne 14, 3) := by decide +kernel
theorem dX12_replyBy_230 : decode cX12_replyBy 230 = .ok (.iload 5, 2) := by decide +kernel
theorem dX12_replyBy_232 : decode cX12_replyBy 232 = .ok (.iload 6, 2) := by decide +kernel
theorem dX12_replyBy_234 : decode cX12_replyBy 234 = .ok (.if_icmp .eq 7, 3) := by decide +kernel
theorem dX12_replyBy_237 : decode cX12_replyBy 237 = .ok (.iload 7, 2) := by decide +kernel
theorem dX12_replyBy_239 : decode cX12_replyBy 239 = .ok (.istore 5, 2) := by decide +kernel
theorem dX12_replyBy_241 : decode cX12_replyBy 241 = .ok (.iinc 7 (-1), 3) := by decide +kernel
theorem dX12_replyBy_244 : decode cX12_replyBy 244 = .ok (.goto (-55), 3) := by decide +kernel
theorem dX12_replyBy_247 : decode cX12_replyBy 247 = .ok (.iload 5, 2) := by decide +kernel
theorem dX12_replyBy_249 : decode cX12_replyBy 249 = .ok (.aload_n 0, 1) := by decide +kernel
theorem dX12_replyBy_250 : decode cX12_replyBy 250 = .ok (.getfield 303, 3) := by decide +kernel
theorem dX12_replyBy_253 : decode cX12_replyBy 253 = .ok (.if_icmp .ne 8, 3) := by decide +kernel
theorem dX12_replyBy_256 : decode cX12_replyBy 256 = .ok (.bipush 9, 2) := by decide +kernel
theorem dX12_replyBy_258 : decode cX12_replyBy 258 = .ok (.goto 5, 3) := by decide +kernel
theorem dX12_replyBy_261 : decode cX12_replyBy 261 = .ok (.iload 5, 2) := by decide +kernel
theorem dX12_replyBy_263 : decode cX12_replyBy 263 = .ok (.ireturn, 1) := by decide +kernel
theorem dX12_right_0 : decode cX12_right 0 = .ok (.aload_n 0, 1) := by decide +kernel
theorem dX12_right_1 : decode cX12_right 1 = .ok (.iconst 0, 1) := by decide +kernel
theorem dX12_right_2 : decode cX12_right 2 = .ok (.putfield 149, 3) := by decide +kernel
theorem dX12_right_5 : decode cX12_right 5 = .ok (.aload_n 0, 1) := by decide +kernel
theorem dX12_right_6 : decode cX12_right 6 = .ok (.getfield 306, 3) := by decide +kernel
theorem dX12_right_9 : decode cX12_right 9 = .ok (.ifCond .ne 7, 3) := by decide +kernel
theorem dX12_right_12 : decode cX12_right 12 = .ok (.lconst 0, 1) := by decide +kernel
theorem dX12_right_13 : decode cX12_right 13 = .ok (.goto 8, 3) := by decide +kernel
theorem dX12_right_16 : decode cX12_right 16 = .ok (.aload_n 0, 1) := by decide +kernel
theorem dX12_right_17 : decode cX12_right 17 = .ok (.iconst 0, 1) := by decide +kernel
theorem dX12_right_18 : decode cX12_right 18 = .ok (.invokevirtual 358, 3) := by decide +kernel
theorem dX12_right_21 : decode cX12_right 21 = .ok (.lreturn, 1) := by decide +kernel
theorem dX12_rightBy_0 : decode cX12_rightBy 0 = .ok (.lconst 0, 1) := by decide +kernel
theorem dX12_rightBy_1 : decode cX12_rightBy 1 = .ok (.lstore_n 2, 1) := by decide +kernel
theorem dX12_rightBy_2 : decode cX12_rightBy 2 = .ok (.iconst 0, 1) := by decide +kernel
theorem dX12_rightBy_3 : decode cX12_rightBy 3 = .ok (.istore 4, 2) := by decide +kernel
theorem dX12_rightBy_5 : decode cX12_rightBy 5 = .ok (.iload 4, 2) := by decide +kernel
theorem dX12_rightBy_7 : decode cX12_rightBy 7 = .ok (.aload_n 0, 1) := by decide +kernel
theorem dX12_rightBy_8 : decode cX12_rightBy 8 = .ok (.getfield 309, 3) := by decide +kernel
theorem dX12_rightBy_11 : decode cX12_rightBy 11 = .ok (.if_icmp .ge 29, 3) := by decide +kernel
theorem dX12_rightBy_14 : decode cX12_rightBy 14 = .ok (.lload_n 2, 1) := by decide +kernel
theorem dX12_rightBy_15 : decode cX12_rightBy 15 = .ok (.aload_n 0, 1) := by decide +kernel
theorem dX12_rightBy_16 : decode cX12_rightBy 16 = .ok (.getfield 65, 3) := by decide +kernel
theorem dX12_rightBy_19 : decode cX12_rightBy 19 = .ok (.iconst 3, 1) := by decide +kernel
theorem dX12_rightBy_20 : decode cX12_rightBy 20 = .ok (.iload 4, 2) := by decide +kernel
theorem dX12_rightBy_22 : decode cX12_rightBy 22 = .ok (.imul, 1) := by decide +kernel
theorem dX12_rightBy_23 : decode cX12_rightBy 23 = .ok (.aload_n 0, 1) := by decide +kernel
theorem dX12_rightBy_24 : decode cX12_rightBy 24 = .ok (.iload 4, 2) := by decide +kernel
theorem dX12_rightBy_26 : decode cX12_rightBy 26 = .ok (.iload_n 1, 1) := by decide +kernel
theorem dX12_rightBy_27 : decode cX12_rightBy 27 = .ok (.invokevirtual 355, 3) := by decide +kernel
theorem dX12_rightBy_30 : decode cX12_rightBy 30 = .ok (.iadd, 1) := by decide +kernel
theorem dX12_rightBy_31 : decode cX12_rightBy 31 = .ok (.laload, 1) := by decide +kernel
theorem dX12_rightBy_32 : decode cX12_rightBy 32 = .ok (.ladd, 1) := by decide +kernel
theorem dX12_rightBy_33 : decode cX12_rightBy 33 = .ok (.lstore_n 2, 1) := by decide +kernel
theorem dX12_rightBy_34 : decode cX12_rightBy 34 = .ok (.iinc 4 1, 3) := by decide +kernel
theorem dX12_rightBy_37 : decode cX12_rightBy 37 = .ok (.goto (-32), 3) := by decide +kernel
theorem dX12_rightBy_40 : decode cX12_rightBy 40 = .ok (.lload_n 2, 1) := by decide +kernel
theorem dX12_rightBy_41 : decode cX12_rightBy 41 = .ok (.lreturn, 1) := by decide +kernel
theorem dX12_rowTold_0 : decode cX12_rowTold 0 = .ok (.aload_n 0, 1) := by decide +kernel
theorem dX12_rowTold_1 : decode cX12_rowTold 1 = .ok (.getfield 306, 3) := by decide +kernel
theorem dX12_rowTold_4 : decode cX12_rowTold 4 = .ok (.ifCond .eq 14, 3) := by decide +kernel
theorem dX12_rowTold_7 : decode cX12_rowTold 7 = .ok (.aload_n 0, 1) := by decide +kernel
theorem dX12_rowTold_8 : decode cX12_rowTold 8 = .ok (.getfield 153, 3) := by decide +kernel
theorem dX12_rowTold_11 : decode cX12_rowTold 11 = .ok (.aload_n 0, 1) := by decide +kernel
theorem dX12_rowTold_12 : decode cX12_rowTold 12 = .ok (.getfield 306, 3) := by decide +kernel
theorem dX12_rowTold_15 : decode cX12_rowTold 15 = .ok (.if_icmp .eq 5, 3) := by decide +kernel
theorem dX12_rowTold_18 : decode cX12_rowTold 18 = .ok (.iconst (-1), 1) := by decide +kernel
theorem dX12_rowTold_19 : decode cX12_rowTold 19 = .ok (.ireturn, 1) := by decide +kernel
theorem dX12_rowTold_20 : decode cX12_rowTold 20 = .ok (.iconst 0, 1) := by decide +kernel
theorem dX12_rowTold_21 : decode cX12_rowTold 21 = .ok (.istore_n 1, 1) := by decide +kernel
theorem dX12_rowTold_22 : decode cX12_rowTold 22 = .ok (.iconst 0, 1) := by decide +kernel
theorem dX12_rowTold_23 : decode cX12_rowTold 23 = .ok (.istore_n 2, 1) := by decide +kernel
theorem dX12_rowTold_24 : decode cX12_rowTold 24 = .ok (.iload_n 2, 1) := by decide +kernel
theorem dX12_rowTold_25 : decode cX12_rowTold 25 = .ok (.aload_n 0, 1) := by decide +kernel
theorem dX12_rowTold_26 : decode cX12_rowTold 26 = .ok (.getfield 306, 3) := by decide +kernel
theorem dX12_rowTold_29 : decode cX12_rowTold 29 = .ok (.if_icmp .ge 42, 3) := by decide +kernel
theorem dX12_rowTold_32 : decode cX12_rowTold 32 = .ok (.aload_n 0, 1) := by decide +kernel
theorem dX12_rowTold_33 : decode cX12_rowTold 33 = .ok (.getfield 7, 3) := by decide +kernel
theorem dX12_rowTold_36 : decode cX12_rowTold 36 = .ok (.iload_n 2, 1) := by decide +kernel
theorem dX12_rowTold_37 : decode cX12_rowTold 37 = .ok (.iaload, 1) := by decide +kernel
theorem dX12_rowTold_38 : decode cX12_rowTold 38 = .ok (.aload_n 0, 1) := by decide +kernel
theorem dX12_rowTold_39 : decode cX12_rowTold 39 = .ok (.getfield 29, 3) := by decide +kernel
theorem dX12_rowTold_42 : decode cX12_rowTold 42 = .ok (.iload_n 2, 1) := by decide +kernel
theorem dX12_rowTold_43 : decode cX12_rowTold 43 = .ok (.iaload, 1) := by decide +kernel
theorem dX12_rowTold_44 : decode cX12_rowTold 44 = .ok (.if_icmp .lt 5, 3) := by decide +kernel
theorem dX12_rowTold_47 : decode cX12_rowTold 47 = .ok (.iconst (-1), 1) := by decide +kernel
theorem dX12_rowTold_48 : decode cX12_rowTold 48 = .ok (.ireturn, 1) := by decide +kernel
theorem dX12_rowTold_49 : decode cX12_rowTold 49 = .ok (.iload_n 1, 1) := by decide +kernel
theorem dX12_rowTold_50 : decode cX12_rowTold 50 = .ok (.aload_n 0, 1) := by decide +kernel
theorem dX12_rowTold_51 : decode cX12_rowTold 51 = .ok (.getfield 7, 3) := by decide +kernel
theorem dX12_rowTold_54 : decode cX12_rowTold 54 = .ok (.iload_n 2, 1) := by decide +kernel
theorem dX12_rowTold_55 : decode cX12_rowTold 55 = .ok (.iaload, 1) := by decide +kernel
theorem dX12_rowTold_56 : decode cX12_rowTold 56 = .ok (.aload_n 0, 1) := by decide +kernel
theorem dX12_rowTold_57 : decode cX12_rowTold 57 = .ok (.getfield 62, 3) := by decide +kernel
theorem dX12_rowTold_60 : decode cX12_rowTold 60 = .ok (.iload_n 2, 1) := by decide +kernel
theorem dX12_rowTold_61 : decode cX12_rowTold 61 = .ok (.iaload, 1) := by decide +kernel
theorem dX12_rowTold_62 : decode cX12_rowTold 62 = .ok (.imul, 1) := by decide +kernel
theorem dX12_rowTold_63 : decode cX12_rowTold 63 = .ok (.iadd, 1) := by decide +kernel
theorem dX12_rowTold_64 : decode cX12_rowTold 64 = .ok (.istore_n 1, 1) := by decide +kernel
theorem dX12_rowTold_65 : decode cX12_rowTold 65 = .ok (.iinc 2 1, 3) := by decide +kernel
theorem dX12_rowTold_68 : decode cX12_rowTold 68 = .ok (.goto (-44), 3) := by decide +kernel
theorem dX12_rowTold_71 : decode cX12_rowTold 71 = .ok (.iload_n 1, 1) := by decide +kernel
theorem dX12_rowTold_72 : decode cX12_rowTold 72 = .ok (.ireturn, 1) := by decide +kernel
theorem dX12_run_0 : decode cX12_run 0 = .ok (.aload_n 0, 1) := by decide +kernel
theorem dX12_run_1 : decode cX12_run 1 = .ok (.iconst 0, 1) := by decide +kernel
theorem dX12_run_2 : decode cX12_run 2 = .ok (.putfield 149, 3) := by decide +kernel
theorem dX12_run_5 : decode cX12_run 5 = .ok (.aload_n 0, 1) := by decide +kernel
theorem dX12_run_6 : decode cX12_run 6 = .ok (.getfield 306, 3) := by decide +kernel
theorem dX12_run_9 : decode cX12_run 9 = .ok (.ifCond .eq 14, 3) := by decide +kernel
theorem dX12_run_12 : decode cX12_run 12 = .ok (.iload_n 2, 1) := by decide +kernel
theorem dX12_run_13 : decode cX12_run 13 = .ok (.iconst 1, 1) := by decide +kernel
theorem dX12_run_14 : decode cX12_run 14 = .ok (.sipush 1000, 3) := by decide +kernel
theorem dX12_run_17 : decode cX12_run 17 = .ok (.invokestatic 234, 3) := by decide +kernel
theorem dX12_run_20 : decode cX12_run 20 = .ok (.ifCond .ne 5, 3) := by decide +kernel
theorem dX12_run_23 : decode cX12_run 23 = .ok (.iconst (-1), 1) := by decide +kernel
theorem dX12_run_24 : decode cX12_run 24 = .ok (.ireturn, 1) := by decide +kernel
theorem dX12_run_25 : decode cX12_run 25 = .ok (.aload_n 0, 1) := by decide +kernel
theorem dX12_run_26 : decode cX12_run 26 = .ok (.iload_n 1, 1) := by decide +kernel
theorem dX12_run_27 : decode cX12_run 27 = .ok (.putfield 482, 3) := by decide +kernel
theorem dX12_run_30 : decode cX12_run 30 = .ok (.iconst 0, 1) := by decide +kernel
theorem dX12_run_31 : decode cX12_run 31 = .ok (.istore_n 3, 1) := by decide +kernel
theorem dX12_run_32 : decode cX12_run 32 = .ok (.iconst 0, 1) := by decide +kernel
theorem dX12_run_33 : decode cX12_run 33 = .ok (.istore 4, 2) := by decide +kernel
theorem dX12_run_35 : decode cX12_run 35 = .ok (.iload 4, 2) := by decide +kernel
theorem dX12_run_37 : decode cX12_run 37 = .ok (.iload_n 2, 1) := by decide +kernel
theorem dX12_run_38 : decode cX12_run 38 = .ok (.if_icmp .ge 158, 3) := by decide +kernel
theorem dX12_run_41 : decode cX12_run 41 = .ok (.aload_n 0, 1) := by decide +kernel
theorem dX12_run_42 : decode cX12_run 42 = .ok (.invokevirtual 486, 3) := by decide +kernel
theorem dX12_run_45 : decode cX12_run 45 = .ok (.istore 5, 2) := by decide +kernel
theorem dX12_run_47 : decode cX12_run 47 = .ok (.iconst 0, 1) := by decide +kernel
theorem dX12_run_48 : decode cX12_run 48 = .ok (.istore 6, 2) := by decide +kernel
theorem dX12_run_50 : decode cX12_run 50 = .ok (.iload 5, 2) := by decide +kernel
theorem dX12_run_52 : decode cX12_run 52 = .ok (.aload_n 0, 1) := by decide +kernel
theorem dX12_run_53 : decode cX12_run 53 = .ok (.getfield 26, 3) := by decide +kernel
theorem dX12_run_56 : decode cX12_run 56 = .ok (.iload 6, 2) := by decide +kernel
theorem dX12_run_58 : decode cX12_run 58 = .ok (.iaload, 1) := by decide +kernel
theorem dX12_run_59 : decode cX12_run 59 = .ok (.if_icmp .lt 21, 3) := by decide +kernel
theorem dX12_run_62 : decode cX12_run 62 = .ok (.iload 5, 2) := by decide +kernel
theorem dX12_run_64 : decode cX12_run 64 = .ok (.aload_n 0, 1) := by decide +kernel
theorem dX12_run_65 : decode cX12_run 65 = .ok (.getfield 26, 3) := by decide +kernel
theorem dX12_run_68 : decode cX12_run 68 = .ok (.iload 6, 2) := by decide +kernel
theorem dX12_run_70 : decode cX12_run 70 = .ok (.iaload, 1) := by decide +kernel
theorem dX12_run_71 : decode cX12_run 71 = .ok (.isub, 1) := by decide +kernel
theorem dX12_run_72 : decode cX12_run 72 = .ok (.istore 5, 2) := by decide +kernel
theorem dX12_run_74 : decode cX12_run 74 = .ok (.iinc 6 1, 3) := by decide +kernel
theorem dX12_run_77 : decode cX12_run 77 = .ok (.goto (-27), 3) := by decide +kernel
theorem dX12_run_80 : decode cX12_run 80 = .ok (.iconst 0, 1) := by decide +kernel
theorem dX12_run_81 : decode cX12_run 81 = .ok (.istore 7, 2) := by decide +kernel
theorem dX12_run_83 : decode cX12_run 83 = .ok (.iload 7, 2) := by decide +kernel
theorem dX12_run_85 : decode cX12_run 85 = .ok (.aload_n 0, 1) := by decide +kernel
theorem dX12_run_86 : decode cX12_run 86 = .ok (.getfield 306, 3) := by decide +kernel
theorem dX12_run_89 : decode cX12_run 89 = .ok (.if_icmp .ge 89, 3) := by decide +kernel
theorem dX12_run_92 : decode cX12_run 92 = .ok (.aload_n 0, 1) := by decide +kernel
theorem dX12_run_93 : decode cX12_run 93 = .ok (.invokevirtual 486, 3) := by decide +kernel
theorem dX12_run_96 : decode cX12_run 96 = .ok (.istore 5, 2) := by decide +kernel
theorem dX12_run_98 : decode cX12_run 98 = .ok (.iconst 0, 1) := by decide +kernel
theorem dX12_run_99 : decode cX12_run 99 = .ok (.istore 8, 2) := by decide +kernel
theorem dX12_run_101 : decode cX12_run 101 = .ok (.iload 5, 2) := by decide +kernel
theorem dX12_run_103 : decode cX12_run 103 = .ok (.aload_n 0, 1) := by decide +kernel
theorem dX12_run_104 : decode cX12_run 104 = .ok (.getfield 32, 3) := by decide +kernel
theorem dX12_run_107 : decode cX12_run 107 = .ok (.bipush 9, 2) := by decide +kernel
theorem dX12_run_109 : decode cX12_run 109 = .ok (.iload 7, 2) := by decide +kernel
theorem dX12_run_111 : decode cX12_run 111 = .ok (.imul, 1) := by decide +kernel
theorem dX12_run_112 : decode cX12_run 112 = .ok (.iconst 3, 1) := by decide +kernel
theorem dX12_run_113 : decode cX12_run 113 = .ok (.iload 8, 2) := by decide +kernel
theorem dX12_run_115 : decode cX12_run 115 = .ok (.imul, 1) := by decide +kernel
theorem dX12_run_116 : decode cX12_run 116 = .ok (.iadd, 1) := by decide +kernel
theorem dX12_run_117 : decode cX12_run 117 = .ok (.iload 6, 2) := by decide +kernel
theorem dX12_run_119 : decode cX12_run 119 = .ok (.iadd, 1) := by decide +kernel
theorem dX12_run_120 : decode cX12_run 120 = .ok (.iaload, 1) := by decide +kernel
theorem dX12_run_121 : decode cX12_run 121 = .ok (.if_icmp .lt 32, 3) := by decide +kernel
theorem dX12_run_124 : decode cX12_run 124 = .ok (.iload 5, 2) := by decide +kernel
theorem dX12_run_126 : decode cX12_run 126 = .ok (.aload_n 0, 1) := by decide +kernel
theorem dX12_run_127 : decode cX12_run 127 = .ok (.getfield 32, 3) := by decide +kernel
theorem dX12_run_130 : decode cX12_run 130 = .ok (.bipush 9, 2) := by decide +kernel
theorem dX12_run_132 : decode cX12_run 132 = .ok (.iload 7, 2) := by decide +kernel
theorem dX12_run_134 : decode cX12_run 134 = .ok (.imul, 1) := by decide +kernel
theorem dX12_run_135 : decode cX12_run 135 = .ok (.iconst 3, 1) := by decide +kernel
theorem dX12_run_136 : decode cX12_run 136 = .ok (.iload 8, 2) := by decide +kernel
theorem dX12_run_138 : decode cX12_run 138 = .ok (.imul, 1) := by decide +kernel
theorem dX12_run_139 : decode cX12_run 139 = .ok (.iadd, 1) := by decide +kernel
theorem dX12_run_140 : decode cX12_run 140 = .ok (.iload 6, 2) := by decide +kernel
theorem dX12_run_142 : decode cX12_run 142 = .ok (.iadd, 1) := by decide +kernel
theorem dX12_run_143 : decode cX12_run 143 = .ok (.iaload, 1) := by decide +kernel
theorem dX12_run_144 : decode cX12_run 144 = .ok (.isub, 1) := by decide +kernel
theorem dX12_run_145 : decode cX12_run 145 = .ok (.istore 5, 2) := by decide +kernel
theorem dX12_run_147 : decode cX12_run 147 = .ok (.iinc 8 1, 3) := by decide +kernel
theorem dX12_run_150 : decode cX12_run 150 = .ok (.goto (-49), 3) := by decide +kernel
theorem dX12_run_153 : decode cX12_run 153 = .ok (.aload_n 0, 1) := by decide +kernel
theorem dX12_run_154 : decode cX12_run 154 = .ok (.getfield 71, 3) := by decide +kernel
theorem dX12_run_157 : decode cX12_run 157 = .ok (.iload 7, 2) := by decide +kernel
theorem dX12_run_159 : decode cX12_run 159 = .ok (.aload_n 0, 1) := by decide +kernel
theorem dX12_run_160 : decode cX12_run 160 = .ok (.getfield 68, 3) := by decide +kernel
theorem dX12_run_163 : decode cX12_run 163 = .ok (.iconst 3, 1) := by decide +kernel
theorem dX12_run_164 : decode cX12_run 164 = .ok (.iload 7, 2) := by decide +kernel
theorem dX12_run_166 : decode cX12_run 166 = .ok (.imul, 1) := by decide +kernel
theorem dX12_run_167 : decode cX12_run 167 = .ok (.iload 8, 2) := by decide +kernel
theorem dX12_run_169 : decode cX12_run 169 = .ok (.iadd, 1) := by decide +kernel
theorem dX12_run_170 : decode cX12_run 170 = .ok (.iaload, 1) := by decide +kernel
theorem dX12_run_171 : decode cX12_run 171 = .ok (.iastore, 1) := by decide +kernel
theorem dX12_run_172 : decode cX12_run 172 = .ok (.iinc 7 1, 3) := by decide +kernel
theorem dX12_run_175 : decode cX12_run 175 = .ok (.goto (-92), 3) := by decide +kernel
theorem dX12_run_178 : decode cX12_run 178 = .ok (.aload_n 0, 1) := by decide +kernel
theorem dX12_run_179 : decode cX12_run 179 = .ok (.invokevirtual 352, 3) := by decide +kernel
theorem dX12_run_182 : decode cX12_run 182 = .ok (.iload 6, 2) := by decide +kernel
theorem dX12_run_184 : decode cX12_run 184 = .ok (.if_icmp .ne 6, 3) := by decide +kernel
theorem dX12_run_187 : decode cX12_run 187 = .ok (.iinc 3 1, 3) := by decide +kernel
theorem dX12_run_190 : decode cX12_run 190 = .ok (.iinc 4 1, 3) := by decide +kernel
theorem dX12_run_193 : decode cX12_run 193 = .ok (.goto (-158), 3) := by decide +kernel
theorem dX12_run_196 : decode cX12_run 196 = .ok (.iload_n 3, 1) := by decide +kernel
theorem dX12_run_197 : decode cX12_run 197 = .ok (.ireturn, 1) := by decide +kernel
theorem dX12_says_0 : decode cX12_says 0 = .ok (.aload_n 0, 1) := by decide +kernel
theorem dX12_says_1 : decode cX12_says 1 = .ok (.iconst 0, 1) := by decide +kernel
theorem dX12_says_2 : decode cX12_says 2 = .ok (.putfield 149, 3) := by decide +kernel
theorem dX12_says_5 : decode cX12_says 5 = .ok (.aload_n 0, 1) := by decide +kernel
theorem dX12_says_6 : decode cX12_says 6 = .ok (.invokevirtual 426, 3) := by decide +kernel
theorem dX12_says_9 : decode cX12_says 9 = .ok (.ifCond .ne 5, 3) := by decide +kernel
theorem dX12_says_12 : decode cX12_says 12 = .ok (.iconst (-1), 1) := by decide +kernel
theorem dX12_says_13 : decode cX12_says 13 = .ok (.ireturn, 1) := by decide +kernel
theorem dX12_says_14 : decode cX12_says 14 = .ok (.iconst 0, 1) := by decide +kernel
theorem dX12_says_15 : decode cX12_says 15 = .ok (.istore_n 1, 1) := by decide +kernel
theorem dX12_says_16 : decode cX12_says 16 = .ok (.iconst 0, 1) := by decide +kernel
theorem dX12_says_17 : decode cX12_says 17 = .ok (.istore_n 2, 1) := by decide +kernel
theorem dX12_says_18 : decode cX12_says 18 = .ok (.iload_n 2, 1) := by decide +kernel
theorem dX12_says_19 : decode cX12_says 19 = .ok (.aload_n 0, 1) := by decide +kernel
theorem dX12_says_20 : decode cX12_says 20 = .ok (.getfield 405, 3) := by decide +kernel
theorem dX12_says_23 : decode cX12_says 23 = .ok (.if_icmp .ge 24, 3) := by decide +kernel
theorem dX12_says_26 : decode cX12_says 26 = .ok (.bipush 10, 2) := by decide +kernel
theorem dX12_says_28 : decode cX12_says 28 = .ok (.iload_n 1, 1) := by decide +kernel
theorem dX12_says_29 : decode cX12_says 29 = .ok (.imul, 1) := by decide +kernel
theorem dX12_says_30 : decode cX12_says 30 = .ok (.aload_n 0, 1) := by decide +kernel
theorem dX12_says_31 : decode cX12_says 31 = .ok (.getfield 95, 3) := by decide +kernel
theorem dX12_says_34 : decode cX12_says 34 = .ok (.iload_n 2, 1) := by decide +kernel
theorem dX12_says_35 : decode cX12_says 35 = .ok (.iaload, 1) := by decide +kernel
theorem dX12_says_36 : decode cX12_says 36 = .ok (.bipush 7, 2) := by decide +kernel
theorem dX12_says_38 : decode cX12_says 38 = .ok (.iand, 1) := by decide +kernel
theorem dX12_says_39 : decode cX12_says 39 = .ok (.iadd, 1) := by decide +kernel
theorem dX12_says_40 : decode cX12_says 40 = .ok (.istore_n 1, 1) := by decide +kernel
theorem dX12_says_41 : decode cX12_says 41 = .ok (.iinc 2 1, 3) := by decide +kernel
theorem dX12_says_44 : decode cX12_says 44 = .ok (.goto (-26), 3) := by decide +kernel
theorem dX12_says_47 : decode cX12_says 47 = .ok (.iload_n 1, 1) := by decide +kernel
theorem dX12_says_48 : decode cX12_says 48 = .ok (.ireturn, 1) := by decide +kernel
theorem dX12_settle_0 : decode cX12_settle 0 = .ok (.aload_n 0, 1) := by decide +kernel
theorem dX12_settle_1 : decode cX12_settle 1 = .ok (.iconst 0, 1) := by decide +kernel
theorem dX12_settle_2 : decode cX12_settle 2 = .ok (.putfield 149, 3) := by decide +kernel
theorem dX12_settle_5 : decode cX12_settle 5 = .ok (.aload_n 0, 1) := by decide +kernel
theorem dX12_settle_6 : decode cX12_settle 6 = .ok (.getfield 306, 3) := by decide +kernel
theorem dX12_settle_9 : decode cX12_settle 9 = .ok (.ifCond .ne 5, 3) := by decide +kernel
theorem dX12_settle_12 : decode cX12_settle 12 = .ok (.iconst (-1), 1) := by decide +kernel
theorem dX12_settle_13 : decode cX12_settle 13 = .ok (.ireturn, 1) := by decide +kernel
theorem dX12_settle_14 : decode cX12_settle 14 = .ok (.aload_n 0, 1) := by decide +kernel
theorem dX12_settle_15 : decode cX12_settle 15 = .ok (.invokevirtual 387, 3) := by decide +kernel
theorem dX12_settle_18 : decode cX12_settle 18 = .ok (.iconst 1, 1) := by decide +kernel
theorem dX12_settle_19 : decode cX12_settle 19 = .ok (.istore_n 1, 1) := by decide +kernel
theorem dX12_settle_20 : decode cX12_settle 20 = .ok (.iload_n 1, 1) := by decide +kernel
theorem dX12_settle_21 : decode cX12_settle 21 = .ok (.bipush 50, 2) := by decide +kernel
theorem dX12_settle_23 : decode cX12_settle 23 = .ok (.if_icmp .gt 221, 3) := by decide +kernel
theorem dX12_settle_26 : decode cX12_settle 26 = .ok (.iconst 0, 1) := by decide +kernel
theorem dX12_settle_27 : decode cX12_settle 27 = .ok (.istore_n 2, 1) := by decide +kernel
theorem dX12_settle_28 : decode cX12_settle 28 = .ok (.iconst 0, 1) := by decide +kernel
theorem dX12_settle_29 : decode cX12_settle 29 = .ok (.istore_n 3, 1) := by decide +kernel
theorem dX12_settle_30 : decode cX12_settle 30 = .ok (.iload_n 3, 1) := by decide +kernel
theorem dX12_settle_31 : decode cX12_settle 31 = .ok (.aload_n 0, 1) := by decide +kernel
theorem dX12_settle_32 : decode cX12_settle 32 = .ok (.getfield 306, 3) := by decide +kernel
theorem dX12_settle_35 : decode cX12_settle 35 = .ok (.if_icmp .ge 111, 3) := by decide +kernel
theorem dX12_settle_38 : decode cX12_settle 38 = .ok (.iconst 0, 1) := by decide +kernel
theorem dX12_settle_39 : decode cX12_settle 39 = .ok (.istore 4, 2) := by decide +kernel
theorem dX12_settle_41 : decode cX12_settle 41 = .ok (.iload 4, 2) := by decide +kernel
theorem dX12_settle_43 : decode cX12_settle 43 = .ok (.aload_n 0, 1) := by decide +kernel
theorem dX12_settle_44 : decode cX12_settle 44 = .ok (.getfield 29, 3) := by decide +kernel
theorem dX12_settle_47 : decode cX12_settle 47 = .ok (.iload_n 3, 1) := by decide +kernel
theorem dX12_settle_48 : decode cX12_settle 48 = .ok (.iaload, 1) := by decide +kernel
theorem dX12_settle_49 : decode cX12_settle 49 = .ok (.if_icmp .ge 24, 3) := by decide +kernel
theorem dX12_settle_52 : decode cX12_settle 52 = .ok (.aload_n 0, 1) := by decide +kernel
theorem dX12_settle_53 : decode cX12_settle 53 = .ok (.getfield 86, 3) := by decide +kernel
theorem dX12_settle_56 : decode cX12_settle 56 = .ok (.iload 4, 2) := by decide +kernel
theorem dX12_settle_58 : decode cX12_settle 58 = .ok (.aload_n 0, 1) := by decide +kernel
theorem dX12_settle_59 : decode cX12_settle 59 = .ok (.iload_n 3, 1) := by decide +kernel
theorem dX12_settle_60 : decode cX12_settle 60 = .ok (.iload 4, 2) := by decide +kernel
theorem dX12_settle_62 : decode cX12_settle 62 = .ok (.iconst 1, 1) := by decide +kernel
theorem dX12_settle_63 : decode cX12_settle 63 = .ok (.invokevirtual 381, 3) := by decide +kernel
theorem dX12_settle_66 : decode cX12_settle 66 = .ok (.iastore, 1) := by decide +kernel
theorem dX12_settle_67 : decode cX12_settle 67 = .ok (.iinc 4 1, 3) := by decide +kernel
theorem dX12_settle_70 : decode cX12_settle 70 = .ok (.goto (-29), 3) := by decide +kernel
theorem dX12_settle_73 : decode cX12_settle 73 = .ok (.iconst 0, 1) := by decide +kernel
theorem dX12_settle_74 : decode cX12_settle 74 = .ok (.istore 4, 2) := by decide +kernel
theorem dX12_settle_76 : decode cX12_settle 76 = .ok (.iload 4, 2) := by decide +kernel
theorem dX12_settle_78 : decode cX12_settle 78 = .ok (.aload_n 0, 1) := by decide +kernel
theorem dX12_settle_79 : decode cX12_settle 79 = .ok (.getfield 29, 3) := by decide +kernel
theorem dX12_settle_82 : decode cX12_settle 82 = .ok (.iload_n 3, 1) := by decide +kernel
theorem dX12_settle_83 : decode cX12_settle 83 = .ok (.iaload, 1) := by decide +kernel
theorem dX12_settle_84 : decode cX12_settle 84 = .ok (.if_icmp .ge 56, 3) := by decide +kernel
theorem dX12_settle_87 : decode cX12_settle 87 = .ok (.aload_n 0, 1) := by decide +kernel
theorem dX12_settle_88 : decode cX12_settle 88 = .ok (.getfield 68, 3) := by decide +kernel
theorem dX12_settle_91 : decode cX12_settle 91 = .ok (.bipush 21, 2) := by decide +kernel
theorem dX12_settle_93 : decode cX12_settle 93 = .ok (.iconst 3, 1) := by decide +kernel
theorem dX12_settle_94 : decode cX12_settle 94 = .ok (.iload_n 3, 1) := by decide +kernel
theorem dX12_settle_95 : decode cX12_settle 95 = .ok (.imul, 1) := by decide +kernel
theorem dX12_settle_96 : decode cX12_settle 96 = .ok (.iadd, 1) := by decide +kernel
theorem dX12_settle_97 : decode cX12_settle 97 = .ok (.iload 4, 2) := by decide +kernel
theorem dX12_settle_99 : decode cX12_settle 99 = .ok (.iadd, 1) := by decide +kernel
theorem dX12_settle_100 : decode cX12_settle 100 = .ok (.iaload, 1) := by decide +kernel
theorem dX12_settle_101 : decode cX12_settle 101 = .ok (.aload_n 0, 1) := by decide +kernel
theorem dX12_settle_102 : decode cX12_settle 102 = .ok (.getfield 86, 3) := by decide +kernel
theorem dX12_settle_105 : decode cX12_settle 105 = .ok (.iload 4, 2) := by decide +kernel
theorem dX12_settle_107 : decode cX12_settle 107 = .ok (.iaload, 1) := by decide +kernel
theorem dX12_settle_108 : decode cX12_settle 108 = .ok (.if_icmp .eq 5, 3) := by decide +kernel
theorem dX12_settle_111 : decode cX12_settle 111 = .ok (.iconst 1, 1) := by decide +kernel
theorem dX12_settle_112 : decode cX12_settle 112 = .ok (.istore_n 2, 1) := by decide +kernel
theorem dX12_settle_113 : decode cX12_settle 113 = .ok (.aload_n 0, 1) := by decide +kernel
theorem dX12_settle_114 : decode cX12_settle 114 = .ok (.getfield 68, 3) := by decide +kernel
theorem dX12_settle_117 : decode cX12_settle 117 = .ok (.bipush 21, 2) := by decide +kernel
theorem dX12_settle_119 : decode cX12_settle 119 = .ok (.iconst 3, 1) := by decide +kernel
theorem dX12_settle_120 : decode cX12_settle 120 = .ok (.iload_n 3, 1) := by decide +kernel
theorem dX12_settle_121 : decode cX12_settle 121 = .ok (.imul, 1) := by decide +kernel
theorem dX12_settle_122 : decode cX12_settle 122 = .ok (.iadd, 1) := by decide +kernel
theorem dX12_settle_123 : decode cX12_settle 123 = .ok (.iload 4, 2) := by decide +kernel
theorem dX12_settle_125 : decode cX12_settle 125 = .ok (.iadd, 1) := by decide +kernel
theorem dX12_settle_126 : decode cX12_settle 126 = .ok (.aload_n 0, 1) := by decide +kernel
theorem dX12_settle_127 : decode cX12_settle 127 = .ok (.getfield 86, 3) := by decide +kernel
theorem dX12_settle_130 : decode cX12_settle 130 = .ok (.iload 4, 2) := by decide +kernel
theorem dX12_settle_132 : decode cX12_settle 132 = .ok (.iaload, 1) := by decide +kernel
theorem dX12_settle_133 : decode cX12_settle 133 = .ok (.iastore, 1) := by decide +kernel
theorem dX12_settle_134 : decode cX12_settle 134 = .ok (.iinc 4 1, 3) := by decide +kernel
theorem dX12_settle_137 : decode cX12_settle 137 = .ok (.goto (-61), 3) := by decide +kernel
theorem dX12_settle_140 : decode cX12_settle 140 = .ok (.iinc 3 1, 3) := by decide +kernel
theorem dX12_settle_143 : decode cX12_settle 143 = .ok (.goto (-113), 3) := by decide +kernel
theorem dX12_settle_146 : decode cX12_settle 146 = .ok (.iload_n 2, 1) := by decide +kernel
theorem dX12_settle_147 : decode cX12_settle 147 = .ok (.ifCond .eq 6, 3) := by decide +kernel
theorem dX12_settle_150 : decode cX12_settle 150 = .ok (.goto 88, 3) := by decide +kernel
theorem dX12_settle_153 : decode cX12_settle 153 = .ok (.iconst 0, 1) := by decide +kernel
theorem dX12_settle_154 : decode cX12_settle 154 = .ok (.istore_n 3, 1) := by decide +kernel
theorem dX12_settle_155 : decode cX12_settle 155 = .ok (.iload_n 3, 1) := by decide +kernel
theorem dX12_settle_156 : decode cX12_settle 156 = .ok (.bipush 21, 2) := by decide +kernel
theorem dX12_settle_158 : decode cX12_settle 158 = .ok (.if_icmp .ge 24, 3) := by decide +kernel
theorem dX12_settle_161 : decode cX12_settle 161 = .ok (.aload_n 0, 1) := by decide +kernel
theorem dX12_settle_162 : decode cX12_settle 162 = .ok (.getfield 80, 3) := by decide +kernel
theorem dX12_settle_165 : decode cX12_settle 165 = .ok (.iload_n 3, 1) := by decide +kernel
theorem dX12_settle_166 : decode cX12_settle 166 = .ok (.aload_n 0, 1) := by decide +kernel
theorem dX12_settle_167 : decode cX12_settle 167 = .ok (.getfield 68, 3) := by decide +kernel
theorem dX12_settle_170 : decode cX12_settle 170 = .ok (.bipush 21, 2) := by decide +kernel
theorem dX12_settle_172 : decode cX12_settle 172 = .ok (.iload_n 3, 1) := by decide +kernel
theorem dX12_settle_173 : decode cX12_settle 173 = .ok (.iadd, 1) := by decide +kernel
theorem dX12_settle_174 : decode cX12_settle 174 = .ok (.iaload, 1) := by decide +kernel
theorem dX12_settle_175 : decode cX12_settle 175 = .ok (.iastore, 1) := by decide +kernel
theorem dX12_settle_176 : decode cX12_settle 176 = .ok (.iinc 3 1, 3) := by decide +kernel
theorem dX12_settle_179 : decode cX12_settle 179 = .ok (.goto (-24), 3) := by decide +kernel
theorem dX12_settle_182 : decode cX12_settle 182 = .ok (.iconst 0, 1) := by decide +kernel
theorem dX12_settle_183 : decode cX12_settle 183 = .ok (.istore_n 3, 1) := by decide +kernel
theorem dX12_settle_184 : decode cX12_settle 184 = .ok (.iload_n 3, 1) := by decide +kernel
theorem dX12_settle_185 : decode cX12_settle 185 = .ok (.aload_n 0, 1) := by decide +kernel
theorem dX12_settle_186 : decode cX12_settle 186 = .ok (.getfield 306, 3) := by decide +kernel
theorem dX12_settle_189 : decode cX12_settle 189 = .ok (.if_icmp .ge 21, 3) := by decide +kernel
theorem dX12_settle_192 : decode cX12_settle 192 = .ok (.aload_n 0, 1) := by decide +kernel
theorem dX12_settle_193 : decode cX12_settle 193 = .ok (.getfield 83, 3) := by decide +kernel
theorem dX12_settle_196 : decode cX12_settle 196 = .ok (.iload_n 3, 1) := by decide +kernel
theorem dX12_settle_197 : decode cX12_settle 197 = .ok (.aload_n 0, 1) := by decide +kernel
theorem dX12_settle_198 : decode cX12_settle 198 = .ok (.getfield 29, 3) := by decide +kernel
theorem dX12_settle_201 : decode cX12_settle 201 = .ok (.iload_n 3, 1) := by decide +kernel
theorem dX12_settle_202 : decode cX12_settle 202 = .ok (.iaload, 1) := by decide +kernel
theorem dX12_settle_203 : decode cX12_settle 203 = .ok (.iastore, 1) := by decide +kernel
theorem dX12_settle_204 : decode cX12_settle 204 = .ok (.iinc 3 1, 3) := by decide +kernel
theorem dX12_settle_207 : decode cX12_settle 207 = .ok (.goto (-23), 3) := by decide +kernel
theorem dX12_settle_210 : decode cX12_settle 210 = .ok (.aload_n 0, 1) := by decide +kernel
theorem dX12_settle_211 : decode cX12_settle 211 = .ok (.aload_n 0, 1) := by decide +kernel
theorem dX12_settle_212 : decode cX12_settle 212 = .ok (.getfield 306, 3) := by decide +kernel
theorem dX12_settle_215 : decode cX12_settle 215 = .ok (.putfield 390, 3) := by decide +kernel
theorem dX12_settle_218 : decode cX12_settle 218 = .ok (.aload_n 0, 1) := by decide +kernel
theorem dX12_settle_219 : decode cX12_settle 219 = .ok (.aload_n 0, 1) := by decide +kernel
theorem dX12_settle_220 : decode cX12_settle 220 = .ok (.iconst 1, 1) := by decide +kernel
theorem dX12_settle_221 : decode cX12_settle 221 = .ok (.invokevirtual 358, 3) := by decide +kernel
theorem dX12_settle_224 : decode cX12_settle 224 = .ok (.putfield 393, 3) := by decide +kernel
theorem dX12_settle_227 : decode cX12_settle 227 = .ok (.aload_n 0, 1) := by decide +kernel
theorem dX12_settle_228 : decode cX12_settle 228 = .ok (.aload_n 0, 1) := by decide +kernel
theorem dX12_settle_229 : decode cX12_settle 229 = .ok (.iconst 1, 1) := by decide +kernel
theorem dX12_settle_230 : decode cX12_settle 230 = .ok (.invokevirtual 362, 3) := by decide +kernel
theorem dX12_settle_233 : decode cX12_settle 233 = .ok (.putfield 396, 3) := by decide +kernel
theorem dX12_settle_236 : decode cX12_settle 236 = .ok (.iload_n 1, 1) := by decide +kernel
theorem dX12_settle_237 : decode cX12_settle 237 = .ok (.ireturn, 1) := by decide +kernel
theorem dX12_settle_238 : decode cX12_settle 238 = .ok (.iinc 1 1, 3) := by decide +kernel
theorem dX12_settle_241 : decode cX12_settle 241 = .ok (.goto (-221), 3) := by decide +kernel
theorem dX12_settle_244 : decode cX12_settle 244 = .ok (.iconst (-1), 1) := by decide +kernel
theorem dX12_settle_245 : decode cX12_settle 245 = .ok (.ireturn, 1) := by decide +kernel
theorem dX12_settled_0 : decode cX12_settled 0 = .ok (.aload_n 0, 1) := by decide +kernel
theorem dX12_settled_1 : decode cX12_settled 1 = .ok (.iconst 0, 1) := by decide +kernel
theorem dX12_settled_2 : decode cX12_settled 2 = .ok (.putfield 149, 3) := by decide +kernel
theorem dX12_settled_5 : decode cX12_settled 5 = .ok (.iload_n 1, 1) := by decide +kernel
theorem dX12_settled_6 : decode cX12_settled 6 = .ok (.ifCond .lt 38, 3) := by decide +kernel
theorem dX12_settled_9 : decode cX12_settled 9 = .ok (.iload_n 1, 1) := by decide +kernel
theorem dX12_settled_10 : decode cX12_settled 10 = .ok (.aload_n 0, 1) := by decide +kernel
theorem dX12_settled_11 : decode cX12_settled 11 = .ok (.getfield 390, 3) := by decide +kernel
theorem dX12_settled_14 : decode cX12_settled 14 = .ok (.if_icmp .ge 30, 3) := by decide +kernel
theorem dX12_settled_17 : decode cX12_settled 17 = .ok (.iload_n 2, 1) := by decide +kernel
theorem dX12_settled_18 : decode cX12_settled 18 = .ok (.ifCond .lt 26, 3) := by decide +kernel
theorem dX12_settled_21 : decode cX12_settled 21 = .ok (.iload_n 2, 1) := by decide +kernel
theorem dX12_settled_22 : decode cX12_settled 22 = .ok (.aload_n 0, 1) := by decide +kernel
theorem dX12_settled_23 : decode cX12_settled 23 = .ok (.getfield 83, 3) := by decide +kernel
theorem dX12_settled_26 : decode cX12_settled 26 = .ok (.iload_n 1, 1) := by decide +kernel
theorem dX12_settled_27 : decode cX12_settled 27 = .ok (.iaload, 1) := by decide +kernel
theorem dX12_settled_28 : decode cX12_settled 28 = .ok (.if_icmp .ge 16, 3) := by decide +kernel
theorem dX12_settled_31 : decode cX12_settled 31 = .ok (.aload_n 0, 1) := by decide +kernel
theorem dX12_settled_32 : decode cX12_settled 32 = .ok (.getfield 80, 3) := by decide +kernel
theorem dX12_settled_35 : decode cX12_settled 35 = .ok (.iconst 3, 1) := by decide +kernel
theorem dX12_settled_36 : decode cX12_settled 36 = .ok (.iload_n 1, 1) := by decide +kernel
theorem dX12_settled_37 : decode cX12_settled 37 = .ok (.imul, 1) := by decide +kernel
theorem dX12_settled_38 : decode cX12_settled 38 = .ok (.iload_n 2, 1) := by decide +kernel
theorem dX12_settled_39 : decode cX12_settled 39 = .ok (.iadd, 1) := by decide +kernel
theorem dX12_settled_40 : decode cX12_settled 40 = .ok (.iaload, 1) := by decide +kernel
theorem dX12_settled_41 : decode cX12_settled 41 = .ok (.goto 4, 3) := by decide +kernel
theorem dX12_settled_44 : decode cX12_settled 44 = .ok (.iconst (-1), 1) := by decide +kernel
theorem dX12_settled_45 : decode cX12_settled 45 = .ok (.ireturn, 1) := by decide +kernel
theorem dX12_settles_0 : decode cX12_settles 0 = .ok (.aload_n 0, 1) := by decide +kernel
theorem dX12_settles_1 : decode cX12_settles 1 = .ok (.iconst 0, 1) := by decide +kernel
theorem dX12_settles_2 : decode cX12_settles 2 = .ok (.putfield 149, 3) := by decide +kernel
theorem dX12_settles_5 : decode cX12_settles 5 = .ok (.aload_n 0, 1) := by decide +kernel
theorem dX12_settles_6 : decode cX12_settles 6 = .ok (.getfield 390, 3) := by decide +kernel
theorem dX12_settles_9 : decode cX12_settles 9 = .ok (.ifCond .eq 12, 3) := by decide +kernel
theorem dX12_settles_12 : decode cX12_settles 12 = .ok (.iload_n 1, 1) := by decide +kernel
theorem dX12_settles_13 : decode cX12_settles 13 = .ok (.iconst 0, 1) := by decide +kernel
theorem dX12_settles_14 : decode cX12_settles 14 = .ok (.iconst 1, 1) := by decide +kernel
theorem dX12_settles_15 : decode cX12_settles 15 = .ok (.invokestatic 234, 3) := by decide +kernel
theorem dX12_settles_18 : decode cX12_settles 18 = .ok (.ifCond .ne 9, 3) := by decide +kernel
theorem dX12_settles_21 : decode cX12_settles 21 = .ok (.ldc2_w 128, 3) := by decide +kernel
theorem dX12_settles_24 : decode cX12_settles 24 = .ok (.goto 18, 3) := by decide +kernel
theorem dX12_settles_27 : decode cX12_settles 27 = .ok (.iload_n 1, 1) := by decide +kernel
theorem dX12_settles_28 : decode cX12_settles 28 = .ok (.ifCond .ne 10, 3) := by decide +kernel
theorem dX12_settles_31 : decode cX12_settles 31 = .ok (.aload_n 0, 1) := by decide +kernel
theorem dX12_settles_32 : decode cX12_settles 32 = .ok (.getfield 393, 3) := by decide +kernel
theorem dX12_settles_35 : decode cX12_settles 35 = .ok (.goto 7, 3) := by decide +kernel
theorem dX12_settles_38 : decode cX12_settles 38 = .ok (.aload_n 0, 1) := by decide +kernel
theorem dX12_settles_39 : decode cX12_settles 39 = .ok (.getfield 396, 3) := by decide +kernel
theorem dX12_settles_42 : decode cX12_settles 42 = .ok (.lreturn, 1) := by decide +kernel
theorem dX12_shut_0 : decode cX12_shut 0 = .ok (.aload_n 0, 1) := by decide +kernel
theorem dX12_shut_1 : decode cX12_shut 1 = .ok (.iload_n 1, 1) := by decide +kernel
theorem dX12_shut_2 : decode cX12_shut 2 = .ok (.invokevirtual 322, 3) := by decide +kernel
theorem dX12_shut_5 : decode cX12_shut 5 = .ok (.ifCond .eq 12, 3) := by decide +kernel
theorem dX12_shut_8 : decode cX12_shut 8 = .ok (.aload_n 0, 1) := by decide +kernel
theorem dX12_shut_9 : decode cX12_shut 9 = .ok (.iload_n 2, 1) := by decide +kernel
theorem dX12_shut_10 : decode cX12_shut 10 = .ok (.iload_n 3, 1) := by decide +kernel
theorem dX12_shut_11 : decode cX12_shut 11 = .ok (.invokevirtual 349, 3) := by decide +kernel
theorem dX12_shut_14 : decode cX12_shut 14 = .ok (.ifCond .ne 8, 3) := by decide +kernel
theorem dX12_shut_17 : decode cX12_shut 17 = .ok (.aload_n 0, 1) := by decide +kernel
theorem dX12_shut_18 : decode cX12_shut 18 = .ok (.invokevirtual 325, 3) := by decide +kernel
theorem dX12_shut_21 : decode cX12_shut 21 = .ok (.lreturn, 1) := by decide +kernel
theorem dX12_shut_22 : decode cX12_shut 22 = .ok (.aload_n 0, 1) := by decide +kernel
theorem dX12_shut_23 : decode cX12_shut 23 = .ok (.iconst 0, 1) := by decide +kernel
theorem dX12_shut_24 : decode cX12_shut 24 = .ok (.putfield 149, 3) := by decide +kernel
theorem dX12_shut_27 : decode cX12_shut 27 = .ok (.lconst 0, 1) := by decide +kernel
theorem dX12_shut_28 : decode cX12_shut 28 = .ok (.lstore 4, 2) := by decide +kernel
theorem dX12_shut_30 : decode cX12_shut 30 = .ok (.iconst 0, 1) := by decide +kernel
theorem dX12_shut_31 : decode cX12_shut 31 = .ok (.istore 6, 2) := by decide +kernel
theorem dX12_shut_33 : decode cX12_shut 33 = .ok (.iload 6, 2) := by decide +kernel
theorem dX12_shut_35 : decode cX12_shut 35 = .ok (.aload_n 0, 1) := by decide +kernel
theorem dX12_shut_36 : decode cX12_shut 36 = .ok (.getfield 309, 3) := by decide +kernel
theorem dX12_shut_39 : decode cX12_shut 39 = .ok (.if_icmp .ge 42, 3) := by decide +kernel
theorem dX12_shut_42 : decode cX12_shut 42 = .ok (.aload_n 0, 1) := by decide +kernel
theorem dX12_shut_43 : decode cX12_shut 43 = .ok (.iload 6, 2) := by decide +kernel
theorem dX12_shut_45 : decode cX12_shut 45 = .ok (.iload_n 2, 1) := by decide +kernel
theorem dX12_shut_46 : decode cX12_shut 46 = .ok (.invokevirtual 312, 3) := by decide +kernel
theorem dX12_shut_49 : decode cX12_shut 49 = .ok (.iload_n 3, 1) := by decide +kernel
theorem dX12_shut_50 : decode cX12_shut 50 = .ok (.if_icmp .ne 25, 3) := by decide +kernel
theorem dX12_shut_53 : decode cX12_shut 53 = .ok (.aload_n 0, 1) := by decide +kernel
theorem dX12_shut_54 : decode cX12_shut 54 = .ok (.iload 6, 2) := by decide +kernel
theorem dX12_shut_56 : decode cX12_shut 56 = .ok (.iconst 0, 1) := by decide +kernel
theorem dX12_shut_57 : decode cX12_shut 57 = .ok (.invokevirtual 355, 3) := by decide +kernel
theorem dX12_shut_60 : decode cX12_shut 60 = .ok (.iload_n 1, 1) := by decide +kernel
theorem dX12_shut_61 : decode cX12_shut 61 = .ok (.if_icmp .ne 14, 3) := by decide +kernel
theorem dX12_shut_64 : decode cX12_shut 64 = .ok (.lload 4, 2) := by decide +kernel
theorem dX12_shut_66 : decode cX12_shut 66 = .ok (.aload_n 0, 1) := by decide +kernel
theorem dX12_shut_67 : decode cX12_shut 67 = .ok (.iload 6, 2) := by decide +kernel
theorem dX12_shut_69 : decode cX12_shut 69 = .ok (.invokevirtual 476, 3) := by decide +kernel
theorem dX12_shut_72 : decode cX12_shut 72 = .ok (.ladd, 1) := by decide +kernel
theorem dX12_shut_73 : decode cX12_shut 73 = .ok (.lstore 4, 2) := by decide +kernel
theorem dX12_shut_75 : decode cX12_shut 75 = .ok (.iinc 6 1, 3) := by decide +kernel
theorem dX12_shut_78 : decode cX12_shut 78 = .ok (.goto (-45), 3) := by decide +kernel
theorem dX12_shut_81 : decode cX12_shut 81 = .ok (.lload 4, 2) := by decide +kernel
theorem dX12_shut_83 : decode cX12_shut 83 = .ok (.lreturn, 1) := by decide +kernel
theorem dX12_sign_0 : decode cX12_sign 0 = .ok (.iload_n 1, 1) := by decide +kernel
theorem dX12_sign_1 : decode cX12_sign 1 = .ok (.aload_n 0, 1) := by decide +kernel
theorem dX12_sign_2 : decode cX12_sign 2 = .ok (.getfield 62, 3) := by decide +kernel
theorem dX12_sign_5 : decode cX12_sign 5 = .ok (.iload_n 2, 1) := by decide +kernel
theorem dX12_sign_6 : decode cX12_sign 6 = .ok (.iaload, 1) := by decide +kernel
theorem dX12_sign_7 : decode cX12_sign 7 = .ok (.idiv, 1) := by decide +kernel
theorem dX12_sign_8 : decode cX12_sign 8 = .ok (.aload_n 0, 1) := by decide +kernel
theorem dX12_sign_9 : decode cX12_sign 9 = .ok (.getfield 29, 3) := by decide +kernel
theorem dX12_sign_12 : decode cX12_sign 12 = .ok (.iload_n 2, 1) := by decide +kernel
theorem dX12_sign_13 : decode cX12_sign 13 = .ok (.iaload, 1) := by decide +kernel
theorem dX12_sign_14 : decode cX12_sign 14 = .ok (.irem, 1) := by decide +kernel
theorem dX12_sign_15 : decode cX12_sign 15 = .ok (.ireturn, 1) := by decide +kernel
theorem dX12_signs_0 : decode cX12_signs 0 = .ok (.aload_n 0, 1) := by decide +kernel
theorem dX12_signs_1 : decode cX12_signs 1 = .ok (.iconst 0, 1) := by decide +kernel
theorem dX12_signs_2 : decode cX12_signs 2 = .ok (.putfield 149, 3) := by decide +kernel
theorem dX12_signs_5 : decode cX12_signs 5 = .ok (.aload_n 0, 1) := by decide +kernel
theorem dX12_signs_6 : decode cX12_signs 6 = .ok (.iload_n 1, 1) := by decide +kernel
theorem dX12_signs_7 : decode cX12_signs 7 = .ok (.invokevirtual 316, 3) := by decide +kernel
theorem dX12_signs_10 : decode cX12_signs 10 = .ok (.ifCond .eq 12, 3) := by decide +kernel
theorem dX12_signs_13 : decode cX12_signs 13 = .ok (.aload_n 0, 1) := by decide +kernel
theorem dX12_signs_14 : decode cX12_signs 14 = .ok (.getfield 29, 3) := by decide +kernel
theorem dX12_signs_17 : decode cX12_signs 17 = .ok (.iload_n 1, 1) := by decide +kernel
theorem dX12_signs_18 : decode cX12_signs 18 = .ok (.iaload, 1) := by decide +kernel
theorem dX12_signs_19 : decode cX12_signs 19 = .ok (.goto 4, 3) := by decide +kernel
theorem dX12_signs_22 : decode cX12_signs 22 = .ok (.iconst (-1), 1) := by decide +kernel
theorem dX12_signs_23 : decode cX12_signs 23 = .ok (.ireturn, 1) := by decide +kernel
theorem dX12_silence_0 : decode cX12_silence 0 = .ok (.iconst 0, 1) := by decide +kernel
theorem dX12_silence_1 : decode cX12_silence 1 = .ok (.istore_n 2, 1) := by decide +kernel
theorem dX12_silence_2 : decode cX12_silence 2 = .ok (.iload_n 2, 1) := by decide +kernel
theorem dX12_silence_3 : decode cX12_silence 3 = .ok (.iconst 3, 1) := by decide +kernel
theorem dX12_silence_4 : decode cX12_silence 4 = .ok (.if_icmp .ge 24, 3) := by decide +kernel
theorem dX12_silence_7 : decode cX12_silence 7 = .ok (.aload_n 0, 1) := by decide +kernel
theorem dX12_silence_8 : decode cX12_silence 8 = .ok (.getfield 68, 3) := by decide +kernel
theorem dX12_silence_11 : decode cX12_silence 11 = .ok (.bipush 21, 2) := by decide +kernel
theorem dX12_silence_13 : decode cX12_silence 13 = .ok (.iconst 3, 1) := by decide +kernel
theorem dX12_silence_14 : decode cX12_silence 14 = .ok (.iload_n 1, 1) := by decide +kernel
theorem dX12_silence_15 : decode cX12_silence 15 = .ok (.imul, 1) := by decide +kernel
theorem dX12_silence_16 : decode cX12_silence 16 = .ok (.iadd, 1) := by decide +kernel
theorem dX12_silence_17 : decode cX12_silence 17 = .ok (.iload_n 2, 1) := by decide +kernel
theorem dX12_silence_18 : decode cX12_silence 18 = .ok (.iadd, 1) := by decide +kernel
theorem dX12_silence_19 : decode cX12_silence 19 = .ok (.bipush 9, 2) := by decide +kernel
theorem dX12_silence_21 : decode cX12_silence 21 = .ok (.iastore, 1) := by decide +kernel
theorem dX12_silence_22 : decode cX12_silence 22 = .ok (.iinc 2 1, 3) := by decide +kernel
theorem dX12_silence_25 : decode cX12_silence 25 = .ok (.goto (-23), 3) := by decide +kernel
theorem dX12_silence_28 : decode cX12_silence 28 = .ok (.return_, 1) := by decide +kernel
theorem dX12_silent_0 : decode cX12_silent 0 = .ok (.aload_n 0, 1) := by decide +kernel
theorem dX12_silent_1 : decode cX12_silent 1 = .ok (.iconst 0, 1) := by decide +kernel
theorem dX12_silent_2 : decode cX12_silent 2 = .ok (.putfield 149, 3) := by decide +kernel
theorem dX12_silent_5 : decode cX12_silent 5 = .ok (.aload_n 0, 1) := by decide +kernel
theorem dX12_silent_6 : decode cX12_silent 6 = .ok (.getfield 306, 3) := by decide +kernel
theorem dX12_silent_9 : decode cX12_silent 9 = .ok (.ifCond .ne 5, 3) := by decide +kernel
theorem dX12_silent_12 : decode cX12_silent 12 = .ok (.iconst (-1), 1) := by decide +kernel
theorem dX12_silent_13 : decode cX12_silent 13 = .ok (.ireturn, 1) := by decide +kernel
theorem dX12_silent_14 : decode cX12_silent 14 = .ok (.aload_n 0, 1) := by decide +kernel
theorem dX12_silent_15 : decode cX12_silent 15 = .ok (.iconst 0, 1) := by decide +kernel
theorem dX12_silent_16 : decode cX12_silent 16 = .ok (.invokevirtual 362, 3) := by decide +kernel
theorem dX12_silent_19 : decode cX12_silent 19 = .ok (.lstore_n 1, 1) := by decide +kernel
theorem dX12_silent_20 : decode cX12_silent 20 = .ok (.iconst (-1), 1) := by decide +kernel
theorem dX12_silent_21 : decode cX12_silent 21 = .ok (.istore_n 3, 1) := by decide +kernel
theorem dX12_silent_22 : decode cX12_silent 22 = .ok (.iconst 0, 1) := by decide +kernel
theorem dX12_silent_23 : decode cX12_silent 23 = .ok (.istore 4, 2) := by decide +kernel
theorem dX12_silent_25 : decode cX12_silent 25 = .ok (.iload 4, 2) := by decide +kernel
theorem dX12_silent_27 : decode cX12_silent 27 = .ok (.aload_n 0, 1) := by decide +kernel
theorem dX12_silent_28 : decode cX12_silent 28 = .ok (.getfield 306, 3) := by decide +kernel
theorem dX12_silent_31 : decode cX12_silent 31 = .ok (.if_icmp .ge 34, 3) := by decide +kernel
theorem dX12_silent_34 : decode cX12_silent 34 = .ok (.aload_n 0, 1) := by decide +kernel
theorem dX12_silent_35 : decode cX12_silent 35 = .ok (.iload 4, 2) := by decide +kernel
theorem dX12_silent_37 : decode cX12_silent 37 = .ok (.iconst (-1), 1) := by decide +kernel
theorem dX12_silent_38 : decode cX12_silent 38 = .ok (.invokevirtual 458, 3) := by decide +kernel
theorem dX12_silent_41 : decode cX12_silent 41 = .ok (.lstore 5, 2) := by decide +kernel
theorem dX12_silent_43 : decode cX12_silent 43 = .ok (.lload 5, 2) := by decide +kernel
theorem dX12_silent_45 : decode cX12_silent 45 = .ok (.lload_n 1, 1) := by decide +kernel
theorem dX12_silent_46 : decode cX12_silent 46 = .ok (.lcmp, 1) := by decide +kernel
theorem dX12_silent_47 : decode cX12_silent 47 = .ok (.ifCond .lt 6, 3) := by decide +kernel
theorem dX12_silent_50 : decode cX12_silent 50 = .ok (.goto 9, 3) := by decide +kernel
theorem dX12_silent_53 : decode cX12_silent 53 = .ok (.lload 5, 2) := by decide +kernel
theorem dX12_silent_55 : decode cX12_silent 55 = .ok (.lstore_n 1, 1) := by decide +kernel
theorem dX12_silent_56 : decode cX12_silent 56 = .ok (.iload 4, 2) := by decide +kernel
theorem dX12_silent_58 : decode cX12_silent 58 = .ok (.istore_n 3, 1) := by decide +kernel
theorem dX12_silent_59 : decode cX12_silent 59 = .ok (.iinc 4 1, 3) := by decide +kernel
theorem dX12_silent_62 : decode cX12_silent 62 = .ok (.goto (-37), 3) := by decide +kernel
theorem dX12_silent_65 : decode cX12_silent 65 = .ok (.iload_n 3, 1) := by decide +kernel
theorem dX12_silent_66 : decode cX12_silent 66 = .ok (.ireturn, 1) := by decide +kernel
theorem dX12_six_0 : decode cX12_six 0 = .ok (.ldc2_w 189, 3) := by decide +kernel
theorem dX12_six_3 : decode cX12_six 3 = .ok (.iload_n 0, 1) := by decide +kernel
theorem dX12_six_4 : decode cX12_six 4 = .ok (.iload_n 1, 1) := by decide +kernel
theorem dX12_six_5 : decode cX12_six 5 = .ok (.iload_n 2, 1) := by decide +kernel
theorem dX12_six_6 : decode cX12_six 6 = .ok (.iload_n 3, 1) := by decide +kernel
theorem dX12_six_7 : decode cX12_six 7 = .ok (.iload 4, 2) := by decide +kernel
theorem dX12_six_9 : decode cX12_six 9 = .ok (.invokestatic 193, 3) := by decide +kernel
theorem dX12_six_12 : decode cX12_six 12 = .ok (.lmul, 1) := by decide +kernel
theorem dX12_six_13 : decode cX12_six 13 = .ok (.iload 5, 2) := by decide +kernel
theorem dX12_six_15 : decode cX12_six 15 = .ok (.i2l, 1) := by decide +kernel
theorem dX12_six_16 : decode cX12_six 16 = .ok (.ladd, 1) := by decide +kernel
theorem dX12_six_17 : decode cX12_six 17 = .ok (.ldc2_w 191, 3) := by decide +kernel
theorem dX12_six_20 : decode cX12_six 20 = .ok (.lsub, 1) := by decide +kernel
theorem dX12_six_21 : decode cX12_six 21 = .ok (.lreturn, 1) := by decide +kernel
theorem dX12_speak_0 : decode cX12_speak 0 = .ok (.iconst 1, 1) := by decide +kernel
theorem dX12_speak_1 : decode cX12_speak 1 = .ok (.istore_n 1, 1) := by decide +kernel
theorem dX12_speak_2 : decode cX12_speak 2 = .ok (.iconst 0, 1) := by decide +kernel
theorem dX12_speak_3 : decode cX12_speak 3 = .ok (.istore_n 2, 1) := by decide +kernel
theorem dX12_speak_4 : decode cX12_speak 4 = .ok (.iload_n 2, 1) := by decide +kernel
theorem dX12_speak_5 : decode cX12_speak 5 = .ok (.aload_n 0, 1) := by decide +kernel
theorem dX12_speak_6 : decode cX12_speak 6 = .ok (.getfield 309, 3) := by decide +kernel
theorem dX12_speak_9 : decode cX12_speak 9 = .ok (.if_icmp .ge 16, 3) := by decide +kernel
theorem dX12_speak_12 : decode cX12_speak 12 = .ok (.aload_n 0, 1) := by decide +kernel
theorem dX12_speak_13 : decode cX12_speak 13 = .ok (.getfield 92, 3) := by decide +kernel
theorem dX12_speak_16 : decode cX12_speak 16 = .ok (.iload_n 2, 1) := by decide +kernel
theorem dX12_speak_17 : decode cX12_speak 17 = .ok (.iconst 0, 1) := by decide +kernel
theorem dX12_speak_18 : decode cX12_speak 18 = .ok (.iastore, 1) := by decide +kernel
theorem dX12_speak_19 : decode cX12_speak 19 = .ok (.iinc 2 1, 3) := by decide +kernel
theorem dX12_speak_22 : decode cX12_speak 22 = .ok (.goto (-18), 3) := by decide +kernel
theorem dX12_speak_25 : decode cX12_speak 25 = .ok (.iconst 0, 1) := by decide +kernel
theorem dX12_speak_26 : decode cX12_speak 26 = .ok (.istore_n 2, 1) := by decide +kernel
theorem dX12_speak_27 : decode cX12_speak 27 = .ok (.iload_n 2, 1) := by decide +kernel
theorem dX12_speak_28 : decode cX12_speak 28 = .ok (.aload_n 0, 1) := by decide +kernel
theorem dX12_speak_29 : decode cX12_speak 29 = .ok (.getfield 306, 3) := by decide +kernel
theorem dX12_speak_32 : decode cX12_speak 32 = .ok (.if_icmp .ge 480, 3) := by decide +kernel
theorem dX12_speak_35 : decode cX12_speak 35 = .ok (.aload_n 0, 1) := by decide +kernel
theorem dX12_speak_36 : decode cX12_speak 36 = .ok (.getfield 89, 3) := by decide +kernel
theorem dX12_speak_39 : decode cX12_speak 39 = .ok (.iload_n 2, 1) := by decide +kernel
theorem dX12_speak_40 : decode cX12_speak 40 = .ok (.iaload, 1) := by decide +kernel
theorem dX12_speak_41 : decode cX12_speak 41 = .ok (.istore_n 3, 1) := by decide +kernel
theorem dX12_speak_42 : decode cX12_speak 42 = .ok (.iconst 0, 1) := by decide +kernel
theorem dX12_speak_43 : decode cX12_speak 43 = .ok (.istore 4, 2) := by decide +kernel
theorem dX12_speak_45 : decode cX12_speak 45 = .ok (.iload 4, 2) := by decide +kernel
theorem dX12_speak_47 : decode cX12_speak 47 = .ok (.bipush 9, 2) := by decide +kernel
theorem dX12_speak_49 : decode cX12_speak 49 = .ok (.iload_n 1, 1) := by decide +kernel
theorem dX12_speak_50 : decode cX12_speak 50 = .ok (.imul, 1) := by decide +kernel
theorem dX12_speak_51 : decode cX12_speak 51 = .ok (.if_icmp .ge 17, 3) := by decide +kernel
theorem dX12_speak_54 : decode cX12_speak 54 = .ok (.aload_n 0, 1) := by decide +kernel
theorem dX12_speak_55 : decode cX12_speak 55 = .ok (.getfield 102, 3) := by decide +kernel
theorem dX12_speak_58 : decode cX12_speak 58 = .ok (.iload 4, 2) := by decide +kernel
theorem dX12_speak_60 : decode cX12_speak 60 = .ok (.lconst 0, 1) := by decide +kernel
theorem dX12_speak_61 : decode cX12_speak 61 = .ok (.lastore, 1) := by decide +kernel
theorem dX12_speak_62 : decode cX12_speak 62 = .ok (.iinc 4 1, 3) := by decide +kernel
theorem dX12_speak_65 : decode cX12_speak 65 = .ok (.goto (-20), 3) := by decide +kernel
theorem dX12_speak_68 : decode cX12_speak 68 = .ok (.iconst 0, 1) := by decide +kernel
theorem dX12_speak_69 : decode cX12_speak 69 = .ok (.istore 4, 2) := by decide +kernel
theorem dX12_speak_71 : decode cX12_speak 71 = .ok (.iload 4, 2) := by decide +kernel
theorem dX12_speak_73 : decode cX12_speak 73 = .ok (.iconst 3, 1) := by decide +kernel
theorem dX12_speak_74 : decode cX12_speak 74 = .ok (.iload_n 1, 1) := by decide +kernel
theorem dX12_speak_75 : decode cX12_speak 75 = .ok (.imul, 1) := by decide +kernel
theorem dX12_speak_76 : decode cX12_speak 76 = .ok (.if_icmp .ge 17, 3) := by decide +kernel
theorem dX12_speak_79 : decode cX12_speak 79 = .ok (.aload_n 0, 1) := by decide +kernel
theorem dX12_speak_80 : decode cX12_speak 80 = .ok (.getfield 105, 3) := by decide +kernel
theorem dX12_speak_83 : decode cX12_speak 83 = .ok (.iload 4, 2) := by decide +kernel
theorem dX12_speak_85 : decode cX12_speak 85 = .ok (.iconst 0, 1) := by decide +kernel
theorem dX12_speak_86 : decode cX12_speak 86 = .ok (.bastore, 1) := by decide +kernel
theorem dX12_speak_87 : decode cX12_speak 87 = .ok (.iinc 4 1, 3) := by decide +kernel
theorem dX12_speak_90 : decode cX12_speak 90 = .ok (.goto (-19), 3) := by decide +kernel
theorem dX12_speak_93 : decode cX12_speak 93 = .ok (.iconst 0, 1) := by decide +kernel
theorem dX12_speak_94 : decode cX12_speak 94 = .ok (.istore 4, 2) := by decide +kernel
theorem dX12_speak_96 : decode cX12_speak 96 = .ok (.iload 4, 2) := by decide +kernel
theorem dX12_speak_98 : decode cX12_speak 98 = .ok (.aload_n 0, 1) := by decide +kernel
theorem dX12_speak_99 : decode cX12_speak 99 = .ok (.getfield 309, 3) := by decide +kernel
theorem dX12_speak_102 : decode cX12_speak 102 = .ok (.if_icmp .ge 130, 3) := by decide +kernel
theorem dX12_speak_105 : decode cX12_speak 105 = .ok (.iconst 3, 1) := by decide +kernel
theorem dX12_speak_106 : decode cX12_speak 106 = .ok (.aload_n 0, 1) := by decide +kernel
theorem dX12_speak_107 : decode cX12_speak 107 = .ok (.getfield 92, 3) := by decide +kernel
theorem dX12_speak_110 : decode cX12_speak 110 = .ok (.iload 4, 2) := by decide +kernel
theorem dX12_speak_112 : decode cX12_speak 112 = .ok (.iaload, 1) := by decide +kernel
theorem dX12_speak_113 : decode cX12_speak 113 = .ok (.imul, 1) := by decide +kernel
theorem dX12_speak_114 : decode cX12_speak 114 = .ok (.aload_n 0, 1) := by decide +kernel
theorem dX12_speak_115 : decode cX12_speak 115 = .ok (.iload 4, 2) := by decide +kernel
theorem dX12_speak_117 : decode cX12_speak 117 = .ok (.iload_n 3, 1) := by decide +kernel
theorem dX12_speak_118 : decode cX12_speak 118 = .ok (.invokevirtual 312, 3) := by decide +kernel
theorem dX12_speak_121 : decode cX12_speak 121 = .ok (.iadd, 1) := by decide +kernel
theorem dX12_speak_122 : decode cX12_speak 122 = .ok (.istore 5, 2) := by decide +kernel
theorem dX12_speak_124 : decode cX12_speak 124 = .ok (.iconst 0, 1) := by decide +kernel
theorem dX12_speak_125 : decode cX12_speak 125 = .ok (.istore 6, 2) := by decide +kernel
theorem dX12_speak_127 : decode cX12_speak 127 = .ok (.iload 6, 2) := by decide +kernel
theorem dX12_speak_129 : decode cX12_speak 129 = .ok (.aload_n 0, 1) := by decide +kernel
theorem dX12_speak_130 : decode cX12_speak 130 = .ok (.getfield 303, 3) := by decide +kernel
theorem dX12_speak_133 : decode cX12_speak 133 = .ok (.if_icmp .ge 93, 3) := by decide +kernel
theorem dX12_speak_136 : decode cX12_speak 136 = .ok (.aload_n 0, 1) := by decide +kernel
theorem dX12_speak_137 : decode cX12_speak 137 = .ok (.getfield 65, 3) := by decide +kernel
theorem dX12_speak_140 : decode cX12_speak 140 = .ok (.iconst 3, 1) := by decide +kernel
theorem dX12_speak_141 : decode cX12_speak 141 = .ok (.iload 4, 2) := by decide +kernel
theorem dX12_speak_143 : decode cX12_speak 143 = .ok (.imul, 1) := by decide +kernel
theorem dX12_speak_144 : decode cX12_speak 144 = .ok (.iload 6, 2) := by decide +kernel
theorem dX12_speak_146 : decode cX12_speak 146 = .ok (.iadd, 1) := by decide +kernel
theorem dX12_speak_147 : decode cX12_speak 147 = .ok (.laload, 1) := by decide +kernel
theorem dX12_speak_148 : decode cX12_speak 148 = .ok (.lconst 0, 1) := by decide +kernel
theorem dX12_speak_149 : decode cX12_speak 149 = .ok (.lcmp, 1) := by decide +kernel
theorem dX12_speak_150 : decode cX12_speak 150 = .ok (.ifCond .ne 6, 3) := by decide +kernel
theorem dX12_speak_153 : decode cX12_speak 153 = .ok (.goto 67, 3) := by decide +kernel
theorem dX12_speak_156 : decode cX12_speak 156 = .ok (.aload_n 0, 1) := by decide +kernel
theorem dX12_speak_157 : decode cX12_speak 157 = .ok (.getfield 105, 3) := by decide +kernel
theorem dX12_speak_160 : decode cX12_speak 160 = .ok (.iload 5, 2) := by decide +kernel
theorem dX12_speak_162 : decode cX12_speak 162 = .ok (.iconst 1, 1) := by decide +kernel
theorem dX12_speak_163 : decode cX12_speak 163 = .ok (.bastore, 1) := by decide +kernel
theorem dX12_speak_164 : decode cX12_speak 164 = .ok (.iconst 0, 1) := by decide +kernel
theorem dX12_speak_165 : decode cX12_speak 165 = .ok (.istore 7, 2) := by decide +kernel
theorem dX12_speak_167 : decode cX12_speak 167 = .ok (.iload 7, 2) := by decide +kernel
theorem dX12_speak_169 : decode cX12_speak 169 = .ok (.aload_n 0, 1) := by decide +kernel
theorem dX12_speak_170 : decode cX12_speak 170 = .ok (.getfield 303, 3) := by decide +kernel
theorem dX12_speak_173 : decode cX12_speak 173 = .ok (.if_icmp .ge 47, 3) := by decide +kernel
theorem dX12_speak_176 : decode cX12_speak 176 = .ok (.aload_n 0, 1) := by decide +kernel
theorem dX12_speak_177 : decode cX12_speak 177 = .ok (.getfield 102, 3) := by decide +kernel
theorem dX12_speak_180 : decode cX12_speak 180 = .ok (.iconst 3, 1) := by decide +kernel
theorem dX12_speak_181 : decode cX12_speak 181 = .ok (.iload 5, 2) := by decide +kernel
theorem dX12_speak_183 : decode cX12_speak 183 = .ok (.imul, 1) := by decide +kernel
theorem dX12_speak_184 : decode cX12_speak 184 = .ok (.iload 7, 2) := by decide +kernel
theorem dX12_speak_186 : decode cX12_speak 186 = .ok (.iadd, 1) := by decide +kernel
theorem dX12_speak_187 : decode cX12_speak 187 = .ok (.dup2, 1) := by decide +kernel
theorem dX12_speak_188 : decode cX12_speak 188 = .ok (.laload, 1) := by decide +kernel
theorem dX12_speak_189 : decode cX12_speak 189 = .ok (.aload_n 0, 1) := by decide +kernel
theorem dX12_speak_190 : decode cX12_speak 190 = .ok (.getfield 65, 3) := by decide +kernel
theorem dX12_speak_193 : decode cX12_speak 193 = .ok (.iconst 3, 1) := by decide +kernel
theorem dX12_speak_194 : decode cX12_speak 194 = .ok (.iload 4, 2) := by decide +kernel
theorem dX12_speak_196 : decode cX12_speak 196 = .ok (.imul, 1) := by decide +kernel
theorem dX12_speak_197 : decode cX12_speak 197 = .ok (.iload 6, 2) := by decide +kernel
theorem dX12_speak_199 : decode cX12_speak 199 = .ok (.iadd, 1) := by decide +kernel
theorem dX12_speak_200 : decode cX12_speak 200 = .ok (.laload, 1) := by decide +kernel
theorem dX12_speak_201 : decode cX12_speak 201 = .ok (.aload_n 0, 1) := by decide +kernel
theorem dX12_speak_202 : decode cX12_speak 202 = .ok (.iload_n 3, 1) := by decide +kernel
theorem dX12_speak_203 : decode cX12_speak 203 = .ok (.iload 6, 2) := by decide +kernel
theorem dX12_speak_205 : decode cX12_speak 205 = .ok (.iload 7, 2) := by decide +kernel
theorem dX12_speak_207 : decode cX12_speak 207 = .ok (.invokevirtual 334, 3) := by decide +kernel
theorem dX12_speak_210 : decode cX12_speak 210 = .ok (.i2l, 1) := by decide +kernel
theorem dX12_speak_211 : decode cX12_speak 211 = .ok (.lmul, 1) := by decide +kernel
theorem dX12_speak_212 : decode cX12_speak 212 = .ok (.ladd, 1) := by decide +kernel
theorem dX12_speak_213 : decode cX12_speak 213 = .ok (.lastore, 1) := by decide +kernel
theorem dX12_speak_214 : decode cX12_speak 214 = .ok (.iinc 7 1, 3) := by decide +kernel
theorem dX12_speak_217 : decode cX12_speak 217 = .ok (.goto (-50), 3) := by decide +kernel
theorem dX12_speak_220 : decode cX12_speak 220 = .ok (.iinc 6 1, 3) := by decide +kernel
theorem dX12_speak_223 : decode cX12_speak 223 = .ok (.goto (-96), 3) := by decide +kernel
theorem dX12_speak_226 : decode cX12_speak 226 = .ok (.iinc 4 1, 3) := by decide +kernel
theorem dX12_speak_229 : decode cX12_speak 229 = .ok (.goto (-133), 3) := by decide +kernel
theorem dX12_speak_232 : decode cX12_speak 232 = .ok (.iconst 0, 1) := by decide +kernel
theorem dX12_speak_233 : decode cX12_speak 233 = .ok (.istore 4, 2) := by decide +kernel
theorem dX12_speak_235 : decode cX12_speak 235 = .ok (.iload 4, 2) := by decide +kernel
theorem dX12_speak_237 : decode cX12_speak 237 = .ok (.iload_n 1, 1) := by decide +kernel
theorem dX12_speak_238 : decode cX12_speak 238 = .ok (.if_icmp .ge 198, 3) := by decide +kernel
theorem dX12_speak_241 : decode cX12_speak 241 = .ok (.iconst (-1), 1) := by decide +kernel
theorem dX12_speak_242 : decode cX12_speak 242 = .ok (.istore 5, 2) := by decide +kernel
theorem dX12_speak_244 : decode cX12_speak 244 = .ok (.iconst 1, 1) := by decide +kernel
theorem dX12_speak_245 : decode cX12_speak 245 = .ok (.istore 6, 2) := by decide +kernel
theorem dX12_speak_247 : decode cX12_speak 247 = .ok (.iconst 0, 1) := by decide +kernel
theorem dX12_speak_248 : decode cX12_speak 248 = .ok (.istore 7, 2) := by decide +kernel
theorem dX12_speak_250 : decode cX12_speak 250 = .ok (.iload 7, 2) := by decide +kernel
theorem dX12_speak_252 : decode cX12_speak 252 = .ok (.aload_n 0, 1) := by decide +kernel
theorem dX12_speak_253 : decode cX12_speak 253 = .ok (.getfield 29, 3) := by decide +kernel
theorem dX12_speak_256 : decode cX12_speak 256 = .ok (.iload_n 3, 1) := by decide +kernel
theorem dX12_speak_257 : decode cX12_speak 257 = .ok (.iaload, 1) := by decide +kernel
theorem dX12_speak_258 : decode cX12_speak 258 = .ok (.if_icmp .ge 129, 3) := by decide +kernel
theorem dX12_speak_261 : decode cX12_speak 261 = .ok (.iconst 3, 1) := by decide +kernel
theorem dX12_speak_262 : decode cX12_speak 262 = .ok (.iload 4, 2) := by decide +kernel
theorem dX12_speak_264 : decode cX12_speak 264 = .ok (.imul, 1) := by decide +kernel
theorem dX12_speak_265 : decode cX12_speak 265 = .ok (.iload 7, 2) := by decide +kernel
theorem dX12_speak_267 : decode cX12_speak 267 = .ok (.iadd, 1) := by decide +kernel
theorem dX12_speak_268 : decode cX12_speak 268 = .ok (.istore 8, 2) := by decide +kernel
theorem dX12_speak_270 : decode cX12_speak 270 = .ok (.aload_n 0, 1) := by decide +kernel
theorem dX12_speak_271 : decode cX12_speak 271 = .ok (.getfield 105, 3) := by decide +kernel
theorem dX12_speak_274 : decode cX12_speak 274 = .ok (.iload 8, 2) := by decide +kernel
theorem dX12_speak_276 : decode cX12_speak 276 = .ok (.baload, 1) := by decide +kernel
theorem dX12_speak_277 : decode cX12_speak 277 = .ok (.ifCond .eq 53, 3) := by decide +kernel
theorem dX12_speak_280 : decode cX12_speak 280 = .ok (.aload_n 0, 1) := by decide +kernel
theorem dX12_speak_281 : decode cX12_speak 281 = .ok (.aload_n 0, 1) := by decide +kernel
theorem dX12_speak_282 : decode cX12_speak 282 = .ok (.getfield 102, 3) := by decide +kernel
theorem dX12_speak_285 : decode cX12_speak 285 = .ok (.iconst 3, 1) := by decide +kernel
theorem dX12_speak_286 : decode cX12_speak 286 = .ok (.iload 8, 2) := by decide +kernel
theorem dX12_speak_288 : decode cX12_speak 288 = .ok (.imul, 1) := by decide +kernel
theorem dX12_speak_289 : decode cX12_speak 289 = .ok (.laload, 1) := by decide +kernel
theorem dX12_speak_290 : decode cX12_speak 290 = .ok (.aload_n 0, 1) := by decide +kernel
theorem dX12_speak_291 : decode cX12_speak 291 = .ok (.getfield 102, 3) := by decide +kernel
theorem dX12_speak_294 : decode cX12_speak 294 = .ok (.iconst 3, 1) := by decide +kernel
theorem dX12_speak_295 : decode cX12_speak 295 = .ok (.iload 8, 2) := by decide +kernel
theorem dX12_speak_297 : decode cX12_speak 297 = .ok (.imul, 1) := by decide +kernel
theorem dX12_speak_298 : decode cX12_speak 298 = .ok (.iconst 1, 1) := by decide +kernel
theorem dX12_speak_299 : decode cX12_speak 299 = .ok (.iadd, 1) := by decide +kernel
theorem dX12_speak_300 : decode cX12_speak 300 = .ok (.laload, 1) := by decide +kernel
theorem dX12_speak_301 : decode cX12_speak 301 = .ok (.aload_n 0, 1) := by decide +kernel
theorem dX12_speak_302 : decode cX12_speak 302 = .ok (.getfield 303, 3) := by decide +kernel
theorem dX12_speak_305 : decode cX12_speak 305 = .ok (.iconst 3, 1) := by decide +kernel
theorem dX12_speak_306 : decode cX12_speak 306 = .ok (.if_icmp .ne 17, 3) := by decide +kernel
theorem dX12_speak_309 : decode cX12_speak 309 = .ok (.aload_n 0, 1) := by decide +kernel
theorem dX12_speak_310 : decode cX12_speak 310 = .ok (.getfield 102, 3) := by decide +kernel
theorem dX12_speak_313 : decode cX12_speak 313 = .ok (.iconst 3, 1) := by decide +kernel
theorem dX12_speak_314 : decode cX12_speak 314 = .ok (.iload 8, 2) := by decide +kernel
theorem dX12_speak_316 : decode cX12_speak 316 = .ok (.imul, 1) := by decide +kernel
theorem dX12_speak_317 : decode cX12_speak 317 = .ok (.iconst 2, 1) := by decide +kernel
theorem dX12_speak_318 : decode cX12_speak 318 = .ok (.iadd, 1) := by decide +kernel
theorem dX12_speak_319 : decode cX12_speak 319 = .ok (.laload, 1) := by decide +kernel
theorem dX12_speak_320 : decode cX12_speak 320 = .ok (.goto 4, 3) := by decide +kernel
theorem dX12_speak_323 : decode cX12_speak 323 = .ok (.lconst 0, 1) := by decide +kernel
theorem dX12_speak_324 : decode cX12_speak 324 = .ok (.invokevirtual 340, 3) := by decide +kernel
theorem dX12_speak_327 : decode cX12_speak 327 = .ok (.goto 4, 3) := by decide +kernel
theorem dX12_speak_330 : decode cX12_speak 330 = .ok (.iconst 0, 1) := by decide +kernel
theorem dX12_speak_331 : decode cX12_speak 331 = .ok (.istore 9, 2) := by decide +kernel
theorem dX12_speak_333 : decode cX12_speak 333 = .ok (.aload_n 0, 1) := by decide +kernel
theorem dX12_speak_334 : decode cX12_speak 334 = .ok (.getfield 99, 3) := by decide +kernel
theorem dX12_speak_337 : decode cX12_speak 337 = .ok (.sipush 6561, 3) := by decide +kernel
theorem dX12_speak_340 : decode cX12_speak 340 = .ok (.iload_n 2, 1) := by decide +kernel
theorem dX12_speak_341 : decode cX12_speak 341 = .ok (.imul, 1) := by decide +kernel
theorem dX12_speak_342 : decode cX12_speak 342 = .ok (.iload 8, 2) := by decide +kernel
theorem dX12_speak_344 : decode cX12_speak 344 = .ok (.iadd, 1) := by decide +kernel
theorem dX12_speak_345 : decode cX12_speak 345 = .ok (.iload 9, 2) := by decide +kernel
theorem dX12_speak_347 : decode cX12_speak 347 = .ok (.iastore, 1) := by decide +kernel
theorem dX12_speak_348 : decode cX12_speak 348 = .ok (.aload_n 0, 1) := by decide +kernel
theorem dX12_speak_349 : decode cX12_speak 349 = .ok (.getfield 105, 3) := by decide +kernel
theorem dX12_speak_352 : decode cX12_speak 352 = .ok (.iload 8, 2) := by decide +kernel
theorem dX12_speak_354 : decode cX12_speak 354 = .ok (.baload, 1) := by decide +kernel
theorem dX12_speak_355 : decode cX12_speak 355 = .ok (.ifCond .ne 6, 3) := by decide +kernel
theorem dX12_speak_358 : decode cX12_speak 358 = .ok (.goto 23, 3) := by decide +kernel
theorem dX12_speak_361 : decode cX12_speak 361 = .ok (.iload 5, 2) := by decide +kernel
theorem dX12_speak_363 : decode cX12_speak 363 = .ok (.iconst (-1), 1) := by decide +kernel
theorem dX12_speak_364 : decode cX12_speak 364 = .ok (.if_icmp .eq 13, 3) := by decide +kernel
theorem dX12_speak_367 : decode cX12_speak 367 = .ok (.iload 5, 2) := by decide +kernel
theorem dX12_speak_369 : decode cX12_speak 369 = .ok (.iload 9, 2) := by decide +kernel
theorem dX12_speak_371 : decode cX12_speak 371 = .ok (.if_icmp .eq 6, 3) := by decide +kernel
theorem dX12_speak_374 : decode cX12_speak 374 = .ok (.iconst 0, 1) := by decide +kernel
theorem dX12_speak_375 : decode cX12_speak 375 = .ok (.istore 6, 2) := by decide +kernel
theorem dX12_speak_377 : decode cX12_speak 377 = .ok (.iload 9, 2) := by decide +kernel
theorem dX12_speak_379 : decode cX12_speak 379 = .ok (.istore 5, 2) := by decide +kernel
theorem dX12_speak_381 : decode cX12_speak 381 = .ok (.iinc 7 1, 3) := by decide +kernel
theorem dX12_speak_384 : decode cX12_speak 384 = .ok (.goto (-134), 3) := by decide +kernel
theorem dX12_speak_387 : decode cX12_speak 387 = .ok (.iload 6, 2) := by decide +kernel
theorem dX12_speak_389 : decode cX12_speak 389 = .ok (.ifCond .ne 41, 3) := by decide +kernel
theorem dX12_speak_392 : decode cX12_speak 392 = .ok (.iconst 0, 1) := by decide +kernel
theorem dX12_speak_393 : decode cX12_speak 393 = .ok (.istore 7, 2) := by decide +kernel
theorem dX12_speak_395 : decode cX12_speak 395 = .ok (.iload 7, 2) := by decide +kernel
theorem dX12_speak_397 : decode cX12_speak 397 = .ok (.iconst 3, 1) := by decide +kernel
theorem dX12_speak_398 : decode cX12_speak 398 = .ok (.if_icmp .ge 32, 3) := by decide +kernel
theorem dX12_speak_401 : decode cX12_speak 401 = .ok (.aload_n 0, 1) := by decide +kernel
theorem dX12_speak_402 : decode cX12_speak 402 = .ok (.getfield 99, 3) := by decide +kernel
theorem dX12_speak_405 : decode cX12_speak 405 = .ok (.sipush 6561, 3) := by decide +kernel
theorem dX12_speak_408 : decode cX12_speak 408 = .ok (.iload_n 2, 1) := by decide +kernel
theorem dX12_speak_409 : decode cX12_speak 409 = .ok (.imul, 1) := by decide +kernel
theorem dX12_speak_410 : decode cX12_speak 410 = .ok (.iconst 3, 1) := by decide +kernel
theorem dX12_speak_411 : decode cX12_speak 411 = .ok (.iload 4, 2) := by decide +kernel
theorem dX12_speak_413 : decode cX12_speak 413 = .ok (.imul, 1) := by decide +kernel
theorem dX12_speak_414 : decode cX12_speak 414 = .ok (.iadd, 1) := by decide +kernel
theorem dX12_speak_415 : decode cX12_speak 415 = .ok (.iload 7, 2) := by decide +kernel
theorem dX12_speak_417 : decode cX12_speak 417 = .ok (.iadd, 1) := by decide +kernel
theorem dX12_speak_418 : decode cX12_speak 418 = .ok (.dup2, 1) := by decide +kernel
theorem dX12_speak_419 : decode cX12_speak 419 = .ok (.iaload, 1) := by decide +kernel
theorem dX12_speak_420 : decode cX12_speak 420 = .ok (.bipush 8, 2) := by decide +kernel
theorem dX12_speak_422 : decode cX12_speak 422 = .ok (.ior, 1) := by decide +kernel
theorem dX12_speak_423 : decode cX12_speak 423 = .ok (.iastore, 1) := by decide +kernel
theorem dX12_speak_424 : decode cX12_speak 424 = .ok (.iinc 7 1, 3) := by decide +kernel
theorem dX12_speak_427 : decode cX12_speak 427 = .ok (.goto (-32), 3) := by decide +kernel
theorem dX12_speak_430 : decode cX12_speak 430 = .ok (.iinc 4 1, 3) := by decide +kernel
theorem dX12_speak_433 : decode cX12_speak 433 = .ok (.goto (-198), 3) := by decide +kernel
theorem dX12_speak_436 : decode cX12_speak 436 = .ok (.iconst 0, 1) := by decide +kernel
theorem dX12_speak_437 : decode cX12_speak 437 = .ok (.istore 4, 2) := by decide +kernel
theorem dX12_speak_439 : decode cX12_speak 439 = .ok (.iload 4, 2) := by decide +kernel
theorem dX12_speak_441 : decode cX12_speak 441 = .ok (.aload_n 0, 1) := by decide +kernel
theorem dX12_speak_442 : decode cX12_speak 442 = .ok (.getfield 309, 3) := by decide +kernel
theorem dX12_speak_445 : decode cX12_speak 445 = .ok (.if_icmp .ge 57, 3) := by decide +kernel
theorem dX12_speak_448 : decode cX12_speak 448 = .ok (.aload_n 0, 1) := by decide +kernel
theorem dX12_speak_449 : decode cX12_speak 449 = .ok (.getfield 92, 3) := by decide +kernel
theorem dX12_speak_452 : decode cX12_speak 452 = .ok (.iload 4, 2) := by decide +kernel
theorem dX12_speak_454 : decode cX12_speak 454 = .ok (.iconst 3, 1) := by decide +kernel
theorem dX12_speak_455 : decode cX12_speak 455 = .ok (.aload_n 0, 1) := by decide +kernel
theorem dX12_speak_456 : decode cX12_speak 456 = .ok (.getfield 92, 3) := by decide +kernel
theorem dX12_speak_459 : decode cX12_speak 459 = .ok (.iload 4, 2) := by decide +kernel
theorem dX12_speak_461 : decode cX12_speak 461 = .ok (.iaload, 1) := by decide +kernel
theorem dX12_speak_462 : decode cX12_speak 462 = .ok (.imul, 1) := by decide +kernel
theorem dX12_speak_463 : decode cX12_speak 463 = .ok (.aload_n 0, 1) := by decide +kernel
theorem dX12_speak_464 : decode cX12_speak 464 = .ok (.getfield 99, 3) := by decide +kernel
theorem dX12_speak_467 : decode cX12_speak 467 = .ok (.sipush 6561, 3) := by decide +kernel
theorem dX12_speak_470 : decode cX12_speak 470 = .ok (.iload_n 2, 1) := by decide +kernel
theorem dX12_speak_471 : decode cX12_speak 471 = .ok (.imul, 1) := by decide +kernel
theorem dX12_speak_472 : decode cX12_speak 472 = .ok (.iconst 3, 1) := by decide +kernel
theorem dX12_speak_473 : decode cX12_speak 473 = .ok (.aload_n 0, 1) := by decide +kernel
theorem dX12_speak_474 : decode cX12_speak 474 = .ok (.getfield 92, 3) := by decide +kernel
theorem dX12_speak_477 : decode cX12_speak 477 = .ok (.iload 4, 2) := by decide +kernel
theorem dX12_speak_479 : decode cX12_speak 479 = .ok (.iaload, 1) := by decide +kernel
theorem dX12_speak_480 : decode cX12_speak 480 = .ok (.imul, 1) := by decide +kernel
theorem dX12_speak_481 : decode cX12_speak 481 = .ok (.iadd, 1) := by decide +kernel
theorem dX12_speak_482 : decode cX12_speak 482 = .ok (.aload_n 0, 1) := by decide +kernel
theorem dX12_speak_483 : decode cX12_speak 483 = .ok (.iload 4, 2) := by decide +kernel
theorem dX12_speak_485 : decode cX12_speak 485 = .ok (.iload_n 3, 1) := by decide +kernel
theorem dX12_speak_486 : decode cX12_speak 486 = .ok (.invokevirtual 312, 3) := by decide +kernel
theorem dX12_speak_489 : decode cX12_speak 489 = .ok (.iadd, 1) := by decide +kernel
theorem dX12_speak_490 : decode cX12_speak 490 = .ok (.iaload, 1) := by decide +kernel
theorem dX12_speak_491 : decode cX12_speak 491 = .ok (.bipush 7, 2) := by decide +kernel
theorem dX12_speak_493 : decode cX12_speak 493 = .ok (.iand, 1) := by decide +kernel
theorem dX12_speak_494 : decode cX12_speak 494 = .ok (.iadd, 1) := by decide +kernel
theorem dX12_speak_495 : decode cX12_speak 495 = .ok (.iastore, 1) := by decide +kernel
theorem dX12_speak_496 : decode cX12_speak 496 = .ok (.iinc 4 1, 3) := by decide +kernel
theorem dX12_speak_499 : decode cX12_speak 499 = .ok (.goto (-60), 3) := by decide +kernel
theorem dX12_speak_502 : decode cX12_speak 502 = .ok (.iload_n 1, 1) := by decide +kernel
theorem dX12_speak_503 : decode cX12_speak 503 = .ok (.iconst 3, 1) := by decide +kernel
theorem dX12_speak_504 : decode cX12_speak 504 = .ok (.imul, 1) := by decide +kernel
theorem dX12_speak_505 : decode cX12_speak 505 = .ok (.istore_n 1, 1) := by decide +kernel
theorem dX12_speak_506 : decode cX12_speak 506 = .ok (.iinc 2 1, 3) := by decide +kernel
theorem dX12_speak_509 : decode cX12_speak 509 = .ok (.goto (-482), 3) := by decide +kernel
theorem dX12_speak_512 : decode cX12_speak 512 = .ok (.return_, 1) := by decide +kernel
theorem dX12_speakRow_0 : decode cX12_speakRow 0 = .ok (.iconst 0, 1) := by decide +kernel
theorem dX12_speakRow_1 : decode cX12_speakRow 1 = .ok (.istore_n 2, 1) := by decide +kernel
theorem dX12_speakRow_2 : decode cX12_speakRow 2 = .ok (.iconst 0, 1) := by decide +kernel
theorem dX12_speakRow_3 : decode cX12_speakRow 3 = .ok (.istore_n 3, 1) := by decide +kernel
theorem dX12_speakRow_4 : decode cX12_speakRow 4 = .ok (.iconst 0, 1) := by decide +kernel
theorem dX12_speakRow_5 : decode cX12_speakRow 5 = .ok (.istore 4, 2) := by decide +kernel
theorem dX12_speakRow_7 : decode cX12_speakRow 7 = .ok (.iload 4, 2) := by decide +kernel
theorem dX12_speakRow_9 : decode cX12_speakRow 9 = .ok (.aload_n 0, 1) := by decide +kernel
theorem dX12_speakRow_10 : decode cX12_speakRow 10 = .ok (.getfield 399, 3) := by decide +kernel
theorem dX12_speakRow_13 : decode cX12_speakRow 13 = .ok (.if_icmp .ge 61, 3) := by decide +kernel
theorem dX12_speakRow_16 : decode cX12_speakRow 16 = .ok (.aload_n 0, 1) := by decide +kernel
theorem dX12_speakRow_17 : decode cX12_speakRow 17 = .ok (.getfield 95, 3) := by decide +kernel
theorem dX12_speakRow_20 : decode cX12_speakRow 20 = .ok (.iload 4, 2) := by decide +kernel
theorem dX12_speakRow_22 : decode cX12_speakRow 22 = .ok (.aload_n 0, 1) := by decide +kernel
theorem dX12_speakRow_23 : decode cX12_speakRow 23 = .ok (.getfield 99, 3) := by decide +kernel
theorem dX12_speakRow_26 : decode cX12_speakRow 26 = .ok (.sipush 6561, 3) := by decide +kernel
theorem dX12_speakRow_29 : decode cX12_speakRow 29 = .ok (.iload 4, 2) := by decide +kernel
theorem dX12_speakRow_31 : decode cX12_speakRow 31 = .ok (.imul, 1) := by decide +kernel
theorem dX12_speakRow_32 : decode cX12_speakRow 32 = .ok (.iconst 3, 1) := by decide +kernel
theorem dX12_speakRow_33 : decode cX12_speakRow 33 = .ok (.iload_n 2, 1) := by decide +kernel
theorem dX12_speakRow_34 : decode cX12_speakRow 34 = .ok (.imul, 1) := by decide +kernel
theorem dX12_speakRow_35 : decode cX12_speakRow 35 = .ok (.iadd, 1) := by decide +kernel
theorem dX12_speakRow_36 : decode cX12_speakRow 36 = .ok (.aload_n 0, 1) := by decide +kernel
theorem dX12_speakRow_37 : decode cX12_speakRow 37 = .ok (.iload_n 1, 1) := by decide +kernel
theorem dX12_speakRow_38 : decode cX12_speakRow 38 = .ok (.aload_n 0, 1) := by decide +kernel
theorem dX12_speakRow_39 : decode cX12_speakRow 39 = .ok (.getfield 89, 3) := by decide +kernel
theorem dX12_speakRow_42 : decode cX12_speakRow 42 = .ok (.iload 4, 2) := by decide +kernel
theorem dX12_speakRow_44 : decode cX12_speakRow 44 = .ok (.iaload, 1) := by decide +kernel
theorem dX12_speakRow_45 : decode cX12_speakRow 45 = .ok (.invokevirtual 312, 3) := by decide +kernel
theorem dX12_speakRow_48 : decode cX12_speakRow 48 = .ok (.iadd, 1) := by decide +kernel
theorem dX12_speakRow_49 : decode cX12_speakRow 49 = .ok (.iaload, 1) := by decide +kernel
theorem dX12_speakRow_50 : decode cX12_speakRow 50 = .ok (.iastore, 1) := by decide +kernel
theorem dX12_speakRow_51 : decode cX12_speakRow 51 = .ok (.aload_n 0, 1) := by decide +kernel
theorem dX12_speakRow_52 : decode cX12_speakRow 52 = .ok (.getfield 95, 3) := by decide +kernel
theorem dX12_speakRow_55 : decode cX12_speakRow 55 = .ok (.iload 4, 2) := by decide +kernel
theorem dX12_speakRow_57 : decode cX12_speakRow 57 = .ok (.iaload, 1) := by decide +kernel
theorem dX12_speakRow_58 : decode cX12_speakRow 58 = .ok (.bipush 7, 2) := by decide +kernel
theorem dX12_speakRow_60 : decode cX12_speakRow 60 = .ok (.iand, 1) := by decide +kernel
theorem dX12_speakRow_61 : decode cX12_speakRow 61 = .ok (.istore_n 3, 1) := by decide +kernel
theorem dX12_speakRow_62 : decode cX12_speakRow 62 = .ok (.iconst 3, 1) := by decide +kernel
theorem dX12_speakRow_63 : decode cX12_speakRow 63 = .ok (.iload_n 2, 1) := by decide +kernel
theorem dX12_speakRow_64 : decode cX12_speakRow 64 = .ok (.imul, 1) := by decide +kernel
theorem dX12_speakRow_65 : decode cX12_speakRow 65 = .ok (.iload_n 3, 1) := by decide +kernel
theorem dX12_speakRow_66 : decode cX12_speakRow 66 = .ok (.iadd, 1) := by decide +kernel
theorem dX12_speakRow_67 : decode cX12_speakRow 67 = .ok (.istore_n 2, 1) := by decide +kernel
theorem dX12_speakRow_68 : decode cX12_speakRow 68 = .ok (.iinc 4 1, 3) := by decide +kernel
theorem dX12_speakRow_71 : decode cX12_speakRow 71 = .ok (.goto (-64), 3) := by decide +kernel
theorem dX12_speakRow_74 : decode cX12_speakRow 74 = .ok (.iload_n 3, 1) := by decide +kernel
theorem dX12_speakRow_75 : decode cX12_speakRow 75 = .ok (.ireturn, 1) := by decide +kernel
theorem dX12_speakTold_0 : decode cX12_speakTold 0 = .ok (.aload_n 0, 1) := by decide +kernel
theorem dX12_speakTold_1 : decode cX12_speakTold 1 = .ok (.invokevirtual 288, 3) := by decide +kernel
theorem dX12_speakTold_4 : decode cX12_speakTold 4 = .ok (.istore_n 1, 1) := by decide +kernel
theorem dX12_speakTold_5 : decode cX12_speakTold 5 = .ok (.aload_n 0, 1) := by decide +kernel
theorem dX12_speakTold_6 : decode cX12_speakTold 6 = .ok (.getfield 405, 3) := by decide +kernel
theorem dX12_speakTold_9 : decode cX12_speakTold 9 = .ok (.ifCond .eq 11, 3) := by decide +kernel
theorem dX12_speakTold_12 : decode cX12_speakTold 12 = .ok (.iload_n 1, 1) := by decide +kernel
theorem dX12_speakTold_13 : decode cX12_speakTold 13 = .ok (.aload_n 0, 1) := by decide +kernel
theorem dX12_speakTold_14 : decode cX12_speakTold 14 = .ok (.getfield 405, 3) := by decide +kernel
theorem dX12_speakTold_17 : decode cX12_speakTold 17 = .ok (.if_icmp .eq 5, 3) := by decide +kernel
theorem dX12_speakTold_20 : decode cX12_speakTold 20 = .ok (.iconst 0, 1) := by decide +kernel
theorem dX12_speakTold_21 : decode cX12_speakTold 21 = .ok (.ireturn, 1) := by decide +kernel
theorem dX12_speakTold_22 : decode cX12_speakTold 22 = .ok (.iconst 0, 1) := by decide +kernel
theorem dX12_speakTold_23 : decode cX12_speakTold 23 = .ok (.istore_n 2, 1) := by decide +kernel
theorem dX12_speakTold_24 : decode cX12_speakTold 24 = .ok (.iload_n 2, 1) := by decide +kernel
theorem dX12_speakTold_25 : decode cX12_speakTold 25 = .ok (.iload_n 1, 1) := by decide +kernel
theorem dX12_speakTold_26 : decode cX12_speakTold 26 = .ok (.if_icmp .ge 26, 3) := by decide +kernel
theorem dX12_speakTold_29 : decode cX12_speakTold 29 = .ok (.aload_n 0, 1) := by decide +kernel
theorem dX12_speakTold_30 : decode cX12_speakTold 30 = .ok (.getfield 7, 3) := by decide +kernel
theorem dX12_speakTold_33 : decode cX12_speakTold 33 = .ok (.iload_n 2, 1) := by decide +kernel
theorem dX12_speakTold_34 : decode cX12_speakTold 34 = .ok (.iaload, 1) := by decide +kernel
theorem dX12_speakTold_35 : decode cX12_speakTold 35 = .ok (.aload_n 0, 1) := by decide +kernel
theorem dX12_speakTold_36 : decode cX12_speakTold 36 = .ok (.getfield 115, 3) := by decide +kernel
theorem dX12_speakTold_39 : decode cX12_speakTold 39 = .ok (.iload_n 2, 1) := by decide +kernel
theorem dX12_speakTold_40 : decode cX12_speakTold 40 = .ok (.iaload, 1) := by decide +kernel
theorem dX12_speakTold_41 : decode cX12_speakTold 41 = .ok (.if_icmp .lt 5, 3) := by decide +kernel
theorem dX12_speakTold_44 : decode cX12_speakTold 44 = .ok (.iconst 0, 1) := by decide +kernel
theorem dX12_speakTold_45 : decode cX12_speakTold 45 = .ok (.ireturn, 1) := by decide +kernel
theorem dX12_speakTold_46 : decode cX12_speakTold 46 = .ok (.iinc 2 1, 3) := by decide +kernel
theorem dX12_speakTold_49 : decode cX12_speakTold 49 = .ok (.goto (-25), 3) := by decide +kernel
theorem dX12_speakTold_52 : decode cX12_speakTold 52 = .ok (.iconst 0, 1) := by decide +kernel
theorem dX12_speakTold_53 : decode cX12_speakTold 53 = .ok (.istore_n 2, 1) := by decide +kernel
theorem dX12_speakTold_54 : decode cX12_speakTold 54 = .ok (.iconst 0, 1) := by decide +kernel
theorem dX12_speakTold_55 : decode cX12_speakTold 55 = .ok (.istore_n 3, 1) := by decide +kernel
theorem dX12_speakTold_56 : decode cX12_speakTold 56 = .ok (.iload_n 3, 1) := by decide +kernel
theorem dX12_speakTold_57 : decode cX12_speakTold 57 = .ok (.iload_n 1, 1) := by decide +kernel
theorem dX12_speakTold_58 : decode cX12_speakTold 58 = .ok (.if_icmp .ge 55, 3) := by decide +kernel
theorem dX12_speakTold_61 : decode cX12_speakTold 61 = .ok (.aload_n 0, 1) := by decide +kernel
theorem dX12_speakTold_62 : decode cX12_speakTold 62 = .ok (.getfield 95, 3) := by decide +kernel
theorem dX12_speakTold_65 : decode cX12_speakTold 65 = .ok (.iload_n 3, 1) := by decide +kernel
theorem dX12_speakTold_66 : decode cX12_speakTold 66 = .ok (.aload_n 0, 1) := by decide +kernel
theorem dX12_speakTold_67 : decode cX12_speakTold 67 = .ok (.getfield 112, 3) := by decide +kernel
theorem dX12_speakTold_70 : decode cX12_speakTold 70 = .ok (.sipush 6561, 3) := by decide +kernel
theorem dX12_speakTold_73 : decode cX12_speakTold 73 = .ok (.iload_n 3, 1) := by decide +kernel
theorem dX12_speakTold_74 : decode cX12_speakTold 74 = .ok (.imul, 1) := by decide +kernel
theorem dX12_speakTold_75 : decode cX12_speakTold 75 = .ok (.iconst 3, 1) := by decide +kernel
theorem dX12_speakTold_76 : decode cX12_speakTold 76 = .ok (.iload_n 2, 1) := by decide +kernel
theorem dX12_speakTold_77 : decode cX12_speakTold 77 = .ok (.imul, 1) := by decide +kernel
theorem dX12_speakTold_78 : decode cX12_speakTold 78 = .ok (.iadd, 1) := by decide +kernel
theorem dX12_speakTold_79 : decode cX12_speakTold 79 = .ok (.aload_n 0, 1) := by decide +kernel
theorem dX12_speakTold_80 : decode cX12_speakTold 80 = .ok (.getfield 7, 3) := by decide +kernel
theorem dX12_speakTold_83 : decode cX12_speakTold 83 = .ok (.aload_n 0, 1) := by decide +kernel
theorem dX12_speakTold_84 : decode cX12_speakTold 84 = .ok (.getfield 109, 3) := by decide +kernel
theorem dX12_speakTold_87 : decode cX12_speakTold 87 = .ok (.iload_n 3, 1) := by decide +kernel
theorem dX12_speakTold_88 : decode cX12_speakTold 88 = .ok (.iaload, 1) := by decide +kernel
theorem dX12_speakTold_89 : decode cX12_speakTold 89 = .ok (.iaload, 1) := by decide +kernel
theorem dX12_speakTold_90 : decode cX12_speakTold 90 = .ok (.iadd, 1) := by decide +kernel
theorem dX12_speakTold_91 : decode cX12_speakTold 91 = .ok (.iaload, 1) := by decide +kernel
theorem dX12_speakTold_92 : decode cX12_speakTold 92 = .ok (.iastore, 1) := by decide +kernel
theorem dX12_speakTold_93 : decode cX12_speakTold 93 = .ok (.iconst 3, 1) := by decide +kernel
theorem dX12_speakTold_94 : decode cX12_speakTold 94 = .ok (.iload_n 2, 1) := by decide +kernel
theorem dX12_speakTold_95 : decode cX12_speakTold 95 = .ok (.imul, 1) := by decide +kernel
theorem dX12_speakTold_96 : decode cX12_speakTold 96 = .ok (.aload_n 0, 1) := by decide +kernel
theorem dX12_speakTold_97 : decode cX12_speakTold 97 = .ok (.getfield 95, 3) := by decide +kernel
theorem dX12_speakTold_100 : decode cX12_speakTold 100 = .ok (.iload_n 3, 1) := by decide +kernel
theorem dX12_speakTold_101 : decode cX12_speakTold 101 = .ok (.iaload, 1) := by decide +kernel
theorem dX12_speakTold_102 : decode cX12_speakTold 102 = .ok (.bipush 7, 2) := by decide +kernel
theorem dX12_speakTold_104 : decode cX12_speakTold 104 = .ok (.iand, 1) := by decide +kernel
theorem dX12_speakTold_105 : decode cX12_speakTold 105 = .ok (.iadd, 1) := by decide +kernel
theorem dX12_speakTold_106 : decode cX12_speakTold 106 = .ok (.istore_n 2, 1) := by decide +kernel
theorem dX12_speakTold_107 : decode cX12_speakTold 107 = .ok (.iinc 3 1, 3) := by decide +kernel
theorem dX12_speakTold_110 : decode cX12_speakTold 110 = .ok (.goto (-54), 3) := by decide +kernel
theorem dX12_speakTold_113 : decode cX12_speakTold 113 = .ok (.iconst 1, 1) := by decide +kernel
theorem dX12_speakTold_114 : decode cX12_speakTold 114 = .ok (.ireturn, 1) := by decide +kernel
theorem dX12_spelt_0 : decode cX12_spelt 0 = .ok (.ldc2_w 189, 3) := by decide +kernel
theorem dX12_spelt_3 : decode cX12_spelt 3 = .ok (.ldc2_w 189, 3) := by decide +kernel
theorem dX12_spelt_6 : decode cX12_spelt 6 = .ok (.iload_n 0, 1) := by decide +kernel
theorem dX12_spelt_7 : decode cX12_spelt 7 = .ok (.i2l, 1) := by decide +kernel
theorem dX12_spelt_8 : decode cX12_spelt 8 = .ok (.ldc2_w 191, 3) := by decide +kernel
theorem dX12_spelt_11 : decode cX12_spelt 11 = .ok (.lsub, 1) := by decide +kernel
theorem dX12_spelt_12 : decode cX12_spelt 12 = .ok (.lmul, 1) := by decide +kernel
theorem dX12_spelt_13 : decode cX12_spelt 13 = .ok (.iload_n 1, 1) := by decide +kernel
theorem dX12_spelt_14 : decode cX12_spelt 14 = .ok (.i2l, 1) := by decide +kernel
theorem dX12_spelt_15 : decode cX12_spelt 15 = .ok (.ladd, 1) := by decide +kernel
theorem dX12_spelt_16 : decode cX12_spelt 16 = .ok (.ldc2_w 191, 3) := by decide +kernel
theorem dX12_spelt_19 : decode cX12_spelt 19 = .ok (.lsub, 1) := by decide +kernel
theorem dX12_spelt_20 : decode cX12_spelt 20 = .ok (.lmul, 1) := by decide +kernel
theorem dX12_spelt_21 : decode cX12_spelt 21 = .ok (.iload_n 2, 1) := by decide +kernel
theorem dX12_spelt_22 : decode cX12_spelt 22 = .ok (.i2l, 1) := by decide +kernel
theorem dX12_spelt_23 : decode cX12_spelt 23 = .ok (.ladd, 1) := by decide +kernel
theorem dX12_spelt_24 : decode cX12_spelt 24 = .ok (.ldc2_w 191, 3) := by decide +kernel
theorem dX12_spelt_27 : decode cX12_spelt 27 = .ok (.lsub, 1) := by decide +kernel
theorem dX12_spelt_28 : decode cX12_spelt 28 = .ok (.lstore 5, 2) := by decide +kernel
theorem dX12_spelt_30 : decode cX12_spelt 30 = .ok (.iload_n 3, 1) := by decide +kernel
theorem dX12_spelt_31 : decode cX12_spelt 31 = .ok (.ifCond .le 18, 3) := by decide +kernel
theorem dX12_spelt_34 : decode cX12_spelt 34 = .ok (.ldc2_w 189, 3) := by decide +kernel
theorem dX12_spelt_37 : decode cX12_spelt 37 = .ok (.lload 5, 2) := by decide +kernel
theorem dX12_spelt_39 : decode cX12_spelt 39 = .ok (.lmul, 1) := by decide +kernel
theorem dX12_spelt_40 : decode cX12_spelt 40 = .ok (.iload_n 3, 1) := by decide +kernel
theorem dX12_spelt_41 : decode cX12_spelt 41 = .ok (.i2l, 1) := by decide +kernel
theorem dX12_spelt_42 : decode cX12_spelt 42 = .ok (.ladd, 1) := by decide +kernel
theorem dX12_spelt_43 : decode cX12_spelt 43 = .ok (.ldc2_w 191, 3) := by decide +kernel
theorem dX12_spelt_46 : decode cX12_spelt 46 = .ok (.lsub, 1) := by decide +kernel
theorem dX12_spelt_47 : decode cX12_spelt 47 = .ok (.lstore 5, 2) := by decide +kernel
theorem dX12_spelt_49 : decode cX12_spelt 49 = .ok (.iload 4, 2) := by decide +kernel
theorem dX12_spelt_51 : decode cX12_spelt 51 = .ok (.ifCond .le 20, 3) := by decide +kernel
theorem dX12_spelt_54 : decode cX12_spelt 54 = .ok (.ldc2_w 189, 3) := by decide +kernel
theorem dX12_spelt_57 : decode cX12_spelt 57 = .ok (.lload 5, 2) := by decide +kernel
theorem dX12_spelt_59 : decode cX12_spelt 59 = .ok (.lmul, 1) := by decide +kernel
theorem dX12_spelt_60 : decode cX12_spelt 60 = .ok (.iload 4, 2) := by decide +kernel
theorem dX12_spelt_62 : decode cX12_spelt 62 = .ok (.i2l, 1) := by decide +kernel
theorem dX12_spelt_63 : decode cX12_spelt 63 = .ok (.ladd, 1) := by decide +kernel
theorem dX12_spelt_64 : decode cX12_spelt 64 = .ok (.ldc2_w 191, 3) := by decide +kernel
theorem dX12_spelt_67 : decode cX12_spelt 67 = .ok (.lsub, 1) := by decide +kernel
theorem dX12_spelt_68 : decode cX12_spelt 68 = .ok (.goto 5, 3) := by decide +kernel
theorem dX12_spelt_71 : decode cX12_spelt 71 = .ok (.lload 5, 2) := by decide +kernel
theorem dX12_spelt_73 : decode cX12_spelt 73 = .ok (.lreturn, 1) := by decide +kernel
theorem dX12_take_0 : decode cX12_take 0 = .ok (.aload_n 0, 1) := by decide +kernel
theorem dX12_take_1 : decode cX12_take 1 = .ok (.getfield 153, 3) := by decide +kernel
theorem dX12_take_4 : decode cX12_take 4 = .ok (.istore_n 1, 1) := by decide +kernel
theorem dX12_take_5 : decode cX12_take 5 = .ok (.aload_n 0, 1) := by decide +kernel
theorem dX12_take_6 : decode cX12_take 6 = .ok (.iconst 0, 1) := by decide +kernel
theorem dX12_take_7 : decode cX12_take 7 = .ok (.putfield 153, 3) := by decide +kernel
theorem dX12_take_10 : decode cX12_take 10 = .ok (.iload_n 1, 1) := by decide +kernel
theorem dX12_take_11 : decode cX12_take 11 = .ok (.ireturn, 1) := by decide +kernel
theorem dX12_think_0 : decode cX12_think 0 = .ok (.aload_n 0, 1) := by decide +kernel
theorem dX12_think_1 : decode cX12_think 1 = .ok (.iload_n 1, 1) := by decide +kernel
theorem dX12_think_2 : decode cX12_think 2 = .ok (.iload_n 2, 1) := by decide +kernel
theorem dX12_think_3 : decode cX12_think 3 = .ok (.invokevirtual 349, 3) := by decide +kernel
theorem dX12_think_6 : decode cX12_think 6 = .ok (.ifCond .eq 11, 3) := by decide +kernel
theorem dX12_think_9 : decode cX12_think 9 = .ok (.aload_n 0, 1) := by decide +kernel
theorem dX12_think_10 : decode cX12_think 10 = .ok (.iload_n 3, 1) := by decide +kernel
theorem dX12_think_11 : decode cX12_think 11 = .ok (.invokevirtual 322, 3) := by decide +kernel
theorem dX12_think_14 : decode cX12_think 14 = .ok (.ifCond .ne 8, 3) := by decide +kernel
theorem dX12_think_17 : decode cX12_think 17 = .ok (.aload_n 0, 1) := by decide +kernel
theorem dX12_think_18 : decode cX12_think 18 = .ok (.invokevirtual 325, 3) := by decide +kernel
theorem dX12_think_21 : decode cX12_think 21 = .ok (.lreturn, 1) := by decide +kernel
theorem dX12_think_22 : decode cX12_think 22 = .ok (.aload_n 0, 1) := by decide +kernel
theorem dX12_think_23 : decode cX12_think 23 = .ok (.iconst 0, 1) := by decide +kernel
theorem dX12_think_24 : decode cX12_think 24 = .ok (.putfield 149, 3) := by decide +kernel
theorem dX12_think_27 : decode cX12_think 27 = .ok (.aload_n 0, 1) := by decide +kernel
theorem dX12_think_28 : decode cX12_think 28 = .ok (.iload_n 1, 1) := by decide +kernel
theorem dX12_think_29 : decode cX12_think 29 = .ok (.iload_n 2, 1) := by decide +kernel
theorem dX12_think_30 : decode cX12_think 30 = .ok (.iload_n 3, 1) := by decide +kernel
theorem dX12_think_31 : decode cX12_think 31 = .ok (.invokevirtual 378, 3) := by decide +kernel
theorem dX12_think_34 : decode cX12_think 34 = .ok (.lreturn, 1) := by decide +kernel
theorem dX12_thrown_0 : decode cX12_thrown 0 = .ok (.aload_n 0, 1) := by decide +kernel
theorem dX12_thrown_1 : decode cX12_thrown 1 = .ok (.getfield 149, 3) := by decide +kernel
theorem dX12_thrown_4 : decode cX12_thrown 4 = .ok (.ireturn, 1) := by decide +kernel
theorem dX12_told_0 : decode cX12_told 0 = .ok (.aload_n 0, 1) := by decide +kernel
theorem dX12_told_1 : decode cX12_told 1 = .ok (.getfield 38, 3) := by decide +kernel
theorem dX12_told_4 : decode cX12_told 4 = .ok (.iload_n 1, 1) := by decide +kernel
theorem dX12_told_5 : decode cX12_told 5 = .ok (.iaload, 1) := by decide +kernel
theorem dX12_told_6 : decode cX12_told 6 = .ok (.iconst 3, 1) := by decide +kernel
theorem dX12_told_7 : decode cX12_told 7 = .ok (.if_icmp .ne 14, 3) := by decide +kernel
theorem dX12_told_10 : decode cX12_told 10 = .ok (.aload_n 0, 1) := by decide +kernel
theorem dX12_told_11 : decode cX12_told 11 = .ok (.getfield 44, 3) := by decide +kernel
theorem dX12_told_14 : decode cX12_told 14 = .ok (.iconst 3, 1) := by decide +kernel
theorem dX12_told_15 : decode cX12_told 15 = .ok (.iload_n 1, 1) := by decide +kernel
theorem dX12_told_16 : decode cX12_told 16 = .ok (.imul, 1) := by decide +kernel
theorem dX12_told_17 : decode cX12_told 17 = .ok (.iload_n 2, 1) := by decide +kernel
theorem dX12_told_18 : decode cX12_told 18 = .ok (.iadd, 1) := by decide +kernel
theorem dX12_told_19 : decode cX12_told 19 = .ok (.iaload, 1) := by decide +kernel
theorem dX12_told_20 : decode cX12_told 20 = .ok (.ireturn, 1) := by decide +kernel
theorem dX12_told_21 : decode cX12_told 21 = .ok (.aload_n 0, 1) := by decide +kernel
theorem dX12_told_22 : decode cX12_told 22 = .ok (.getfield 38, 3) := by decide +kernel
theorem dX12_told_25 : decode cX12_told 25 = .ok (.iload_n 1, 1) := by decide +kernel
theorem dX12_told_26 : decode cX12_told 26 = .ok (.iaload, 1) := by decide +kernel
theorem dX12_told_27 : decode cX12_told 27 = .ok (.iconst 1, 1) := by decide +kernel
theorem dX12_told_28 : decode cX12_told 28 = .ok (.if_icmp .ne 62, 3) := by decide +kernel
theorem dX12_told_31 : decode cX12_told 31 = .ok (.iconst 0, 1) := by decide +kernel
theorem dX12_told_32 : decode cX12_told 32 = .ok (.istore_n 3, 1) := by decide +kernel
theorem dX12_told_33 : decode cX12_told 33 = .ok (.iconst 1, 1) := by decide +kernel
theorem dX12_told_34 : decode cX12_told 34 = .ok (.istore 4, 2) := by decide +kernel
theorem dX12_told_36 : decode cX12_told 36 = .ok (.iload 4, 2) := by decide +kernel
theorem dX12_told_38 : decode cX12_told 38 = .ok (.aload_n 0, 1) := by decide +kernel
theorem dX12_told_39 : decode cX12_told 39 = .ok (.getfield 303, 3) := by decide +kernel
theorem dX12_told_42 : decode cX12_told 42 = .ok (.if_icmp .ge 46, 3) := by decide +kernel
theorem dX12_told_45 : decode cX12_told 45 = .ok (.aload_n 0, 1) := by decide +kernel
theorem dX12_told_46 : decode cX12_told 46 = .ok (.getfield 32, 3) := by decide +kernel
theorem dX12_told_49 : decode cX12_told 49 = .ok (.bipush 9, 2) := by decide +kernel
theorem dX12_told_51 : decode cX12_told 51 = .ok (.iload_n 1, 1) := by decide +kernel
theorem dX12_told_52 : decode cX12_told 52 = .ok (.imul, 1) := by decide +kernel
theorem dX12_told_53 : decode cX12_told 53 = .ok (.iconst 3, 1) := by decide +kernel
theorem dX12_told_54 : decode cX12_told 54 = .ok (.iload_n 2, 1) := by decide +kernel
theorem dX12_told_55 : decode cX12_told 55 = .ok (.imul, 1) := by decide +kernel
theorem dX12_told_56 : decode cX12_told 56 = .ok (.iadd, 1) := by decide +kernel
theorem dX12_told_57 : decode cX12_told 57 = .ok (.iload 4, 2) := by decide +kernel
theorem dX12_told_59 : decode cX12_told 59 = .ok (.iadd, 1) := by decide +kernel
theorem dX12_told_60 : decode cX12_told 60 = .ok (.iaload, 1) := by decide +kernel
theorem dX12_told_61 : decode cX12_told 61 = .ok (.aload_n 0, 1) := by decide +kernel
theorem dX12_told_62 : decode cX12_told 62 = .ok (.getfield 32, 3) := by decide +kernel
theorem dX12_told_65 : decode cX12_told 65 = .ok (.bipush 9, 2) := by decide +kernel
theorem dX12_told_67 : decode cX12_told 67 = .ok (.iload_n 1, 1) := by decide +kernel
theorem dX12_told_68 : decode cX12_told 68 = .ok (.imul, 1) := by decide +kernel
theorem dX12_told_69 : decode cX12_told 69 = .ok (.iconst 3, 1) := by decide +kernel
theorem dX12_told_70 : decode cX12_told 70 = .ok (.iload_n 2, 1) := by decide +kernel
theorem dX12_told_71 : decode cX12_told 71 = .ok (.imul, 1) := by decide +kernel
theorem dX12_told_72 : decode cX12_told 72 = .ok (.iadd, 1) := by decide +kernel
theorem dX12_told_73 : decode cX12_told 73 = .ok (.iload_n 3, 1) := by decide +kernel
theorem dX12_told_74 : decode cX12_told 74 = .ok (.iadd, 1) := by decide +kernel
theorem dX12_told_75 : decode cX12_told 75 = .ok (.iaload, 1) := by decide +kernel
theorem dX12_told_76 : decode cX12_told 76 = .ok (.if_icmp .le 6, 3) := by decide +kernel
theorem dX12_told_79 : decode cX12_told 79 = .ok (.iload 4, 2) := by decide +kernel
theorem dX12_told_81 : decode cX12_told 81 = .ok (.istore_n 3, 1) := by decide +kernel
theorem dX12_told_82 : decode cX12_told 82 = .ok (.iinc 4 1, 3) := by decide +kernel
theorem dX12_told_85 : decode cX12_told 85 = .ok (.goto (-49), 3) := by decide +kernel
theorem dX12_told_88 : decode cX12_told 88 = .ok (.iload_n 3, 1) := by decide +kernel
theorem dX12_told_89 : decode cX12_told 89 = .ok (.ireturn, 1) := by decide +kernel
theorem dX12_told_90 : decode cX12_told 90 = .ok (.aload_n 0, 1) := by decide +kernel
theorem dX12_told_91 : decode cX12_told 91 = .ok (.iload_n 1, 1) := by decide +kernel
theorem dX12_told_92 : decode cX12_told 92 = .ok (.iload_n 2, 1) := by decide +kernel
theorem dX12_told_93 : decode cX12_told 93 = .ok (.invokevirtual 344, 3) := by decide +kernel
theorem dX12_told_96 : decode cX12_told 96 = .ok (.istore_n 3, 1) := by decide +kernel
theorem dX12_told_97 : decode cX12_told 97 = .ok (.aload_n 0, 1) := by decide +kernel
theorem dX12_told_98 : decode cX12_told 98 = .ok (.getfield 38, 3) := by decide +kernel
theorem dX12_told_101 : decode cX12_told 101 = .ok (.iload_n 1, 1) := by decide +kernel
theorem dX12_told_102 : decode cX12_told 102 = .ok (.iaload, 1) := by decide +kernel
theorem dX12_told_103 : decode cX12_told 103 = .ok (.ifCond .ne 5, 3) := by decide +kernel
theorem dX12_told_106 : decode cX12_told 106 = .ok (.iload_n 3, 1) := by decide +kernel
theorem dX12_told_107 : decode cX12_told 107 = .ok (.ireturn, 1) := by decide +kernel
theorem dX12_told_108 : decode cX12_told 108 = .ok (.lconst 0, 1) := by decide +kernel
theorem dX12_told_109 : decode cX12_told 109 = .ok (.lstore 4, 2) := by decide +kernel
theorem dX12_told_111 : decode cX12_told 111 = .ok (.iconst 0, 1) := by decide +kernel
theorem dX12_told_112 : decode cX12_told 112 = .ok (.istore 6, 2) := by decide +kernel
theorem dX12_told_114 : decode cX12_told 114 = .ok (.iload 6, 2) := by decide +kernel
theorem dX12_told_116 : decode cX12_told 116 = .ok (.aload_n 0, 1) := by decide +kernel
theorem dX12_told_117 : decode cX12_told 117 = .ok (.getfield 303, 3) := by decide +kernel
theorem dX12_told_120 : decode cX12_told 120 = .ok (.if_icmp .ge 22, 3) := by decide +kernel
theorem dX12_told_123 : decode cX12_told 123 = .ok (.lload 4, 2) := by decide +kernel
theorem dX12_told_125 : decode cX12_told 125 = .ok (.aload_n 0, 1) := by decide +kernel
theorem dX12_told_126 : decode cX12_told 126 = .ok (.iload_n 1, 1) := by decide +kernel
theorem dX12_told_127 : decode cX12_told 127 = .ok (.iload_n 2, 1) := by decide +kernel
theorem dX12_told_128 : decode cX12_told 128 = .ok (.iload 6, 2) := by decide +kernel
theorem dX12_told_130 : decode cX12_told 130 = .ok (.invokevirtual 330, 3) := by decide +kernel
theorem dX12_told_133 : decode cX12_told 133 = .ok (.ladd, 1) := by decide +kernel
theorem dX12_told_134 : decode cX12_told 134 = .ok (.lstore 4, 2) := by decide +kernel
theorem dX12_told_136 : decode cX12_told 136 = .ok (.iinc 6 1, 3) := by decide +kernel
theorem dX12_told_139 : decode cX12_told 139 = .ok (.goto (-25), 3) := by decide +kernel
theorem dX12_told_142 : decode cX12_told 142 = .ok (.ldc2_w 328, 3) := by decide +kernel
theorem dX12_told_145 : decode cX12_told 145 = .ok (.aload_n 0, 1) := by decide +kernel
theorem dX12_told_146 : decode cX12_told 146 = .ok (.iload_n 1, 1) := by decide +kernel
theorem dX12_told_147 : decode cX12_told 147 = .ok (.iload_n 2, 1) := by decide +kernel
theorem dX12_told_148 : decode cX12_told 148 = .ok (.iload_n 3, 1) := by decide +kernel
theorem dX12_told_149 : decode cX12_told 149 = .ok (.invokevirtual 330, 3) := by decide +kernel
theorem dX12_told_152 : decode cX12_told 152 = .ok (.lmul, 1) := by decide +kernel
theorem dX12_told_153 : decode cX12_told 153 = .ok (.aload_n 0, 1) := by decide +kernel
theorem dX12_told_154 : decode cX12_told 154 = .ok (.getfield 41, 3) := by decide +kernel
theorem dX12_told_157 : decode cX12_told 157 = .ok (.iload_n 1, 1) := by decide +kernel
theorem dX12_told_158 : decode cX12_told 158 = .ok (.iaload, 1) := by decide +kernel
theorem dX12_told_159 : decode cX12_told 159 = .ok (.i2l, 1) := by decide +kernel
theorem dX12_told_160 : decode cX12_told 160 = .ok (.lload 4, 2) := by decide +kernel
theorem dX12_told_162 : decode cX12_told 162 = .ok (.lmul, 1) := by decide +kernel
theorem dX12_told_163 : decode cX12_told 163 = .ok (.lcmp, 1) := by decide +kernel
theorem dX12_told_164 : decode cX12_told 164 = .ok (.ifCond .lt 7, 3) := by decide +kernel
theorem dX12_told_167 : decode cX12_told 167 = .ok (.iload_n 3, 1) := by decide +kernel
theorem dX12_told_168 : decode cX12_told 168 = .ok (.goto 5, 3) := by decide +kernel
theorem dX12_told_171 : decode cX12_told 171 = .ok (.bipush 9, 2) := by decide +kernel
theorem dX12_told_173 : decode cX12_told 173 = .ok (.ireturn, 1) := by decide +kernel
theorem dX12_tryTold_0 : decode cX12_tryTold 0 = .ok (.iconst 0, 1) := by decide +kernel
theorem dX12_tryTold_1 : decode cX12_tryTold 1 = .ok (.istore_n 1, 1) := by decide +kernel
theorem dX12_tryTold_2 : decode cX12_tryTold 2 = .ok (.iload_n 1, 1) := by decide +kernel
theorem dX12_tryTold_3 : decode cX12_tryTold 3 = .ok (.bipush 21, 2) := by decide +kernel
theorem dX12_tryTold_5 : decode cX12_tryTold 5 = .ok (.if_icmp .ge 24, 3) := by decide +kernel
theorem dX12_tryTold_8 : decode cX12_tryTold 8 = .ok (.aload_n 0, 1) := by decide +kernel
theorem dX12_tryTold_9 : decode cX12_tryTold 9 = .ok (.getfield 68, 3) := by decide +kernel
theorem dX12_tryTold_12 : decode cX12_tryTold 12 = .ok (.bipush 21, 2) := by decide +kernel
theorem dX12_tryTold_14 : decode cX12_tryTold 14 = .ok (.iload_n 1, 1) := by decide +kernel
theorem dX12_tryTold_15 : decode cX12_tryTold 15 = .ok (.iadd, 1) := by decide +kernel
theorem dX12_tryTold_16 : decode cX12_tryTold 16 = .ok (.aload_n 0, 1) := by decide +kernel
theorem dX12_tryTold_17 : decode cX12_tryTold 17 = .ok (.getfield 68, 3) := by decide +kernel
theorem dX12_tryTold_20 : decode cX12_tryTold 20 = .ok (.iload_n 1, 1) := by decide +kernel
theorem dX12_tryTold_21 : decode cX12_tryTold 21 = .ok (.iaload, 1) := by decide +kernel
theorem dX12_tryTold_22 : decode cX12_tryTold 22 = .ok (.iastore, 1) := by decide +kernel
theorem dX12_tryTold_23 : decode cX12_tryTold 23 = .ok (.iinc 1 1, 3) := by decide +kernel
theorem dX12_tryTold_26 : decode cX12_tryTold 26 = .ok (.goto (-24), 3) := by decide +kernel
theorem dX12_tryTold_29 : decode cX12_tryTold 29 = .ok (.return_, 1) := by decide +kernel
theorem dX12_turned_0 : decode cX12_turned 0 = .ok (.lconst 0, 1) := by decide +kernel
theorem dX12_turned_1 : decode cX12_turned 1 = .ok (.lstore 4, 2) := by decide +kernel
theorem dX12_turned_3 : decode cX12_turned 3 = .ok (.iconst 0, 1) := by decide +kernel
theorem dX12_turned_4 : decode cX12_turned 4 = .ok (.istore 6, 2) := by decide +kernel
theorem dX12_turned_6 : decode cX12_turned 6 = .ok (.iload 6, 2) := by decide +kernel
theorem dX12_turned_8 : decode cX12_turned 8 = .ok (.aload_n 0, 1) := by decide +kernel
theorem dX12_turned_9 : decode cX12_turned 9 = .ok (.getfield 309, 3) := by decide +kernel
theorem dX12_turned_12 : decode cX12_turned 12 = .ok (.if_icmp .ge 46, 3) := by decide +kernel
theorem dX12_turned_15 : decode cX12_turned 15 = .ok (.aload_n 0, 1) := by decide +kernel
theorem dX12_turned_16 : decode cX12_turned 16 = .ok (.iload 6, 2) := by decide +kernel
theorem dX12_turned_18 : decode cX12_turned 18 = .ok (.iload_n 1, 1) := by decide +kernel
theorem dX12_turned_19 : decode cX12_turned 19 = .ok (.invokevirtual 312, 3) := by decide +kernel
theorem dX12_turned_22 : decode cX12_turned 22 = .ok (.iload_n 2, 1) := by decide +kernel
theorem dX12_turned_23 : decode cX12_turned 23 = .ok (.if_icmp .ne 29, 3) := by decide +kernel
theorem dX12_turned_26 : decode cX12_turned 26 = .ok (.aload_n 0, 1) := by decide +kernel
theorem dX12_turned_27 : decode cX12_turned 27 = .ok (.iload 6, 2) := by decide +kernel
theorem dX12_turned_29 : decode cX12_turned 29 = .ok (.iload_n 1, 1) := by decide +kernel
theorem dX12_turned_30 : decode cX12_turned 30 = .ok (.invokevirtual 375, 3) := by decide +kernel
theorem dX12_turned_33 : decode cX12_turned 33 = .ok (.ifCond .eq 19, 3) := by decide +kernel
theorem dX12_turned_36 : decode cX12_turned 36 = .ok (.lload 4, 2) := by decide +kernel
theorem dX12_turned_38 : decode cX12_turned 38 = .ok (.aload_n 0, 1) := by decide +kernel
theorem dX12_turned_39 : decode cX12_turned 39 = .ok (.getfield 65, 3) := by decide +kernel
theorem dX12_turned_42 : decode cX12_turned 42 = .ok (.iconst 3, 1) := by decide +kernel
theorem dX12_turned_43 : decode cX12_turned 43 = .ok (.iload 6, 2) := by decide +kernel
theorem dX12_turned_45 : decode cX12_turned 45 = .ok (.imul, 1) := by decide +kernel
theorem dX12_turned_46 : decode cX12_turned 46 = .ok (.iload_n 3, 1) := by decide +kernel
theorem dX12_turned_47 : decode cX12_turned 47 = .ok (.iadd, 1) := by decide +kernel
theorem dX12_turned_48 : decode cX12_turned 48 = .ok (.laload, 1) := by decide +kernel
theorem dX12_turned_49 : decode cX12_turned 49 = .ok (.ladd, 1) := by decide +kernel
theorem dX12_turned_50 : decode cX12_turned 50 = .ok (.lstore 4, 2) := by decide +kernel
theorem dX12_turned_52 : decode cX12_turned 52 = .ok (.iinc 6 1, 3) := by decide +kernel
theorem dX12_turned_55 : decode cX12_turned 55 = .ok (.goto (-49), 3) := by decide +kernel
theorem dX12_turned_58 : decode cX12_turned 58 = .ok (.lload 4, 2) := by decide +kernel
theorem dX12_turned_60 : decode cX12_turned 60 = .ok (.lreturn, 1) := by decide +kernel
theorem dX12_turns_0 : decode cX12_turns 0 = .ok (.aload_n 0, 1) := by decide +kernel
theorem dX12_turns_1 : decode cX12_turns 1 = .ok (.iload_n 1, 1) := by decide +kernel
theorem dX12_turns_2 : decode cX12_turns 2 = .ok (.iload_n 2, 1) := by decide +kernel
theorem dX12_turns_3 : decode cX12_turns 3 = .ok (.invokevirtual 349, 3) := by decide +kernel
theorem dX12_turns_6 : decode cX12_turns 6 = .ok (.ifCond .ne 8, 3) := by decide +kernel
theorem dX12_turns_9 : decode cX12_turns 9 = .ok (.aload_n 0, 1) := by decide +kernel
theorem dX12_turns_10 : decode cX12_turns 10 = .ok (.invokevirtual 325, 3) := by decide +kernel
theorem dX12_turns_13 : decode cX12_turns 13 = .ok (.lreturn, 1) := by decide +kernel
theorem dX12_turns_14 : decode cX12_turns 14 = .ok (.aload_n 0, 1) := by decide +kernel
theorem dX12_turns_15 : decode cX12_turns 15 = .ok (.iconst 0, 1) := by decide +kernel
theorem dX12_turns_16 : decode cX12_turns 16 = .ok (.putfield 149, 3) := by decide +kernel
theorem dX12_turns_19 : decode cX12_turns 19 = .ok (.lconst 0, 1) := by decide +kernel
theorem dX12_turns_20 : decode cX12_turns 20 = .ok (.lstore_n 3, 1) := by decide +kernel
theorem dX12_turns_21 : decode cX12_turns 21 = .ok (.iconst 0, 1) := by decide +kernel
theorem dX12_turns_22 : decode cX12_turns 22 = .ok (.istore 5, 2) := by decide +kernel
theorem dX12_turns_24 : decode cX12_turns 24 = .ok (.iload 5, 2) := by decide +kernel
theorem dX12_turns_26 : decode cX12_turns 26 = .ok (.aload_n 0, 1) := by decide +kernel
theorem dX12_turns_27 : decode cX12_turns 27 = .ok (.getfield 303, 3) := by decide +kernel
theorem dX12_turns_30 : decode cX12_turns 30 = .ok (.if_icmp .ge 20, 3) := by decide +kernel
theorem dX12_turns_33 : decode cX12_turns 33 = .ok (.lload_n 3, 1) := by decide +kernel
theorem dX12_turns_34 : decode cX12_turns 34 = .ok (.aload_n 0, 1) := by decide +kernel
theorem dX12_turns_35 : decode cX12_turns 35 = .ok (.iload_n 1, 1) := by decide +kernel
theorem dX12_turns_36 : decode cX12_turns 36 = .ok (.iload_n 2, 1) := by decide +kernel
theorem dX12_turns_37 : decode cX12_turns 37 = .ok (.iload 5, 2) := by decide +kernel
theorem dX12_turns_39 : decode cX12_turns 39 = .ok (.invokevirtual 378, 3) := by decide +kernel
theorem dX12_turns_42 : decode cX12_turns 42 = .ok (.ladd, 1) := by decide +kernel
theorem dX12_turns_43 : decode cX12_turns 43 = .ok (.lstore_n 3, 1) := by decide +kernel
theorem dX12_turns_44 : decode cX12_turns 44 = .ok (.iinc 5 1, 3) := by decide +kernel
theorem dX12_turns_47 : decode cX12_turns 47 = .ok (.goto (-23), 3) := by decide +kernel
theorem dX12_turns_50 : decode cX12_turns 50 = .ok (.lload_n 3, 1) := by decide +kernel
theorem dX12_turns_51 : decode cX12_turns 51 = .ok (.lreturn, 1) := by decide +kernel
theorem dX12_vote_0 : decode cX12_vote 0 = .ok (.aload_n 0, 1) := by decide +kernel
theorem dX12_vote_1 : decode cX12_vote 1 = .ok (.iconst 0, 1) := by decide +kernel
theorem dX12_vote_2 : decode cX12_vote 2 = .ok (.putfield 149, 3) := by decide +kernel
theorem dX12_vote_5 : decode cX12_vote 5 = .ok (.aload_n 0, 1) := by decide +kernel
theorem dX12_vote_6 : decode cX12_vote 6 = .ok (.iload_n 1, 1) := by decide +kernel
theorem dX12_vote_7 : decode cX12_vote 7 = .ok (.iload_n 2, 1) := by decide +kernel
theorem dX12_vote_8 : decode cX12_vote 8 = .ok (.invokevirtual 349, 3) := by decide +kernel
theorem dX12_vote_11 : decode cX12_vote 11 = .ok (.ifCond .eq 16, 3) := by decide +kernel
theorem dX12_vote_14 : decode cX12_vote 14 = .ok (.aload_n 0, 1) := by decide +kernel
theorem dX12_vote_15 : decode cX12_vote 15 = .ok (.getfield 68, 3) := by decide +kernel
theorem dX12_vote_18 : decode cX12_vote 18 = .ok (.iconst 3, 1) := by decide +kernel
theorem dX12_vote_19 : decode cX12_vote 19 = .ok (.iload_n 1, 1) := by decide +kernel
theorem dX12_vote_20 : decode cX12_vote 20 = .ok (.imul, 1) := by decide +kernel
theorem dX12_vote_21 : decode cX12_vote 21 = .ok (.iload_n 2, 1) := by decide +kernel
theorem dX12_vote_22 : decode cX12_vote 22 = .ok (.iadd, 1) := by decide +kernel
theorem dX12_vote_23 : decode cX12_vote 23 = .ok (.iaload, 1) := by decide +kernel
theorem dX12_vote_24 : decode cX12_vote 24 = .ok (.goto 4, 3) := by decide +kernel
theorem dX12_vote_27 : decode cX12_vote 27 = .ok (.iconst (-1), 1) := by decide +kernel
theorem dX12_vote_28 : decode cX12_vote 28 = .ok (.ireturn, 1) := by decide +kernel
theorem dX12_votesAsTold_0 : decode cX12_votesAsTold 0 = .ok (.iconst 0, 1) := by decide +kernel
theorem dX12_votesAsTold_1 : decode cX12_votesAsTold 1 = .ok (.istore_n 2, 1) := by decide +kernel
theorem dX12_votesAsTold_2 : decode cX12_votesAsTold 2 = .ok (.iload_n 2, 1) := by decide +kernel
theorem dX12_votesAsTold_3 : decode cX12_votesAsTold 3 = .ok (.aload_n 0, 1) := by decide +kernel
theorem dX12_votesAsTold_4 : decode cX12_votesAsTold 4 = .ok (.getfield 306, 3) := by decide +kernel
theorem dX12_votesAsTold_7 : decode cX12_votesAsTold 7 = .ok (.if_icmp .ge 35, 3) := by decide +kernel
theorem dX12_votesAsTold_10 : decode cX12_votesAsTold 10 = .ok (.aload_n 0, 1) := by decide +kernel
theorem dX12_votesAsTold_11 : decode cX12_votesAsTold 11 = .ok (.getfield 68, 3) := by decide +kernel
theorem dX12_votesAsTold_14 : decode cX12_votesAsTold 14 = .ok (.iconst 3, 1) := by decide +kernel
theorem dX12_votesAsTold_15 : decode cX12_votesAsTold 15 = .ok (.iload_n 2, 1) := by decide +kernel
theorem dX12_votesAsTold_16 : decode cX12_votesAsTold 16 = .ok (.imul, 1) := by decide +kernel
theorem dX12_votesAsTold_17 : decode cX12_votesAsTold 17 = .ok (.aload_n 0, 1) := by decide +kernel
theorem dX12_votesAsTold_18 : decode cX12_votesAsTold 18 = .ok (.iload_n 1, 1) := by decide +kernel
theorem dX12_votesAsTold_19 : decode cX12_votesAsTold 19 = .ok (.iload_n 2, 1) := by decide +kernel
theorem dX12_votesAsTold_20 : decode cX12_votesAsTold 20 = .ok (.invokevirtual 312, 3) := by decide +kernel
theorem dX12_votesAsTold_23 : decode cX12_votesAsTold 23 = .ok (.iadd, 1) := by decide +kernel
theorem dX12_votesAsTold_24 : decode cX12_votesAsTold 24 = .ok (.iaload, 1) := by decide +kernel
theorem dX12_votesAsTold_25 : decode cX12_votesAsTold 25 = .ok (.aload_n 0, 1) := by decide +kernel
theorem dX12_votesAsTold_26 : decode cX12_votesAsTold 26 = .ok (.getfield 7, 3) := by decide +kernel
theorem dX12_votesAsTold_29 : decode cX12_votesAsTold 29 = .ok (.iload_n 2, 1) := by decide +kernel
theorem dX12_votesAsTold_30 : decode cX12_votesAsTold 30 = .ok (.iaload, 1) := by decide +kernel
theorem dX12_votesAsTold_31 : decode cX12_votesAsTold 31 = .ok (.if_icmp .eq 5, 3) := by decide +kernel
theorem dX12_votesAsTold_34 : decode cX12_votesAsTold 34 = .ok (.iconst 0, 1) := by decide +kernel
theorem dX12_votesAsTold_35 : decode cX12_votesAsTold 35 = .ok (.ireturn, 1) := by decide +kernel
theorem dX12_votesAsTold_36 : decode cX12_votesAsTold 36 = .ok (.iinc 2 1, 3) := by decide +kernel
theorem dX12_votesAsTold_39 : decode cX12_votesAsTold 39 = .ok (.goto (-37), 3) := by decide +kernel
theorem dX12_votesAsTold_42 : decode cX12_votesAsTold 42 = .ok (.iconst 1, 1) := by decide +kernel
theorem dX12_votesAsTold_43 : decode cX12_votesAsTold 43 = .ok (.ireturn, 1) := by decide +kernel
theorem dX12_votesOf_0 : decode cX12_votesOf 0 = .ok (.iconst 0, 1) := by decide +kernel
theorem dX12_votesOf_1 : decode cX12_votesOf 1 = .ok (.istore_n 2, 1) := by decide +kernel
theorem dX12_votesOf_2 : decode cX12_votesOf 2 = .ok (.aload_n 0, 1) := by decide +kernel
theorem dX12_votesOf_3 : decode cX12_votesOf 3 = .ok (.getfield 306, 3) := by decide +kernel
theorem dX12_votesOf_6 : decode cX12_votesOf 6 = .ok (.iconst 1, 1) := by decide +kernel
theorem dX12_votesOf_7 : decode cX12_votesOf 7 = .ok (.isub, 1) := by decide +kernel
theorem dX12_votesOf_8 : decode cX12_votesOf 8 = .ok (.istore_n 3, 1) := by decide +kernel
theorem dX12_votesOf_9 : decode cX12_votesOf 9 = .ok (.iload_n 3, 1) := by decide +kernel
theorem dX12_votesOf_10 : decode cX12_votesOf 10 = .ok (.ifCond .lt 44, 3) := by decide +kernel
theorem dX12_votesOf_13 : decode cX12_votesOf 13 = .ok (.aload_n 0, 1) := by decide +kernel
theorem dX12_votesOf_14 : decode cX12_votesOf 14 = .ok (.getfield 68, 3) := by decide +kernel
theorem dX12_votesOf_17 : decode cX12_votesOf 17 = .ok (.iconst 3, 1) := by decide +kernel
theorem dX12_votesOf_18 : decode cX12_votesOf 18 = .ok (.iload_n 3, 1) := by decide +kernel
theorem dX12_votesOf_19 : decode cX12_votesOf 19 = .ok (.imul, 1) := by decide +kernel
theorem dX12_votesOf_20 : decode cX12_votesOf 20 = .ok (.aload_n 0, 1) := by decide +kernel
theorem dX12_votesOf_21 : decode cX12_votesOf 21 = .ok (.iload_n 1, 1) := by decide +kernel
theorem dX12_votesOf_22 : decode cX12_votesOf 22 = .ok (.iload_n 3, 1) := by decide +kernel
theorem dX12_votesOf_23 : decode cX12_votesOf 23 = .ok (.invokevirtual 312, 3) := by decide +kernel
theorem dX12_votesOf_26 : decode cX12_votesOf 26 = .ok (.iadd, 1) := by decide +kernel
theorem dX12_votesOf_27 : decode cX12_votesOf 27 = .ok (.iaload, 1) := by decide +kernel
theorem dX12_votesOf_28 : decode cX12_votesOf 28 = .ok (.istore 4, 2) := by decide +kernel
theorem dX12_votesOf_30 : decode cX12_votesOf 30 = .ok (.iconst 4, 1) := by decide +kernel
theorem dX12_votesOf_31 : decode cX12_votesOf 31 = .ok (.iload_n 2, 1) := by decide +kernel
theorem dX12_votesOf_32 : decode cX12_votesOf 32 = .ok (.imul, 1) := by decide +kernel
theorem dX12_votesOf_33 : decode cX12_votesOf 33 = .ok (.iload 4, 2) := by decide +kernel
theorem dX12_votesOf_35 : decode cX12_votesOf 35 = .ok (.bipush 9, 2) := by decide +kernel
theorem dX12_votesOf_37 : decode cX12_votesOf 37 = .ok (.if_icmp .ne 7, 3) := by decide +kernel
theorem dX12_votesOf_40 : decode cX12_votesOf 40 = .ok (.iconst 3, 1) := by decide +kernel
theorem dX12_votesOf_41 : decode cX12_votesOf 41 = .ok (.goto 5, 3) := by decide +kernel
theorem dX12_votesOf_44 : decode cX12_votesOf 44 = .ok (.iload 4, 2) := by decide +kernel
theorem dX12_votesOf_46 : decode cX12_votesOf 46 = .ok (.iadd, 1) := by decide +kernel
theorem dX12_votesOf_47 : decode cX12_votesOf 47 = .ok (.istore_n 2, 1) := by decide +kernel
theorem dX12_votesOf_48 : decode cX12_votesOf 48 = .ok (.iinc 3 (-1), 3) := by decide +kernel
theorem dX12_votesOf_51 : decode cX12_votesOf 51 = .ok (.goto (-42), 3) := by decide +kernel
theorem dX12_votesOf_54 : decode cX12_votesOf 54 = .ok (.iload_n 2, 1) := by decide +kernel
theorem dX12_votesOf_55 : decode cX12_votesOf 55 = .ok (.ireturn, 1) := by decide +kernel
theorem dX12_wayAtHand_0 : decode cX12_wayAtHand 0 = .ok (.aload_n 0, 1) := by decide +kernel
theorem dX12_wayAtHand_1 : decode cX12_wayAtHand 1 = .ok (.bipush 104, 2) := by decide +kernel
theorem dX12_wayAtHand_3 : decode cX12_wayAtHand 3 = .ok (.bipush 111, 2) := by decide +kernel
theorem dX12_wayAtHand_5 : decode cX12_wayAtHand 5 = .ok (.bipush 110, 2) := by decide +kernel
theorem dX12_wayAtHand_7 : decode cX12_wayAtHand 7 = .ok (.bipush 101, 2) := by decide +kernel
theorem dX12_wayAtHand_9 : decode cX12_wayAtHand 9 = .ok (.bipush 115, 2) := by decide +kernel
theorem dX12_wayAtHand_11 : decode cX12_wayAtHand 11 = .ok (.bipush 116, 2) := by decide +kernel
theorem dX12_wayAtHand_13 : decode cX12_wayAtHand 13 = .ok (.invokestatic 213, 3) := by decide +kernel
theorem dX12_wayAtHand_16 : decode cX12_wayAtHand 16 = .ok (.invokevirtual 203, 3) := by decide +kernel
theorem dX12_wayAtHand_19 : decode cX12_wayAtHand 19 = .ok (.ifCond .eq 5, 3) := by decide +kernel
theorem dX12_wayAtHand_22 : decode cX12_wayAtHand 22 = .ok (.iconst 0, 1) := by decide +kernel
theorem dX12_wayAtHand_23 : decode cX12_wayAtHand 23 = .ok (.ireturn, 1) := by decide +kernel
theorem dX12_wayAtHand_24 : decode cX12_wayAtHand 24 = .ok (.aload_n 0, 1) := by decide +kernel
theorem dX12_wayAtHand_25 : decode cX12_wayAtHand 25 = .ok (.bipush 112, 2) := by decide +kernel
theorem dX12_wayAtHand_27 : decode cX12_wayAtHand 27 = .ok (.bipush 108, 2) := by decide +kernel
theorem dX12_wayAtHand_29 : decode cX12_wayAtHand 29 = .ok (.bipush 97, 2) := by decide +kernel
theorem dX12_wayAtHand_31 : decode cX12_wayAtHand 31 = .ok (.bipush 105, 2) := by decide +kernel
theorem dX12_wayAtHand_33 : decode cX12_wayAtHand 33 = .ok (.bipush 110, 2) := by decide +kernel
theorem dX12_wayAtHand_35 : decode cX12_wayAtHand 35 = .ok (.invokestatic 193, 3) := by decide +kernel
theorem dX12_wayAtHand_38 : decode cX12_wayAtHand 38 = .ok (.invokevirtual 203, 3) := by decide +kernel
theorem dX12_wayAtHand_41 : decode cX12_wayAtHand 41 = .ok (.ifCond .eq 5, 3) := by decide +kernel
theorem dX12_wayAtHand_44 : decode cX12_wayAtHand 44 = .ok (.iconst 1, 1) := by decide +kernel
theorem dX12_wayAtHand_45 : decode cX12_wayAtHand 45 = .ok (.ireturn, 1) := by decide +kernel
theorem dX12_wayAtHand_46 : decode cX12_wayAtHand 46 = .ok (.aload_n 0, 1) := by decide +kernel
theorem dX12_wayAtHand_47 : decode cX12_wayAtHand 47 = .ok (.bipush 115, 2) := by decide +kernel
theorem dX12_wayAtHand_49 : decode cX12_wayAtHand 49 = .ok (.bipush 104, 2) := by decide +kernel
theorem dX12_wayAtHand_51 : decode cX12_wayAtHand 51 = .ok (.bipush 121, 2) := by decide +kernel
theorem dX12_wayAtHand_53 : decode cX12_wayAtHand 53 = .ok (.iconst 0, 1) := by decide +kernel
theorem dX12_wayAtHand_54 : decode cX12_wayAtHand 54 = .ok (.iconst 0, 1) := by decide +kernel
theorem dX12_wayAtHand_55 : decode cX12_wayAtHand 55 = .ok (.invokestatic 193, 3) := by decide +kernel
theorem dX12_wayAtHand_58 : decode cX12_wayAtHand 58 = .ok (.invokevirtual 203, 3) := by decide +kernel
theorem dX12_wayAtHand_61 : decode cX12_wayAtHand 61 = .ok (.ifCond .eq 5, 3) := by decide +kernel
theorem dX12_wayAtHand_64 : decode cX12_wayAtHand 64 = .ok (.iconst 2, 1) := by decide +kernel
theorem dX12_wayAtHand_65 : decode cX12_wayAtHand 65 = .ok (.ireturn, 1) := by decide +kernel
theorem dX12_wayAtHand_66 : decode cX12_wayAtHand 66 = .ok (.aload_n 0, 1) := by decide +kernel
theorem dX12_wayAtHand_67 : decode cX12_wayAtHand 67 = .ok (.bipush 115, 2) := by decide +kernel
theorem dX12_wayAtHand_69 : decode cX12_wayAtHand 69 = .ok (.bipush 101, 2) := by decide +kernel
theorem dX12_wayAtHand_71 : decode cX12_wayAtHand 71 = .ok (.bipush 116, 2) := by decide +kernel
theorem dX12_wayAtHand_73 : decode cX12_wayAtHand 73 = .ok (.iconst 0, 1) := by decide +kernel
theorem dX12_wayAtHand_74 : decode cX12_wayAtHand 74 = .ok (.iconst 0, 1) := by decide +kernel
theorem dX12_wayAtHand_75 : decode cX12_wayAtHand 75 = .ok (.invokestatic 193, 3) := by decide +kernel
theorem dX12_wayAtHand_78 : decode cX12_wayAtHand 78 = .ok (.invokevirtual 203, 3) := by decide +kernel
theorem dX12_wayAtHand_81 : decode cX12_wayAtHand 81 = .ok (.ifCond .eq 7, 3) := by decide +kernel
theorem dX12_wayAtHand_84 : decode cX12_wayAtHand 84 = .ok (.iconst 3, 1) := by decide +kernel
theorem dX12_wayAtHand_85 : decode cX12_wayAtHand 85 = .ok (.goto 4, 3) := by decide +kernel
theorem dX12_wayAtHand_88 : decode cX12_wayAtHand 88 = .ok (.iconst (-1), 1) := by decide +kernel
theorem dX12_wayAtHand_89 : decode cX12_wayAtHand 89 = .ok (.ireturn, 1) := by decide +kernel
