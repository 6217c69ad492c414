theorem dX12_comes_0 : decode cX12_comes 0 = .ok (.aload_n 0, 1) := by decide +kernel
theorem dX12_comes_1 : decode cX12_comes 1 = .ok (.iload_n 1, 1) := by decide +kernel
theorem dX12_comes_2 : decode cX12_comes 2 = .ok (.invokevirtual 322, 3) := by decide +kernel
theorem dX12_comes_5 : decode cX12_comes 5 = .ok (.ifCond .eq 11, 3) := by decide +kernel
theorem dX12_comes_8 : decode cX12_comes 8 = .ok (.aload_n 0, 1) := by decide +kernel
theorem dX12_comes_9 : decode cX12_comes 9 = .ok (.iload_n 2, 1) := by decide +kernel
theorem dX12_comes_10 : decode cX12_comes 10 = .ok (.invokevirtual 322, 3) := by decide +kernel
theorem dX12_comes_13 : decode cX12_comes 13 = .ok (.ifCond .ne 8, 3) := by decide +kernel
theorem dX12_comes_16 : decode cX12_comes 16 = .ok (.aload_n 0, 1) := by decide +kernel
theorem dX12_comes_17 : decode cX12_comes 17 = .ok (.invokevirtual 325, 3) := by decide +kernel
theorem dX12_comes_20 : decode cX12_comes 20 = .ok (.lreturn, 1) := by decide +kernel
theorem dX12_comes_21 : decode cX12_comes 21 = .ok (.aload_n 0, 1) := by decide +kernel
theorem dX12_comes_22 : decode cX12_comes 22 = .ok (.iconst 0, 1) := by decide +kernel
theorem dX12_comes_23 : decode cX12_comes 23 = .ok (.putfield 149, 3) := by decide +kernel
theorem dX12_comes_26 : decode cX12_comes 26 = .ok (.lconst 0, 1) := by decide +kernel
theorem dX12_comes_27 : decode cX12_comes 27 = .ok (.lstore_n 3, 1) := by decide +kernel
theorem dX12_comes_28 : decode cX12_comes 28 = .ok (.iconst 0, 1) := by decide +kernel
theorem dX12_comes_29 : decode cX12_comes 29 = .ok (.istore 5, 2) := by decide +kernel
theorem dX12_comes_31 : decode cX12_comes 31 = .ok (.iload 5, 2) := by decide +kernel
theorem dX12_comes_33 : decode cX12_comes 33 = .ok (.aload_n 0, 1) := by decide +kernel
theorem dX12_comes_34 : decode cX12_comes 34 = .ok (.getfield 309, 3) := by decide +kernel
theorem dX12_comes_37 : decode cX12_comes 37 = .ok (.if_icmp .ge 34, 3) := by decide +kernel
theorem dX12_comes_40 : decode cX12_comes 40 = .ok (.aload_n 0, 1) := by decide +kernel
theorem dX12_comes_41 : decode cX12_comes 41 = .ok (.iload 5, 2) := by decide +kernel
theorem dX12_comes_43 : decode cX12_comes 43 = .ok (.iconst 0, 1) := by decide +kernel
theorem dX12_comes_44 : decode cX12_comes 44 = .ok (.invokevirtual 355, 3) := by decide +kernel
theorem dX12_comes_47 : decode cX12_comes 47 = .ok (.iload_n 2, 1) := by decide +kernel
theorem dX12_comes_48 : decode cX12_comes 48 = .ok (.if_icmp .ne 17, 3) := by decide +kernel
theorem dX12_comes_51 : decode cX12_comes 51 = .ok (.lload_n 3, 1) := by decide +kernel
theorem dX12_comes_52 : decode cX12_comes 52 = .ok (.aload_n 0, 1) := by decide +kernel
theorem dX12_comes_53 : decode cX12_comes 53 = .ok (.getfield 65, 3) := by decide +kernel
theorem dX12_comes_56 : decode cX12_comes 56 = .ok (.iconst 3, 1) := by decide +kernel
theorem dX12_comes_57 : decode cX12_comes 57 = .ok (.iload 5, 2) := by decide +kernel
theorem dX12_comes_59 : decode cX12_comes 59 = .ok (.imul, 1) := by decide +kernel
theorem dX12_comes_60 : decode cX12_comes 60 = .ok (.iload_n 1, 1) := by decide +kernel
theorem dX12_comes_61 : decode cX12_comes 61 = .ok (.iadd, 1) := by decide +kernel
theorem dX12_comes_62 : decode cX12_comes 62 = .ok (.laload, 1) := by decide +kernel
theorem dX12_comes_63 : decode cX12_comes 63 = .ok (.ladd, 1) := by decide +kernel
theorem dX12_comes_64 : decode cX12_comes 64 = .ok (.lstore_n 3, 1) := by decide +kernel
theorem dX12_comes_65 : decode cX12_comes 65 = .ok (.iinc 5 1, 3) := by decide +kernel
theorem dX12_comes_68 : decode cX12_comes 68 = .ok (.goto (-37), 3) := by decide +kernel
theorem dX12_comes_71 : decode cX12_comes 71 = .ok (.lload_n 3, 1) := by decide +kernel
theorem dX12_comes_72 : decode cX12_comes 72 = .ok (.lreturn, 1) := by decide +kernel
theorem dX12_commonly_0 : decode cX12_commonly 0 = .ok (.lconst 0, 1) := by decide +kernel
theorem dX12_commonly_1 : decode cX12_commonly 1 = .ok (.lstore_n 3, 1) := by decide +kernel
theorem dX12_commonly_2 : decode cX12_commonly 2 = .ok (.iconst 0, 1) := by decide +kernel
theorem dX12_commonly_3 : decode cX12_commonly 3 = .ok (.istore 5, 2) := by decide +kernel
theorem dX12_commonly_5 : decode cX12_commonly 5 = .ok (.iload 5, 2) := by decide +kernel
theorem dX12_commonly_7 : decode cX12_commonly 7 = .ok (.aload_n 0, 1) := by decide +kernel
theorem dX12_commonly_8 : decode cX12_commonly 8 = .ok (.getfield 303, 3) := by decide +kernel
theorem dX12_commonly_11 : decode cX12_commonly 11 = .ok (.if_icmp .ge 34, 3) := by decide +kernel
theorem dX12_commonly_14 : decode cX12_commonly 14 = .ok (.lload_n 3, 1) := by decide +kernel
theorem dX12_commonly_15 : decode cX12_commonly 15 = .ok (.aload_n 0, 1) := by decide +kernel
theorem dX12_commonly_16 : decode cX12_commonly 16 = .ok (.getfield 65, 3) := by decide +kernel
theorem dX12_commonly_19 : decode cX12_commonly 19 = .ok (.iconst 3, 1) := by decide +kernel
theorem dX12_commonly_20 : decode cX12_commonly 20 = .ok (.iload_n 1, 1) := by decide +kernel
theorem dX12_commonly_21 : decode cX12_commonly 21 = .ok (.imul, 1) := by decide +kernel
theorem dX12_commonly_22 : decode cX12_commonly 22 = .ok (.iload 5, 2) := by decide +kernel
theorem dX12_commonly_24 : decode cX12_commonly 24 = .ok (.iadd, 1) := by decide +kernel
theorem dX12_commonly_25 : decode cX12_commonly 25 = .ok (.laload, 1) := by decide +kernel
theorem dX12_commonly_26 : decode cX12_commonly 26 = .ok (.aload_n 0, 1) := by decide +kernel
theorem dX12_commonly_27 : decode cX12_commonly 27 = .ok (.bipush 7, 2) := by decide +kernel
theorem dX12_commonly_29 : decode cX12_commonly 29 = .ok (.iload 5, 2) := by decide +kernel
theorem dX12_commonly_31 : decode cX12_commonly 31 = .ok (.iload_n 2, 1) := by decide +kernel
theorem dX12_commonly_32 : decode cX12_commonly 32 = .ok (.invokevirtual 334, 3) := by decide +kernel
theorem dX12_commonly_35 : decode cX12_commonly 35 = .ok (.i2l, 1) := by decide +kernel
theorem dX12_commonly_36 : decode cX12_commonly 36 = .ok (.lmul, 1) := by decide +kernel
theorem dX12_commonly_37 : decode cX12_commonly 37 = .ok (.ladd, 1) := by decide +kernel
theorem dX12_commonly_38 : decode cX12_commonly 38 = .ok (.lstore_n 3, 1) := by decide +kernel
theorem dX12_commonly_39 : decode cX12_commonly 39 = .ok (.iinc 5 1, 3) := by decide +kernel
theorem dX12_commonly_42 : decode cX12_commonly 42 = .ok (.goto (-37), 3) := by decide +kernel
theorem dX12_commonly_45 : decode cX12_commonly 45 = .ok (.lload_n 3, 1) := by decide +kernel
theorem dX12_commonly_46 : decode cX12_commonly 46 = .ok (.lreturn, 1) := by decide +kernel
theorem dX12_count_0 : decode cX12_count 0 = .ok (.aload_n 0, 1) := by decide +kernel
theorem dX12_count_1 : decode cX12_count 1 = .ok (.iconst 0, 1) := by decide +kernel
theorem dX12_count_2 : decode cX12_count 2 = .ok (.putfield 149, 3) := by decide +kernel
theorem dX12_count_5 : decode cX12_count 5 = .ok (.iload_n 1, 1) := by decide +kernel
theorem dX12_count_6 : decode cX12_count 6 = .ok (.ifCond .ne 10, 3) := by decide +kernel
theorem dX12_count_9 : decode cX12_count 9 = .ok (.aload_n 0, 1) := by decide +kernel
theorem dX12_count_10 : decode cX12_count 10 = .ok (.getfield 303, 3) := by decide +kernel
theorem dX12_count_13 : decode cX12_count 13 = .ok (.goto 28, 3) := by decide +kernel
theorem dX12_count_16 : decode cX12_count 16 = .ok (.iload_n 1, 1) := by decide +kernel
theorem dX12_count_17 : decode cX12_count 17 = .ok (.iconst 1, 1) := by decide +kernel
theorem dX12_count_18 : decode cX12_count 18 = .ok (.if_icmp .ne 10, 3) := by decide +kernel
theorem dX12_count_21 : decode cX12_count 21 = .ok (.aload_n 0, 1) := by decide +kernel
theorem dX12_count_22 : decode cX12_count 22 = .ok (.getfield 306, 3) := by decide +kernel
theorem dX12_count_25 : decode cX12_count 25 = .ok (.goto 16, 3) := by decide +kernel
theorem dX12_count_28 : decode cX12_count 28 = .ok (.iload_n 1, 1) := by decide +kernel
theorem dX12_count_29 : decode cX12_count 29 = .ok (.iconst 2, 1) := by decide +kernel
theorem dX12_count_30 : decode cX12_count 30 = .ok (.if_icmp .ne 10, 3) := by decide +kernel
theorem dX12_count_33 : decode cX12_count 33 = .ok (.aload_n 0, 1) := by decide +kernel
theorem dX12_count_34 : decode cX12_count 34 = .ok (.getfield 153, 3) := by decide +kernel
theorem dX12_count_37 : decode cX12_count 37 = .ok (.goto 4, 3) := by decide +kernel
theorem dX12_count_40 : decode cX12_count 40 = .ok (.iconst (-1), 1) := by decide +kernel
theorem dX12_count_41 : decode cX12_count 41 = .ok (.ireturn, 1) := by decide +kernel
theorem dX12_decide_0 : decode cX12_decide 0 = .ok (.iconst 0, 1) := by decide +kernel
theorem dX12_decide_1 : decode cX12_decide 1 = .ok (.istore_n 1, 1) := by decide +kernel
theorem dX12_decide_2 : decode cX12_decide 2 = .ok (.iload_n 1, 1) := by decide +kernel
theorem dX12_decide_3 : decode cX12_decide 3 = .ok (.aload_n 0, 1) := by decide +kernel
theorem dX12_decide_4 : decode cX12_decide 4 = .ok (.getfield 303, 3) := by decide +kernel
theorem dX12_decide_7 : decode cX12_decide 7 = .ok (.if_icmp .ge 16, 3) := by decide +kernel
theorem dX12_decide_10 : decode cX12_decide 10 = .ok (.aload_n 0, 1) := by decide +kernel
theorem dX12_decide_11 : decode cX12_decide 11 = .ok (.getfield 74, 3) := by decide +kernel
theorem dX12_decide_14 : decode cX12_decide 14 = .ok (.iload_n 1, 1) := by decide +kernel
theorem dX12_decide_15 : decode cX12_decide 15 = .ok (.iconst 0, 1) := by decide +kernel
theorem dX12_decide_16 : decode cX12_decide 16 = .ok (.iastore, 1) := by decide +kernel
theorem dX12_decide_17 : decode cX12_decide 17 = .ok (.iinc 1 1, 3) := by decide +kernel
theorem dX12_decide_20 : decode cX12_decide 20 = .ok (.goto (-18), 3) := by decide +kernel
theorem dX12_decide_23 : decode cX12_decide 23 = .ok (.iconst 0, 1) := by decide +kernel
theorem dX12_decide_24 : decode cX12_decide 24 = .ok (.istore_n 1, 1) := by decide +kernel
theorem dX12_decide_25 : decode cX12_decide 25 = .ok (.iload_n 1, 1) := by decide +kernel
theorem dX12_decide_26 : decode cX12_decide 26 = .ok (.aload_n 0, 1) := by decide +kernel
theorem dX12_decide_27 : decode cX12_decide 27 = .ok (.getfield 306, 3) := by decide +kernel
theorem dX12_decide_30 : decode cX12_decide 30 = .ok (.if_icmp .ge 40, 3) := by decide +kernel
theorem dX12_decide_33 : decode cX12_decide 33 = .ok (.aload_n 0, 1) := by decide +kernel
theorem dX12_decide_34 : decode cX12_decide 34 = .ok (.getfield 71, 3) := by decide +kernel
theorem dX12_decide_37 : decode cX12_decide 37 = .ok (.iload_n 1, 1) := by decide +kernel
theorem dX12_decide_38 : decode cX12_decide 38 = .ok (.iaload, 1) := by decide +kernel
theorem dX12_decide_39 : decode cX12_decide 39 = .ok (.bipush 9, 2) := by decide +kernel
theorem dX12_decide_41 : decode cX12_decide 41 = .ok (.if_icmp .eq 23, 3) := by decide +kernel
theorem dX12_decide_44 : decode cX12_decide 44 = .ok (.aload_n 0, 1) := by decide +kernel
theorem dX12_decide_45 : decode cX12_decide 45 = .ok (.getfield 74, 3) := by decide +kernel
theorem dX12_decide_48 : decode cX12_decide 48 = .ok (.aload_n 0, 1) := by decide +kernel
theorem dX12_decide_49 : decode cX12_decide 49 = .ok (.getfield 71, 3) := by decide +kernel
theorem dX12_decide_52 : decode cX12_decide 52 = .ok (.iload_n 1, 1) := by decide +kernel
theorem dX12_decide_53 : decode cX12_decide 53 = .ok (.iaload, 1) := by decide +kernel
theorem dX12_decide_54 : decode cX12_decide 54 = .ok (.dup2, 1) := by decide +kernel
theorem dX12_decide_55 : decode cX12_decide 55 = .ok (.iaload, 1) := by decide +kernel
theorem dX12_decide_56 : decode cX12_decide 56 = .ok (.aload_n 0, 1) := by decide +kernel
theorem dX12_decide_57 : decode cX12_decide 57 = .ok (.getfield 47, 3) := by decide +kernel
theorem dX12_decide_60 : decode cX12_decide 60 = .ok (.iload_n 1, 1) := by decide +kernel
theorem dX12_decide_61 : decode cX12_decide 61 = .ok (.iaload, 1) := by decide +kernel
theorem dX12_decide_62 : decode cX12_decide 62 = .ok (.iadd, 1) := by decide +kernel
theorem dX12_decide_63 : decode cX12_decide 63 = .ok (.iastore, 1) := by decide +kernel
theorem dX12_decide_64 : decode cX12_decide 64 = .ok (.iinc 1 1, 3) := by decide +kernel
theorem dX12_decide_67 : decode cX12_decide 67 = .ok (.goto (-42), 3) := by decide +kernel
theorem dX12_decide_70 : decode cX12_decide 70 = .ok (.aload_n 0, 1) := by decide +kernel
theorem dX12_decide_71 : decode cX12_decide 71 = .ok (.getfield 50, 3) := by decide +kernel
theorem dX12_decide_74 : decode cX12_decide 74 = .ok (.iconst 0, 1) := by decide +kernel
theorem dX12_decide_75 : decode cX12_decide 75 = .ok (.iaload, 1) := by decide +kernel
theorem dX12_decide_76 : decode cX12_decide 76 = .ok (.ifCond .le 39, 3) := by decide +kernel
theorem dX12_decide_79 : decode cX12_decide 79 = .ok (.aload_n 0, 1) := by decide +kernel
theorem dX12_decide_80 : decode cX12_decide 80 = .ok (.getfield 74, 3) := by decide +kernel
theorem dX12_decide_83 : decode cX12_decide 83 = .ok (.aload_n 0, 1) := by decide +kernel
theorem dX12_decide_84 : decode cX12_decide 84 = .ok (.getfield 53, 3) := by decide +kernel
theorem dX12_decide_87 : decode cX12_decide 87 = .ok (.iconst 0, 1) := by decide +kernel
theorem dX12_decide_88 : decode cX12_decide 88 = .ok (.iaload, 1) := by decide +kernel
theorem dX12_decide_89 : decode cX12_decide 89 = .ok (.iaload, 1) := by decide +kernel
theorem dX12_decide_90 : decode cX12_decide 90 = .ok (.aload_n 0, 1) := by decide +kernel
theorem dX12_decide_91 : decode cX12_decide 91 = .ok (.getfield 50, 3) := by decide +kernel
theorem dX12_decide_94 : decode cX12_decide 94 = .ok (.iconst 0, 1) := by decide +kernel
theorem dX12_decide_95 : decode cX12_decide 95 = .ok (.iaload, 1) := by decide +kernel
theorem dX12_decide_96 : decode cX12_decide 96 = .ok (.if_icmp .lt 12, 3) := by decide +kernel
theorem dX12_decide_99 : decode cX12_decide 99 = .ok (.aload_n 0, 1) := by decide +kernel
theorem dX12_decide_100 : decode cX12_decide 100 = .ok (.getfield 53, 3) := by decide +kernel
theorem dX12_decide_103 : decode cX12_decide 103 = .ok (.iconst 0, 1) := by decide +kernel
theorem dX12_decide_104 : decode cX12_decide 104 = .ok (.iaload, 1) := by decide +kernel
theorem dX12_decide_105 : decode cX12_decide 105 = .ok (.goto 9, 3) := by decide +kernel
theorem dX12_decide_108 : decode cX12_decide 108 = .ok (.aload_n 0, 1) := by decide +kernel
theorem dX12_decide_109 : decode cX12_decide 109 = .ok (.getfield 56, 3) := by decide +kernel
theorem dX12_decide_112 : decode cX12_decide 112 = .ok (.iconst 0, 1) := by decide +kernel
theorem dX12_decide_113 : decode cX12_decide 113 = .ok (.iaload, 1) := by decide +kernel
theorem dX12_decide_114 : decode cX12_decide 114 = .ok (.ireturn, 1) := by decide +kernel
theorem dX12_decide_115 : decode cX12_decide 115 = .ok (.iconst 0, 1) := by decide +kernel
theorem dX12_decide_116 : decode cX12_decide 116 = .ok (.istore_n 1, 1) := by decide +kernel
theorem dX12_decide_117 : decode cX12_decide 117 = .ok (.iconst 1, 1) := by decide +kernel
theorem dX12_decide_118 : decode cX12_decide 118 = .ok (.istore_n 2, 1) := by decide +kernel
theorem dX12_decide_119 : decode cX12_decide 119 = .ok (.iload_n 2, 1) := by decide +kernel
theorem dX12_decide_120 : decode cX12_decide 120 = .ok (.aload_n 0, 1) := by decide +kernel
theorem dX12_decide_121 : decode cX12_decide 121 = .ok (.getfield 303, 3) := by decide +kernel
theorem dX12_decide_124 : decode cX12_decide 124 = .ok (.if_icmp .ge 26, 3) := by decide +kernel
theorem dX12_decide_127 : decode cX12_decide 127 = .ok (.aload_n 0, 1) := by decide +kernel
theorem dX12_decide_128 : decode cX12_decide 128 = .ok (.getfield 74, 3) := by decide +kernel
theorem dX12_decide_131 : decode cX12_decide 131 = .ok (.iload_n 2, 1) := by decide +kernel
theorem dX12_decide_132 : decode cX12_decide 132 = .ok (.iaload, 1) := by decide +kernel
theorem dX12_decide_133 : decode cX12_decide 133 = .ok (.aload_n 0, 1) := by decide +kernel
theorem dX12_decide_134 : decode cX12_decide 134 = .ok (.getfield 74, 3) := by decide +kernel
theorem dX12_decide_137 : decode cX12_decide 137 = .ok (.iload_n 1, 1) := by decide +kernel
theorem dX12_decide_138 : decode cX12_decide 138 = .ok (.iaload, 1) := by decide +kernel
theorem dX12_decide_139 : decode cX12_decide 139 = .ok (.if_icmp .le 5, 3) := by decide +kernel
theorem dX12_decide_142 : decode cX12_decide 142 = .ok (.iload_n 2, 1) := by decide +kernel
theorem dX12_decide_143 : decode cX12_decide 143 = .ok (.istore_n 1, 1) := by decide +kernel
theorem dX12_decide_144 : decode cX12_decide 144 = .ok (.iinc 2 1, 3) := by decide +kernel
theorem dX12_decide_147 : decode cX12_decide 147 = .ok (.goto (-28), 3) := by decide +kernel
theorem dX12_decide_150 : decode cX12_decide 150 = .ok (.aload_n 0, 1) := by decide +kernel
theorem dX12_decide_151 : decode cX12_decide 151 = .ok (.getfield 59, 3) := by decide +kernel
theorem dX12_decide_154 : decode cX12_decide 154 = .ok (.iconst 0, 1) := by decide +kernel
theorem dX12_decide_155 : decode cX12_decide 155 = .ok (.iaload, 1) := by decide +kernel
theorem dX12_decide_156 : decode cX12_decide 156 = .ok (.iconst (-1), 1) := by decide +kernel
theorem dX12_decide_157 : decode cX12_decide 157 = .ok (.if_icmp .eq 38, 3) := by decide +kernel
theorem dX12_decide_160 : decode cX12_decide 160 = .ok (.aload_n 0, 1) := by decide +kernel
theorem dX12_decide_161 : decode cX12_decide 161 = .ok (.getfield 71, 3) := by decide +kernel
theorem dX12_decide_164 : decode cX12_decide 164 = .ok (.aload_n 0, 1) := by decide +kernel
theorem dX12_decide_165 : decode cX12_decide 165 = .ok (.getfield 59, 3) := by decide +kernel
theorem dX12_decide_168 : decode cX12_decide 168 = .ok (.iconst 0, 1) := by decide +kernel
theorem dX12_decide_169 : decode cX12_decide 169 = .ok (.iaload, 1) := by decide +kernel
theorem dX12_decide_170 : decode cX12_decide 170 = .ok (.iaload, 1) := by decide +kernel
theorem dX12_decide_171 : decode cX12_decide 171 = .ok (.istore_n 2, 1) := by decide +kernel
theorem dX12_decide_172 : decode cX12_decide 172 = .ok (.iload_n 2, 1) := by decide +kernel
theorem dX12_decide_173 : decode cX12_decide 173 = .ok (.bipush 9, 2) := by decide +kernel
theorem dX12_decide_175 : decode cX12_decide 175 = .ok (.if_icmp .eq 20, 3) := by decide +kernel
theorem dX12_decide_178 : decode cX12_decide 178 = .ok (.aload_n 0, 1) := by decide +kernel
theorem dX12_decide_179 : decode cX12_decide 179 = .ok (.getfield 74, 3) := by decide +kernel
theorem dX12_decide_182 : decode cX12_decide 182 = .ok (.iload_n 2, 1) := by decide +kernel
theorem dX12_decide_183 : decode cX12_decide 183 = .ok (.iaload, 1) := by decide +kernel
theorem dX12_decide_184 : decode cX12_decide 184 = .ok (.aload_n 0, 1) := by decide +kernel
theorem dX12_decide_185 : decode cX12_decide 185 = .ok (.getfield 74, 3) := by decide +kernel
theorem dX12_decide_188 : decode cX12_decide 188 = .ok (.iload_n 1, 1) := by decide +kernel
theorem dX12_decide_189 : decode cX12_decide 189 = .ok (.iaload, 1) := by decide +kernel
theorem dX12_decide_190 : decode cX12_decide 190 = .ok (.if_icmp .ne 5, 3) := by decide +kernel
theorem dX12_decide_193 : decode cX12_decide 193 = .ok (.iload_n 2, 1) := by decide +kernel
theorem dX12_decide_194 : decode cX12_decide 194 = .ok (.ireturn, 1) := by decide +kernel
theorem dX12_decide_195 : decode cX12_decide 195 = .ok (.iload_n 1, 1) := by decide +kernel
theorem dX12_decide_196 : decode cX12_decide 196 = .ok (.ireturn, 1) := by decide +kernel
theorem dX12_decideRow_0 : decode cX12_decideRow 0 = .ok (.iconst 0, 1) := by decide +kernel
theorem dX12_decideRow_1 : decode cX12_decideRow 1 = .ok (.istore_n 3, 1) := by decide +kernel
theorem dX12_decideRow_2 : decode cX12_decideRow 2 = .ok (.iload_n 3, 1) := by decide +kernel
theorem dX12_decideRow_3 : decode cX12_decideRow 3 = .ok (.aload_n 0, 1) := by decide +kernel
theorem dX12_decideRow_4 : decode cX12_decideRow 4 = .ok (.getfield 306, 3) := by decide +kernel
theorem dX12_decideRow_7 : decode cX12_decideRow 7 = .ok (.if_icmp .ge 35, 3) := by decide +kernel
theorem dX12_decideRow_10 : decode cX12_decideRow 10 = .ok (.aload_n 0, 1) := by decide +kernel
theorem dX12_decideRow_11 : decode cX12_decideRow 11 = .ok (.getfield 71, 3) := by decide +kernel
theorem dX12_decideRow_14 : decode cX12_decideRow 14 = .ok (.iload_n 3, 1) := by decide +kernel
theorem dX12_decideRow_15 : decode cX12_decideRow 15 = .ok (.aload_n 0, 1) := by decide +kernel
theorem dX12_decideRow_16 : decode cX12_decideRow 16 = .ok (.getfield 68, 3) := by decide +kernel
theorem dX12_decideRow_19 : decode cX12_decideRow 19 = .ok (.bipush 21, 2) := by decide +kernel
theorem dX12_decideRow_21 : decode cX12_decideRow 21 = .ok (.iload_n 2, 1) := by decide +kernel
theorem dX12_decideRow_22 : decode cX12_decideRow 22 = .ok (.imul, 1) := by decide +kernel
theorem dX12_decideRow_23 : decode cX12_decideRow 23 = .ok (.iconst 3, 1) := by decide +kernel
theorem dX12_decideRow_24 : decode cX12_decideRow 24 = .ok (.iload_n 3, 1) := by decide +kernel
theorem dX12_decideRow_25 : decode cX12_decideRow 25 = .ok (.imul, 1) := by decide +kernel
theorem dX12_decideRow_26 : decode cX12_decideRow 26 = .ok (.iadd, 1) := by decide +kernel
theorem dX12_decideRow_27 : decode cX12_decideRow 27 = .ok (.aload_n 0, 1) := by decide +kernel
theorem dX12_decideRow_28 : decode cX12_decideRow 28 = .ok (.iload_n 1, 1) := by decide +kernel
theorem dX12_decideRow_29 : decode cX12_decideRow 29 = .ok (.iload_n 3, 1) := by decide +kernel
theorem dX12_decideRow_30 : decode cX12_decideRow 30 = .ok (.invokevirtual 312, 3) := by decide +kernel
theorem dX12_decideRow_33 : decode cX12_decideRow 33 = .ok (.iadd, 1) := by decide +kernel
theorem dX12_decideRow_34 : decode cX12_decideRow 34 = .ok (.iaload, 1) := by decide +kernel
theorem dX12_decideRow_35 : decode cX12_decideRow 35 = .ok (.iastore, 1) := by decide +kernel
theorem dX12_decideRow_36 : decode cX12_decideRow 36 = .ok (.iinc 3 1, 3) := by decide +kernel
theorem dX12_decideRow_39 : decode cX12_decideRow 39 = .ok (.goto (-37), 3) := by decide +kernel
theorem dX12_decideRow_42 : decode cX12_decideRow 42 = .ok (.aload_n 0, 1) := by decide +kernel
theorem dX12_decideRow_43 : decode cX12_decideRow 43 = .ok (.invokevirtual 352, 3) := by decide +kernel
theorem dX12_decideRow_46 : decode cX12_decideRow 46 = .ok (.ireturn, 1) := by decide +kernel
theorem dX12_decideWith_0 : decode cX12_decideWith 0 = .ok (.aload_n 0, 1) := by decide +kernel
theorem dX12_decideWith_1 : decode cX12_decideWith 1 = .ok (.getfield 71, 3) := by decide +kernel
theorem dX12_decideWith_4 : decode cX12_decideWith 4 = .ok (.iload_n 1, 1) := by decide +kernel
theorem dX12_decideWith_5 : decode cX12_decideWith 5 = .ok (.iaload, 1) := by decide +kernel
theorem dX12_decideWith_6 : decode cX12_decideWith 6 = .ok (.istore_n 3, 1) := by decide +kernel
theorem dX12_decideWith_7 : decode cX12_decideWith 7 = .ok (.aload_n 0, 1) := by decide +kernel
theorem dX12_decideWith_8 : decode cX12_decideWith 8 = .ok (.getfield 71, 3) := by decide +kernel
theorem dX12_decideWith_11 : decode cX12_decideWith 11 = .ok (.iload_n 1, 1) := by decide +kernel
theorem dX12_decideWith_12 : decode cX12_decideWith 12 = .ok (.iload_n 2, 1) := by decide +kernel
theorem dX12_decideWith_13 : decode cX12_decideWith 13 = .ok (.aload_n 0, 1) := by decide +kernel
theorem dX12_decideWith_14 : decode cX12_decideWith 14 = .ok (.getfield 303, 3) := by decide +kernel
theorem dX12_decideWith_17 : decode cX12_decideWith 17 = .ok (.if_icmp .ge 7, 3) := by decide +kernel
theorem dX12_decideWith_20 : decode cX12_decideWith 20 = .ok (.iload_n 2, 1) := by decide +kernel
theorem dX12_decideWith_21 : decode cX12_decideWith 21 = .ok (.goto 5, 3) := by decide +kernel
theorem dX12_decideWith_24 : decode cX12_decideWith 24 = .ok (.bipush 9, 2) := by decide +kernel
theorem dX12_decideWith_26 : decode cX12_decideWith 26 = .ok (.iastore, 1) := by decide +kernel
theorem dX12_decideWith_27 : decode cX12_decideWith 27 = .ok (.aload_n 0, 1) := by decide +kernel
theorem dX12_decideWith_28 : decode cX12_decideWith 28 = .ok (.invokevirtual 352, 3) := by decide +kernel
theorem dX12_decideWith_31 : decode cX12_decideWith 31 = .ok (.istore 4, 2) := by decide +kernel
theorem dX12_decideWith_33 : decode cX12_decideWith 33 = .ok (.aload_n 0, 1) := by decide +kernel
theorem dX12_decideWith_34 : decode cX12_decideWith 34 = .ok (.getfield 71, 3) := by decide +kernel
theorem dX12_decideWith_37 : decode cX12_decideWith 37 = .ok (.iload_n 1, 1) := by decide +kernel
theorem dX12_decideWith_38 : decode cX12_decideWith 38 = .ok (.iload_n 3, 1) := by decide +kernel
theorem dX12_decideWith_39 : decode cX12_decideWith 39 = .ok (.iastore, 1) := by decide +kernel
theorem dX12_decideWith_40 : decode cX12_decideWith 40 = .ok (.iload 4, 2) := by decide +kernel
theorem dX12_decideWith_42 : decode cX12_decideWith 42 = .ok (.ireturn, 1) := by decide +kernel
theorem dX12_decided_0 : decode cX12_decided 0 = .ok (.aload_n 0, 1) := by decide +kernel
theorem dX12_decided_1 : decode cX12_decided 1 = .ok (.iconst 0, 1) := by decide +kernel
theorem dX12_decided_2 : decode cX12_decided 2 = .ok (.putfield 149, 3) := by decide +kernel
theorem dX12_decided_5 : decode cX12_decided 5 = .ok (.aload_n 0, 1) := by decide +kernel
theorem dX12_decided_6 : decode cX12_decided 6 = .ok (.invokevirtual 319, 3) := by decide +kernel
theorem dX12_decided_9 : decode cX12_decided 9 = .ok (.istore_n 1, 1) := by decide +kernel
theorem dX12_decided_10 : decode cX12_decided 10 = .ok (.aload_n 0, 1) := by decide +kernel
theorem dX12_decided_11 : decode cX12_decided 11 = .ok (.iconst 0, 1) := by decide +kernel
theorem dX12_decided_12 : decode cX12_decided 12 = .ok (.putfield 153, 3) := by decide +kernel
theorem dX12_decided_15 : decode cX12_decided 15 = .ok (.iload_n 1, 1) := by decide +kernel
theorem dX12_decided_16 : decode cX12_decided 16 = .ok (.iconst (-1), 1) := by decide +kernel
theorem dX12_decided_17 : decode cX12_decided 17 = .ok (.if_icmp .ne 7, 3) := by decide +kernel
theorem dX12_decided_20 : decode cX12_decided 20 = .ok (.iconst (-1), 1) := by decide +kernel
theorem dX12_decided_21 : decode cX12_decided 21 = .ok (.goto 9, 3) := by decide +kernel
theorem dX12_decided_24 : decode cX12_decided 24 = .ok (.aload_n 0, 1) := by decide +kernel
theorem dX12_decided_25 : decode cX12_decided 25 = .ok (.iload_n 1, 1) := by decide +kernel
theorem dX12_decided_26 : decode cX12_decided 26 = .ok (.iconst 0, 1) := by decide +kernel
theorem dX12_decided_27 : decode cX12_decided 27 = .ok (.invokevirtual 355, 3) := by decide +kernel
theorem dX12_decided_30 : decode cX12_decided 30 = .ok (.ireturn, 1) := by decide +kernel
theorem dX12_draw_0 : decode cX12_draw 0 = .ok (.aload_n 0, 1) := by decide +kernel
theorem dX12_draw_1 : decode cX12_draw 1 = .ok (.aload_n 0, 1) := by decide +kernel
theorem dX12_draw_2 : decode cX12_draw 2 = .ok (.getfield 482, 3) := by decide +kernel
theorem dX12_draw_5 : decode cX12_draw 5 = .ok (.ldc_w 485, 3) := by decide +kernel
theorem dX12_draw_8 : decode cX12_draw 8 = .ok (.imul, 1) := by decide +kernel
theorem dX12_draw_9 : decode cX12_draw 9 = .ok (.sipush 12345, 3) := by decide +kernel
theorem dX12_draw_12 : decode cX12_draw 12 = .ok (.iadd, 1) := by decide +kernel
theorem dX12_draw_13 : decode cX12_draw 13 = .ok (.putfield 482, 3) := by decide +kernel
theorem dX12_draw_16 : decode cX12_draw 16 = .ok (.aload_n 0, 1) := by decide +kernel
theorem dX12_draw_17 : decode cX12_draw 17 = .ok (.getfield 482, 3) := by decide +kernel
theorem dX12_draw_20 : decode cX12_draw 20 = .ok (.bipush 8, 2) := by decide +kernel
theorem dX12_draw_22 : decode cX12_draw 22 = .ok (.iushr, 1) := by decide +kernel
theorem dX12_draw_23 : decode cX12_draw 23 = .ok (.bipush 20, 2) := by decide +kernel
theorem dX12_draw_25 : decode cX12_draw 25 = .ok (.irem, 1) := by decide +kernel
theorem dX12_draw_26 : decode cX12_draw 26 = .ok (.ireturn, 1) := by decide +kernel
theorem dX12_end_0 : decode cX12_end 0 = .ok (.aload_n 0, 1) := by decide +kernel
theorem dX12_end_1 : decode cX12_end 1 = .ok (.iconst 0, 1) := by decide +kernel
theorem dX12_end_2 : decode cX12_end 2 = .ok (.putfield 149, 3) := by decide +kernel
theorem dX12_end_5 : decode cX12_end 5 = .ok (.iload_n 1, 1) := by decide +kernel
theorem dX12_end_6 : decode cX12_end 6 = .ok (.ifCond .lt 11, 3) := by decide +kernel
theorem dX12_end_9 : decode cX12_end 9 = .ok (.iload_n 1, 1) := by decide +kernel
theorem dX12_end_10 : decode cX12_end 10 = .ok (.aload_n 0, 1) := by decide +kernel
theorem dX12_end_11 : decode cX12_end 11 = .ok (.getfield 153, 3) := by decide +kernel
theorem dX12_end_14 : decode cX12_end 14 = .ok (.if_icmp .le 5, 3) := by decide +kernel
theorem dX12_end_17 : decode cX12_end 17 = .ok (.iconst 0, 1) := by decide +kernel
theorem dX12_end_18 : decode cX12_end 18 = .ok (.ireturn, 1) := by decide +kernel
theorem dX12_end_19 : decode cX12_end 19 = .ok (.aload_n 0, 1) := by decide +kernel
theorem dX12_end_20 : decode cX12_end 20 = .ok (.iload_n 1, 1) := by decide +kernel
theorem dX12_end_21 : decode cX12_end 21 = .ok (.putfield 153, 3) := by decide +kernel
theorem dX12_end_24 : decode cX12_end 24 = .ok (.iconst 1, 1) := by decide +kernel
theorem dX12_end_25 : decode cX12_end 25 = .ok (.ireturn, 1) := by decide +kernel
theorem dX12_exchange_0 : decode cX12_exchange 0 = .ok (.aload_n 0, 1) := by decide +kernel
theorem dX12_exchange_1 : decode cX12_exchange 1 = .ok (.getfield 89, 3) := by decide +kernel
theorem dX12_exchange_4 : decode cX12_exchange 4 = .ok (.iload_n 1, 1) := by decide +kernel
theorem dX12_exchange_5 : decode cX12_exchange 5 = .ok (.iaload, 1) := by decide +kernel
theorem dX12_exchange_6 : decode cX12_exchange 6 = .ok (.istore_n 3, 1) := by decide +kernel
theorem dX12_exchange_7 : decode cX12_exchange 7 = .ok (.aload_n 0, 1) := by decide +kernel
theorem dX12_exchange_8 : decode cX12_exchange 8 = .ok (.getfield 89, 3) := by decide +kernel
theorem dX12_exchange_11 : decode cX12_exchange 11 = .ok (.iload_n 1, 1) := by decide +kernel
theorem dX12_exchange_12 : decode cX12_exchange 12 = .ok (.aload_n 0, 1) := by decide +kernel
theorem dX12_exchange_13 : decode cX12_exchange 13 = .ok (.getfield 89, 3) := by decide +kernel
theorem dX12_exchange_16 : decode cX12_exchange 16 = .ok (.iload_n 2, 1) := by decide +kernel
theorem dX12_exchange_17 : decode cX12_exchange 17 = .ok (.iaload, 1) := by decide +kernel
theorem dX12_exchange_18 : decode cX12_exchange 18 = .ok (.iastore, 1) := by decide +kernel
theorem dX12_exchange_19 : decode cX12_exchange 19 = .ok (.aload_n 0, 1) := by decide +kernel
theorem dX12_exchange_20 : decode cX12_exchange 20 = .ok (.getfield 89, 3) := by decide +kernel
theorem dX12_exchange_23 : decode cX12_exchange 23 = .ok (.iload_n 2, 1) := by decide +kernel
theorem dX12_exchange_24 : decode cX12_exchange 24 = .ok (.iload_n 3, 1) := by decide +kernel
theorem dX12_exchange_25 : decode cX12_exchange 25 = .ok (.iastore, 1) := by decide +kernel
theorem dX12_exchange_26 : decode cX12_exchange 26 = .ok (.return_, 1) := by decide +kernel
theorem dX12_fault_0 : decode cX12_fault 0 = .ok (.aload_n 0, 1) := by decide +kernel
theorem dX12_fault_1 : decode cX12_fault 1 = .ok (.iconst 0, 1) := by decide +kernel
theorem dX12_fault_2 : decode cX12_fault 2 = .ok (.putfield 149, 3) := by decide +kernel
theorem dX12_fault_5 : decode cX12_fault 5 = .ok (.aload_n 0, 1) := by decide +kernel
theorem dX12_fault_6 : decode cX12_fault 6 = .ok (.getfield 197, 3) := by decide +kernel
theorem dX12_fault_9 : decode cX12_fault 9 = .ok (.ireturn, 1) := by decide +kernel
theorem dX12_feed_0 : decode cX12_feed 0 = .ok (.aload_n 0, 1) := by decide +kernel
theorem dX12_feed_1 : decode cX12_feed 1 = .ok (.iconst 0, 1) := by decide +kernel
theorem dX12_feed_2 : decode cX12_feed 2 = .ok (.putfield 149, 3) := by decide +kernel
theorem dX12_feed_5 : decode cX12_feed 5 = .ok (.aload_n 0, 1) := by decide +kernel
theorem dX12_feed_6 : decode cX12_feed 6 = .ok (.getfield 153, 3) := by decide +kernel
theorem dX12_feed_9 : decode cX12_feed 9 = .ok (.bipush 20, 2) := by decide +kernel
theorem dX12_feed_11 : decode cX12_feed 11 = .ok (.iadd, 1) := by decide +kernel
theorem dX12_feed_12 : decode cX12_feed 12 = .ok (.sipush 740, 3) := by decide +kernel
theorem dX12_feed_15 : decode cX12_feed 15 = .ok (.if_icmp .le 5, 3) := by decide +kernel
theorem dX12_feed_18 : decode cX12_feed 18 = .ok (.iconst (-1), 1) := by decide +kernel
theorem dX12_feed_19 : decode cX12_feed 19 = .ok (.ireturn, 1) := by decide +kernel
theorem dX12_feed_20 : decode cX12_feed 20 = .ok (.aload_n 0, 1) := by decide +kernel
theorem dX12_feed_21 : decode cX12_feed 21 = .ok (.iload_n 1, 1) := by decide +kernel
theorem dX12_feed_22 : decode cX12_feed 22 = .ok (.invokevirtual 156, 3) := by decide +kernel
theorem dX12_feed_25 : decode cX12_feed 25 = .ok (.aload_n 0, 1) := by decide +kernel
theorem dX12_feed_26 : decode cX12_feed 26 = .ok (.iload_n 2, 1) := by decide +kernel
theorem dX12_feed_27 : decode cX12_feed 27 = .ok (.invokevirtual 156, 3) := by decide +kernel
theorem dX12_feed_30 : decode cX12_feed 30 = .ok (.aload_n 0, 1) := by decide +kernel
theorem dX12_feed_31 : decode cX12_feed 31 = .ok (.iload_n 3, 1) := by decide +kernel
theorem dX12_feed_32 : decode cX12_feed 32 = .ok (.invokevirtual 156, 3) := by decide +kernel
theorem dX12_feed_35 : decode cX12_feed 35 = .ok (.aload_n 0, 1) := by decide +kernel
theorem dX12_feed_36 : decode cX12_feed 36 = .ok (.iload 4, 2) := by decide +kernel
theorem dX12_feed_38 : decode cX12_feed 38 = .ok (.invokevirtual 156, 3) := by decide +kernel
theorem dX12_feed_41 : decode cX12_feed 41 = .ok (.aload_n 0, 1) := by decide +kernel
theorem dX12_feed_42 : decode cX12_feed 42 = .ok (.iload 5, 2) := by decide +kernel
theorem dX12_feed_44 : decode cX12_feed 44 = .ok (.invokevirtual 156, 3) := by decide +kernel
theorem dX12_feed_47 : decode cX12_feed 47 = .ok (.aload_n 0, 1) := by decide +kernel
theorem dX12_feed_48 : decode cX12_feed 48 = .ok (.getfield 153, 3) := by decide +kernel
theorem dX12_feed_51 : decode cX12_feed 51 = .ok (.ireturn, 1) := by decide +kernel
theorem dX12_findTruth_0 : decode cX12_findTruth 0 = .ok (.iconst 0, 1) := by decide +kernel
theorem dX12_findTruth_1 : decode cX12_findTruth 1 = .ok (.istore_n 1, 1) := by decide +kernel
theorem dX12_findTruth_2 : decode cX12_findTruth 2 = .ok (.iload_n 1, 1) := by decide +kernel
theorem dX12_findTruth_3 : decode cX12_findTruth 3 = .ok (.aload_n 0, 1) := by decide +kernel
theorem dX12_findTruth_4 : decode cX12_findTruth 4 = .ok (.getfield 20, 3) := by decide +kernel
theorem dX12_findTruth_7 : decode cX12_findTruth 7 = .ok (.iconst 1, 1) := by decide +kernel
theorem dX12_findTruth_8 : decode cX12_findTruth 8 = .ok (.iaload, 1) := by decide +kernel
theorem dX12_findTruth_9 : decode cX12_findTruth 9 = .ok (.if_icmp .ge 27, 3) := by decide +kernel
theorem dX12_findTruth_12 : decode cX12_findTruth 12 = .ok (.aload_n 0, 1) := by decide +kernel
theorem dX12_findTruth_13 : decode cX12_findTruth 13 = .ok (.getfield 13, 3) := by decide +kernel
theorem dX12_findTruth_16 : decode cX12_findTruth 16 = .ok (.iconst 3, 1) := by decide +kernel
theorem dX12_findTruth_17 : decode cX12_findTruth 17 = .ok (.iload_n 1, 1) := by decide +kernel
theorem dX12_findTruth_18 : decode cX12_findTruth 18 = .ok (.iadd, 1) := by decide +kernel
theorem dX12_findTruth_19 : decode cX12_findTruth 19 = .ok (.laload, 1) := by decide +kernel
theorem dX12_findTruth_20 : decode cX12_findTruth 20 = .ok (.aload_n 0, 1) := by decide +kernel
theorem dX12_findTruth_21 : decode cX12_findTruth 21 = .ok (.getfield 179, 3) := by decide +kernel
theorem dX12_findTruth_24 : decode cX12_findTruth 24 = .ok (.lcmp, 1) := by decide +kernel
theorem dX12_findTruth_25 : decode cX12_findTruth 25 = .ok (.ifCond .ne 5, 3) := by decide +kernel
theorem dX12_findTruth_28 : decode cX12_findTruth 28 = .ok (.iload_n 1, 1) := by decide +kernel
theorem dX12_findTruth_29 : decode cX12_findTruth 29 = .ok (.ireturn, 1) := by decide +kernel
theorem dX12_findTruth_30 : decode cX12_findTruth 30 = .ok (.iinc 1 1, 3) := by decide +kernel
theorem dX12_findTruth_33 : decode cX12_findTruth 33 = .ok (.goto (-31), 3) := by decide +kernel
theorem dX12_findTruth_36 : decode cX12_findTruth 36 = .ok (.iconst (-1), 1) := by decide +kernel
theorem dX12_findTruth_37 : decode cX12_findTruth 37 = .ok (.ireturn, 1) := by decide +kernel
theorem dX12_findVoter_0 : decode cX12_findVoter 0 = .ok (.iconst 0, 1) := by decide +kernel
theorem dX12_findVoter_1 : decode cX12_findVoter 1 = .ok (.istore_n 1, 1) := by decide +kernel
theorem dX12_findVoter_2 : decode cX12_findVoter 2 = .ok (.iload_n 1, 1) := by decide +kernel
theorem dX12_findVoter_3 : decode cX12_findVoter 3 = .ok (.aload_n 0, 1) := by decide +kernel
theorem dX12_findVoter_4 : decode cX12_findVoter 4 = .ok (.getfield 23, 3) := by decide +kernel
theorem dX12_findVoter_7 : decode cX12_findVoter 7 = .ok (.iconst 1, 1) := by decide +kernel
theorem dX12_findVoter_8 : decode cX12_findVoter 8 = .ok (.iaload, 1) := by decide +kernel
theorem dX12_findVoter_9 : decode cX12_findVoter 9 = .ok (.if_icmp .ge 28, 3) := by decide +kernel
theorem dX12_findVoter_12 : decode cX12_findVoter 12 = .ok (.aload_n 0, 1) := by decide +kernel
theorem dX12_findVoter_13 : decode cX12_findVoter 13 = .ok (.getfield 17, 3) := by decide +kernel
theorem dX12_findVoter_16 : decode cX12_findVoter 16 = .ok (.bipush 7, 2) := by decide +kernel
theorem dX12_findVoter_18 : decode cX12_findVoter 18 = .ok (.iload_n 1, 1) := by decide +kernel
theorem dX12_findVoter_19 : decode cX12_findVoter 19 = .ok (.iadd, 1) := by decide +kernel
theorem dX12_findVoter_20 : decode cX12_findVoter 20 = .ok (.laload, 1) := by decide +kernel
theorem dX12_findVoter_21 : decode cX12_findVoter 21 = .ok (.aload_n 0, 1) := by decide +kernel
theorem dX12_findVoter_22 : decode cX12_findVoter 22 = .ok (.getfield 179, 3) := by decide +kernel
theorem dX12_findVoter_25 : decode cX12_findVoter 25 = .ok (.lcmp, 1) := by decide +kernel
theorem dX12_findVoter_26 : decode cX12_findVoter 26 = .ok (.ifCond .ne 5, 3) := by decide +kernel
theorem dX12_findVoter_29 : decode cX12_findVoter 29 = .ok (.iload_n 1, 1) := by decide +kernel
theorem dX12_findVoter_30 : decode cX12_findVoter 30 = .ok (.ireturn, 1) := by decide +kernel
theorem dX12_findVoter_31 : decode cX12_findVoter 31 = .ok (.iinc 1 1, 3) := by decide +kernel
theorem dX12_findVoter_34 : decode cX12_findVoter 34 = .ok (.goto (-32), 3) := by decide +kernel
theorem dX12_findVoter_37 : decode cX12_findVoter 37 = .ok (.iconst (-1), 1) := by decide +kernel
theorem dX12_findVoter_38 : decode cX12_findVoter 38 = .ok (.ireturn, 1) := by decide +kernel
theorem dX12_fit_0 : decode cX12_fit 0 = .ok (.aload_n 0, 1) := by decide +kernel
theorem dX12_fit_1 : decode cX12_fit 1 = .ok (.iconst 0, 1) := by decide +kernel
theorem dX12_fit_2 : decode cX12_fit 2 = .ok (.putfield 149, 3) := by decide +kernel
theorem dX12_fit_5 : decode cX12_fit 5 = .ok (.aload_n 0, 1) := by decide +kernel
theorem dX12_fit_6 : decode cX12_fit 6 = .ok (.getfield 306, 3) := by decide +kernel
theorem dX12_fit_9 : decode cX12_fit 9 = .ok (.ifCond .ne 7, 3) := by decide +kernel
theorem dX12_fit_12 : decode cX12_fit 12 = .ok (.iconst (-1), 1) := by decide +kernel
theorem dX12_fit_13 : decode cX12_fit 13 = .ok (.goto 16, 3) := by decide +kernel
theorem dX12_fit_16 : decode cX12_fit 16 = .ok (.aload_n 0, 1) := by decide +kernel
theorem dX12_fit_17 : decode cX12_fit 17 = .ok (.iconst 0, 1) := by decide +kernel
theorem dX12_fit_18 : decode cX12_fit 18 = .ok (.invokevirtual 384, 3) := by decide +kernel
theorem dX12_fit_21 : decode cX12_fit 21 = .ok (.ifCond .eq 7, 3) := by decide +kernel
theorem dX12_fit_24 : decode cX12_fit 24 = .ok (.iconst 1, 1) := by decide +kernel
theorem dX12_fit_25 : decode cX12_fit 25 = .ok (.goto 4, 3) := by decide +kernel
theorem dX12_fit_28 : decode cX12_fit 28 = .ok (.iconst 0, 1) := by decide +kernel
theorem dX12_fit_29 : decode cX12_fit 29 = .ok (.ireturn, 1) := by decide +kernel
theorem dX12_fitAt_0 : decode cX12_fitAt 0 = .ok (.aload_n 0, 1) := by decide +kernel
theorem dX12_fitAt_1 : decode cX12_fitAt 1 = .ok (.iconst 0, 1) := by decide +kernel
theorem dX12_fitAt_2 : decode cX12_fitAt 2 = .ok (.putfield 149, 3) := by decide +kernel
theorem dX12_fitAt_5 : decode cX12_fitAt 5 = .ok (.iload_n 1, 1) := by decide +kernel
theorem dX12_fitAt_6 : decode cX12_fitAt 6 = .ok (.ifCond .lt 38, 3) := by decide +kernel
theorem dX12_fitAt_9 : decode cX12_fitAt 9 = .ok (.iload_n 1, 1) := by decide +kernel
theorem dX12_fitAt_10 : decode cX12_fitAt 10 = .ok (.aload_n 0, 1) := by decide +kernel
theorem dX12_fitAt_11 : decode cX12_fitAt 11 = .ok (.getfield 479, 3) := by decide +kernel
theorem dX12_fitAt_14 : decode cX12_fitAt 14 = .ok (.if_icmp .ge 30, 3) := by decide +kernel
theorem dX12_fitAt_17 : decode cX12_fitAt 17 = .ok (.iload_n 2, 1) := by decide +kernel
theorem dX12_fitAt_18 : decode cX12_fitAt 18 = .ok (.ifCond .lt 26, 3) := by decide +kernel
theorem dX12_fitAt_21 : decode cX12_fitAt 21 = .ok (.iload_n 2, 1) := by decide +kernel
theorem dX12_fitAt_22 : decode cX12_fitAt 22 = .ok (.aload_n 0, 1) := by decide +kernel
theorem dX12_fitAt_23 : decode cX12_fitAt 23 = .ok (.getfield 146, 3) := by decide +kernel
theorem dX12_fitAt_26 : decode cX12_fitAt 26 = .ok (.iload_n 1, 1) := by decide +kernel
theorem dX12_fitAt_27 : decode cX12_fitAt 27 = .ok (.iaload, 1) := by decide +kernel
theorem dX12_fitAt_28 : decode cX12_fitAt 28 = .ok (.if_icmp .ge 16, 3) := by decide +kernel
theorem dX12_fitAt_31 : decode cX12_fitAt 31 = .ok (.aload_n 0, 1) := by decide +kernel
theorem dX12_fitAt_32 : decode cX12_fitAt 32 = .ok (.getfield 143, 3) := by decide +kernel
theorem dX12_fitAt_35 : decode cX12_fitAt 35 = .ok (.iconst 3, 1) := by decide +kernel
theorem dX12_fitAt_36 : decode cX12_fitAt 36 = .ok (.iload_n 1, 1) := by decide +kernel
theorem dX12_fitAt_37 : decode cX12_fitAt 37 = .ok (.imul, 1) := by decide +kernel
theorem dX12_fitAt_38 : decode cX12_fitAt 38 = .ok (.iload_n 2, 1) := by decide +kernel
theorem dX12_fitAt_39 : decode cX12_fitAt 39 = .ok (.iadd, 1) := by decide +kernel
theorem dX12_fitAt_40 : decode cX12_fitAt 40 = .ok (.iaload, 1) := by decide +kernel
theorem dX12_fitAt_41 : decode cX12_fitAt 41 = .ok (.goto 4, 3) := by decide +kernel
theorem dX12_fitAt_44 : decode cX12_fitAt 44 = .ok (.iconst (-1), 1) := by decide +kernel
theorem dX12_fitAt_45 : decode cX12_fitAt 45 = .ok (.ireturn, 1) := by decide +kernel
theorem dX12_fits_0 : decode cX12_fits 0 = .ok (.aload_n 0, 1) := by decide +kernel
theorem dX12_fits_1 : decode cX12_fits 1 = .ok (.iconst 0, 1) := by decide +kernel
theorem dX12_fits_2 : decode cX12_fits 2 = .ok (.putfield 149, 3) := by decide +kernel
theorem dX12_fits_5 : decode cX12_fits 5 = .ok (.iconst 0, 1) := by decide +kernel
theorem dX12_fits_6 : decode cX12_fits 6 = .ok (.istore_n 1, 1) := by decide +kernel
theorem dX12_fits_7 : decode cX12_fits 7 = .ok (.iconst 0, 1) := by decide +kernel
theorem dX12_fits_8 : decode cX12_fits 8 = .ok (.istore_n 2, 1) := by decide +kernel
theorem dX12_fits_9 : decode cX12_fits 9 = .ok (.iload_n 2, 1) := by decide +kernel
theorem dX12_fits_10 : decode cX12_fits 10 = .ok (.aload_n 0, 1) := by decide +kernel
theorem dX12_fits_11 : decode cX12_fits 11 = .ok (.getfield 306, 3) := by decide +kernel
theorem dX12_fits_14 : decode cX12_fits 14 = .ok (.if_icmp .ge 18, 3) := by decide +kernel
theorem dX12_fits_17 : decode cX12_fits 17 = .ok (.iload_n 1, 1) := by decide +kernel
theorem dX12_fits_18 : decode cX12_fits 18 = .ok (.aload_n 0, 1) := by decide +kernel
theorem dX12_fits_19 : decode cX12_fits 19 = .ok (.getfield 29, 3) := by decide +kernel
theorem dX12_fits_22 : decode cX12_fits 22 = .ok (.iload_n 2, 1) := by decide +kernel
theorem dX12_fits_23 : decode cX12_fits 23 = .ok (.iaload, 1) := by decide +kernel
theorem dX12_fits_24 : decode cX12_fits 24 = .ok (.iadd, 1) := by decide +kernel
theorem dX12_fits_25 : decode cX12_fits 25 = .ok (.istore_n 1, 1) := by decide +kernel
theorem dX12_fits_26 : decode cX12_fits 26 = .ok (.iinc 2 1, 3) := by decide +kernel
theorem dX12_fits_29 : decode cX12_fits 29 = .ok (.goto (-20), 3) := by decide +kernel
theorem dX12_fits_32 : decode cX12_fits 32 = .ok (.aload_n 0, 1) := by decide +kernel
theorem dX12_fits_33 : decode cX12_fits 33 = .ok (.getfield 306, 3) := by decide +kernel
theorem dX12_fits_36 : decode cX12_fits 36 = .ok (.ifCond .eq 9, 3) := by decide +kernel
theorem dX12_fits_39 : decode cX12_fits 39 = .ok (.iload_n 1, 1) := by decide +kernel
theorem dX12_fits_40 : decode cX12_fits 40 = .ok (.bipush 6, 2) := by decide +kernel
theorem dX12_fits_42 : decode cX12_fits 42 = .ok (.if_icmp .le 5, 3) := by decide +kernel
theorem dX12_fits_45 : decode cX12_fits 45 = .ok (.iconst (-1), 1) := by decide +kernel
theorem dX12_fits_46 : decode cX12_fits 46 = .ok (.ireturn, 1) := by decide +kernel
theorem dX12_fits_47 : decode cX12_fits 47 = .ok (.iconst 1, 1) := by decide +kernel
theorem dX12_fits_48 : decode cX12_fits 48 = .ok (.istore_n 2, 1) := by decide +kernel
theorem dX12_fits_49 : decode cX12_fits 49 = .ok (.iconst 0, 1) := by decide +kernel
theorem dX12_fits_50 : decode cX12_fits 50 = .ok (.istore_n 3, 1) := by decide +kernel
theorem dX12_fits_51 : decode cX12_fits 51 = .ok (.iload_n 3, 1) := by decide +kernel
theorem dX12_fits_52 : decode cX12_fits 52 = .ok (.iload_n 1, 1) := by decide +kernel
theorem dX12_fits_53 : decode cX12_fits 53 = .ok (.if_icmp .ge 18, 3) := by decide +kernel
theorem dX12_fits_56 : decode cX12_fits 56 = .ok (.iload_n 2, 1) := by decide +kernel
theorem dX12_fits_57 : decode cX12_fits 57 = .ok (.aload_n 0, 1) := by decide +kernel
theorem dX12_fits_58 : decode cX12_fits 58 = .ok (.getfield 303, 3) := by decide +kernel
theorem dX12_fits_61 : decode cX12_fits 61 = .ok (.iconst 1, 1) := by decide +kernel
theorem dX12_fits_62 : decode cX12_fits 62 = .ok (.iadd, 1) := by decide +kernel
theorem dX12_fits_63 : decode cX12_fits 63 = .ok (.imul, 1) := by decide +kernel
theorem dX12_fits_64 : decode cX12_fits 64 = .ok (.istore_n 2, 1) := by decide +kernel
theorem dX12_fits_65 : decode cX12_fits 65 = .ok (.iinc 3 1, 3) := by decide +kernel
theorem dX12_fits_68 : decode cX12_fits 68 = .ok (.goto (-17), 3) := by decide +kernel
theorem dX12_fits_71 : decode cX12_fits 71 = .ok (.iconst 0, 1) := by decide +kernel
theorem dX12_fits_72 : decode cX12_fits 72 = .ok (.istore_n 3, 1) := by decide +kernel
theorem dX12_fits_73 : decode cX12_fits 73 = .ok (.ldc2_w 429, 3) := by decide +kernel
theorem dX12_fits_76 : decode cX12_fits 76 = .ok (.lstore 4, 2) := by decide +kernel
theorem dX12_fits_78 : decode cX12_fits 78 = .ok (.iconst 0, 1) := by decide +kernel
theorem dX12_fits_79 : decode cX12_fits 79 = .ok (.istore 6, 2) := by decide +kernel
theorem dX12_fits_81 : decode cX12_fits 81 = .ok (.iload 6, 2) := by decide +kernel
theorem dX12_fits_83 : decode cX12_fits 83 = .ok (.iload_n 2, 1) := by decide +kernel
theorem dX12_fits_84 : decode cX12_fits 84 = .ok (.if_icmp .ge 176, 3) := by decide +kernel
theorem dX12_fits_87 : decode cX12_fits 87 = .ok (.iload 6, 2) := by decide +kernel
theorem dX12_fits_89 : decode cX12_fits 89 = .ok (.istore 7, 2) := by decide +kernel
theorem dX12_fits_91 : decode cX12_fits 91 = .ok (.aload_n 0, 1) := by decide +kernel
theorem dX12_fits_92 : decode cX12_fits 92 = .ok (.getfield 306, 3) := by decide +kernel
theorem dX12_fits_95 : decode cX12_fits 95 = .ok (.iconst 1, 1) := by decide +kernel
theorem dX12_fits_96 : decode cX12_fits 96 = .ok (.isub, 1) := by decide +kernel
theorem dX12_fits_97 : decode cX12_fits 97 = .ok (.istore 8, 2) := by decide +kernel
theorem dX12_fits_99 : decode cX12_fits 99 = .ok (.iload 8, 2) := by decide +kernel
theorem dX12_fits_101 : decode cX12_fits 101 = .ok (.ifCond .lt 84, 3) := by decide +kernel
theorem dX12_fits_104 : decode cX12_fits 104 = .ok (.aload_n 0, 1) := by decide +kernel
theorem dX12_fits_105 : decode cX12_fits 105 = .ok (.getfield 29, 3) := by decide +kernel
theorem dX12_fits_108 : decode cX12_fits 108 = .ok (.iload 8, 2) := by decide +kernel
theorem dX12_fits_110 : decode cX12_fits 110 = .ok (.iaload, 1) := by decide +kernel
theorem dX12_fits_111 : decode cX12_fits 111 = .ok (.iconst 1, 1) := by decide +kernel
theorem dX12_fits_112 : decode cX12_fits 112 = .ok (.isub, 1) := by decide +kernel
theorem dX12_fits_113 : decode cX12_fits 113 = .ok (.istore 9, 2) := by decide +kernel
theorem dX12_fits_115 : decode cX12_fits 115 = .ok (.iload 9, 2) := by decide +kernel
theorem dX12_fits_117 : decode cX12_fits 117 = .ok (.ifCond .lt 62, 3) := by decide +kernel
theorem dX12_fits_120 : decode cX12_fits 120 = .ok (.iload 7, 2) := by decide +kernel
theorem dX12_fits_122 : decode cX12_fits 122 = .ok (.aload_n 0, 1) := by decide +kernel
theorem dX12_fits_123 : decode cX12_fits 123 = .ok (.getfield 303, 3) := by decide +kernel
theorem dX12_fits_126 : decode cX12_fits 126 = .ok (.iconst 1, 1) := by decide +kernel
theorem dX12_fits_127 : decode cX12_fits 127 = .ok (.iadd, 1) := by decide +kernel
theorem dX12_fits_128 : decode cX12_fits 128 = .ok (.irem, 1) := by decide +kernel
theorem dX12_fits_129 : decode cX12_fits 129 = .ok (.istore 10, 2) := by decide +kernel
theorem dX12_fits_131 : decode cX12_fits 131 = .ok (.iload 7, 2) := by decide +kernel
theorem dX12_fits_133 : decode cX12_fits 133 = .ok (.aload_n 0, 1) := by decide +kernel
theorem dX12_fits_134 : decode cX12_fits 134 = .ok (.getfield 303, 3) := by decide +kernel
theorem dX12_fits_137 : decode cX12_fits 137 = .ok (.iconst 1, 1) := by decide +kernel
theorem dX12_fits_138 : decode cX12_fits 138 = .ok (.iadd, 1) := by decide +kernel
theorem dX12_fits_139 : decode cX12_fits 139 = .ok (.idiv, 1) := by decide +kernel
theorem dX12_fits_140 : decode cX12_fits 140 = .ok (.istore 7, 2) := by decide +kernel
theorem dX12_fits_142 : decode cX12_fits 142 = .ok (.aload_n 0, 1) := by decide +kernel
theorem dX12_fits_143 : decode cX12_fits 143 = .ok (.getfield 68, 3) := by decide +kernel
theorem dX12_fits_146 : decode cX12_fits 146 = .ok (.bipush 21, 2) := by decide +kernel
theorem dX12_fits_148 : decode cX12_fits 148 = .ok (.iconst 3, 1) := by decide +kernel
theorem dX12_fits_149 : decode cX12_fits 149 = .ok (.iload 8, 2) := by decide +kernel
theorem dX12_fits_151 : decode cX12_fits 151 = .ok (.imul, 1) := by decide +kernel
theorem dX12_fits_152 : decode cX12_fits 152 = .ok (.iadd, 1) := by decide +kernel
theorem dX12_fits_153 : decode cX12_fits 153 = .ok (.iload 9, 2) := by decide +kernel
theorem dX12_fits_155 : decode cX12_fits 155 = .ok (.iadd, 1) := by decide +kernel
theorem dX12_fits_156 : decode cX12_fits 156 = .ok (.iload 10, 2) := by decide +kernel
theorem dX12_fits_158 : decode cX12_fits 158 = .ok (.aload_n 0, 1) := by decide +kernel
theorem dX12_fits_159 : decode cX12_fits 159 = .ok (.getfield 303, 3) := by decide +kernel
theorem dX12_fits_162 : decode cX12_fits 162 = .ok (.if_icmp .ne 8, 3) := by decide +kernel
theorem dX12_fits_165 : decode cX12_fits 165 = .ok (.bipush 9, 2) := by decide +kernel
theorem dX12_fits_167 : decode cX12_fits 167 = .ok (.goto 5, 3) := by decide +kernel
theorem dX12_fits_170 : decode cX12_fits 170 = .ok (.iload 10, 2) := by decide +kernel
theorem dX12_fits_172 : decode cX12_fits 172 = .ok (.iastore, 1) := by decide +kernel
theorem dX12_fits_173 : decode cX12_fits 173 = .ok (.iinc 9 (-1), 3) := by decide +kernel
theorem dX12_fits_176 : decode cX12_fits 176 = .ok (.goto (-61), 3) := by decide +kernel
theorem dX12_fits_179 : decode cX12_fits 179 = .ok (.iinc 8 (-1), 3) := by decide +kernel
theorem dX12_fits_182 : decode cX12_fits 182 = .ok (.goto (-83), 3) := by decide +kernel
theorem dX12_fits_185 : decode cX12_fits 185 = .ok (.aload_n 0, 1) := by decide +kernel
theorem dX12_fits_186 : decode cX12_fits 186 = .ok (.iconst 1, 1) := by decide +kernel
theorem dX12_fits_187 : decode cX12_fits 187 = .ok (.invokevirtual 384, 3) := by decide +kernel
theorem dX12_fits_190 : decode cX12_fits 190 = .ok (.ifCond .ne 6, 3) := by decide +kernel
theorem dX12_fits_193 : decode cX12_fits 193 = .ok (.goto 61, 3) := by decide +kernel
theorem dX12_fits_196 : decode cX12_fits 196 = .ok (.iinc 3 1, 3) := by decide +kernel
theorem dX12_fits_199 : decode cX12_fits 199 = .ok (.aload_n 0, 1) := by decide +kernel
theorem dX12_fits_200 : decode cX12_fits 200 = .ok (.iconst 1, 1) := by decide +kernel
theorem dX12_fits_201 : decode cX12_fits 201 = .ok (.invokevirtual 362, 3) := by decide +kernel
theorem dX12_fits_204 : decode cX12_fits 204 = .ok (.lstore 8, 2) := by decide +kernel
theorem dX12_fits_206 : decode cX12_fits 206 = .ok (.lload 8, 2) := by decide +kernel
theorem dX12_fits_208 : decode cX12_fits 208 = .ok (.lload 4, 2) := by decide +kernel
theorem dX12_fits_210 : decode cX12_fits 210 = .ok (.lcmp, 1) := by decide +kernel
theorem dX12_fits_211 : decode cX12_fits 211 = .ok (.ifCond .lt 6, 3) := by decide +kernel
theorem dX12_fits_214 : decode cX12_fits 214 = .ok (.goto 40, 3) := by decide +kernel
theorem dX12_fits_217 : decode cX12_fits 217 = .ok (.lload 8, 2) := by decide +kernel
theorem dX12_fits_219 : decode cX12_fits 219 = .ok (.lstore 4, 2) := by decide +kernel
theorem dX12_fits_221 : decode cX12_fits 221 = .ok (.iconst 0, 1) := by decide +kernel
theorem dX12_fits_222 : decode cX12_fits 222 = .ok (.istore 10, 2) := by decide +kernel
theorem dX12_fits_224 : decode cX12_fits 224 = .ok (.iload 10, 2) := by decide +kernel
theorem dX12_fits_226 : decode cX12_fits 226 = .ok (.bipush 21, 2) := by decide +kernel
theorem dX12_fits_228 : decode cX12_fits 228 = .ok (.if_icmp .ge 26, 3) := by decide +kernel
theorem dX12_fits_231 : decode cX12_fits 231 = .ok (.aload_n 0, 1) := by decide +kernel
theorem dX12_fits_232 : decode cX12_fits 232 = .ok (.getfield 143, 3) := by decide +kernel
theorem dX12_fits_235 : decode cX12_fits 235 = .ok (.iload 10, 2) := by decide +kernel
theorem dX12_fits_237 : decode cX12_fits 237 = .ok (.aload_n 0, 1) := by decide +kernel
theorem dX12_fits_238 : decode cX12_fits 238 = .ok (.getfield 68, 3) := by decide +kernel
theorem dX12_fits_241 : decode cX12_fits 241 = .ok (.bipush 21, 2) := by decide +kernel
theorem dX12_fits_243 : decode cX12_fits 243 = .ok (.iload 10, 2) := by decide +kernel
theorem dX12_fits_245 : decode cX12_fits 245 = .ok (.iadd, 1) := by decide +kernel
theorem dX12_fits_246 : decode cX12_fits 246 = .ok (.iaload, 1) := by decide +kernel
theorem dX12_fits_247 : decode cX12_fits 247 = .ok (.iastore, 1) := by decide +kernel
theorem dX12_fits_248 : decode cX12_fits 248 = .ok (.iinc 10 1, 3) := by decide +kernel
theorem dX12_fits_251 : decode cX12_fits 251 = .ok (.goto (-27), 3) := by decide +kernel
theorem dX12_fits_254 : decode cX12_fits 254 = .ok (.iinc 6 1, 3) := by decide +kernel
theorem dX12_fits_257 : decode cX12_fits 257 = .ok (.goto (-176), 3) := by decide +kernel
theorem dX12_fits_260 : decode cX12_fits 260 = .ok (.iload_n 3, 1) := by decide +kernel
theorem dX12_fits_261 : decode cX12_fits 261 = .ok (.ifCond .le 43, 3) := by decide +kernel
theorem dX12_fits_264 : decode cX12_fits 264 = .ok (.aload_n 0, 1) := by decide +kernel
theorem dX12_fits_265 : decode cX12_fits 265 = .ok (.aload_n 0, 1) := by decide +kernel
theorem dX12_fits_266 : decode cX12_fits 266 = .ok (.getfield 306, 3) := by decide +kernel
theorem dX12_fits_269 : decode cX12_fits 269 = .ok (.putfield 479, 3) := by decide +kernel
theorem dX12_fits_272 : decode cX12_fits 272 = .ok (.iconst 0, 1) := by decide +kernel
theorem dX12_fits_273 : decode cX12_fits 273 = .ok (.istore 6, 2) := by decide +kernel
theorem dX12_fits_275 : decode cX12_fits 275 = .ok (.iload 6, 2) := by decide +kernel
theorem dX12_fits_277 : decode cX12_fits 277 = .ok (.aload_n 0, 1) := by decide +kernel
theorem dX12_fits_278 : decode cX12_fits 278 = .ok (.getfield 306, 3) := by decide +kernel
theorem dX12_fits_281 : decode cX12_fits 281 = .ok (.if_icmp .ge 23, 3) := by decide +kernel
theorem dX12_fits_284 : decode cX12_fits 284 = .ok (.aload_n 0, 1) := by decide +kernel
theorem dX12_fits_285 : decode cX12_fits 285 = .ok (.getfield 146, 3) := by decide +kernel
theorem dX12_fits_288 : decode cX12_fits 288 = .ok (.iload 6, 2) := by decide +kernel
theorem dX12_fits_290 : decode cX12_fits 290 = .ok (.aload_n 0, 1) := by decide +kernel
theorem dX12_fits_291 : decode cX12_fits 291 = .ok (.getfield 29, 3) := by decide +kernel
theorem dX12_fits_294 : decode cX12_fits 294 = .ok (.iload 6, 2) := by decide +kernel
theorem dX12_fits_296 : decode cX12_fits 296 = .ok (.iaload, 1) := by decide +kernel
theorem dX12_fits_297 : decode cX12_fits 297 = .ok (.iastore, 1) := by decide +kernel
theorem dX12_fits_298 : decode cX12_fits 298 = .ok (.iinc 6 1, 3) := by decide +kernel
theorem dX12_fits_301 : decode cX12_fits 301 = .ok (.goto (-26), 3) := by decide +kernel
theorem dX12_fits_304 : decode cX12_fits 304 = .ok (.iload_n 3, 1) := by decide +kernel
theorem dX12_fits_305 : decode cX12_fits 305 = .ok (.ireturn, 1) := by decide +kernel
theorem dX12_go_0 : decode cX12_go 0 = .ok (.aload_n 0, 1) := by decide +kernel
theorem dX12_go_1 : decode cX12_go 1 = .ok (.getfield 163, 3) := by decide +kernel
theorem dX12_go_4 : decode cX12_go 4 = .ok (.aload_n 0, 1) := by decide +kernel
theorem dX12_go_5 : decode cX12_go 5 = .ok (.getfield 160, 3) := by decide +kernel
theorem dX12_go_8 : decode cX12_go 8 = .ok (.if_icmp .ge 44, 3) := by decide +kernel
theorem dX12_go_11 : decode cX12_go 11 = .ok (.aload_n 0, 1) := by decide +kernel
theorem dX12_go_12 : decode cX12_go 12 = .ok (.getfield 7, 3) := by decide +kernel
theorem dX12_go_15 : decode cX12_go 15 = .ok (.aload_n 0, 1) := by decide +kernel
theorem dX12_go_16 : decode cX12_go 16 = .ok (.getfield 163, 3) := by decide +kernel
theorem dX12_go_19 : decode cX12_go 19 = .ok (.iaload, 1) := by decide +kernel
theorem dX12_go_20 : decode cX12_go 20 = .ok (.bipush 32, 2) := by decide +kernel
theorem dX12_go_22 : decode cX12_go 22 = .ok (.if_icmp .eq 17, 3) := by decide +kernel
theorem dX12_go_25 : decode cX12_go 25 = .ok (.aload_n 0, 1) := by decide +kernel
theorem dX12_go_26 : decode cX12_go 26 = .ok (.getfield 7, 3) := by decide +kernel
theorem dX12_go_29 : decode cX12_go 29 = .ok (.aload_n 0, 1) := by decide +kernel
theorem dX12_go_30 : decode cX12_go 30 = .ok (.getfield 163, 3) := by decide +kernel
theorem dX12_go_33 : decode cX12_go 33 = .ok (.iaload, 1) := by decide +kernel
theorem dX12_go_34 : decode cX12_go 34 = .ok (.bipush 10, 2) := by decide +kernel
theorem dX12_go_36 : decode cX12_go 36 = .ok (.if_icmp .ne 16, 3) := by decide +kernel
theorem dX12_go_39 : decode cX12_go 39 = .ok (.aload_n 0, 1) := by decide +kernel
theorem dX12_go_40 : decode cX12_go 40 = .ok (.dup, 1) := by decide +kernel
theorem dX12_go_41 : decode cX12_go 41 = .ok (.getfield 163, 3) := by decide +kernel
theorem dX12_go_44 : decode cX12_go 44 = .ok (.iconst 1, 1) := by decide +kernel
theorem dX12_go_45 : decode cX12_go 45 = .ok (.iadd, 1) := by decide +kernel
theorem dX12_go_46 : decode cX12_go 46 = .ok (.putfield 163, 3) := by decide +kernel
theorem dX12_go_49 : decode cX12_go 49 = .ok (.goto (-49), 3) := by decide +kernel
theorem dX12_go_52 : decode cX12_go 52 = .ok (.aload_n 0, 1) := by decide +kernel
theorem dX12_go_53 : decode cX12_go 53 = .ok (.aload_n 0, 1) := by decide +kernel
theorem dX12_go_54 : decode cX12_go 54 = .ok (.getfield 163, 3) := by decide +kernel
theorem dX12_go_57 : decode cX12_go 57 = .ok (.putfield 166, 3) := by decide +kernel
theorem dX12_go_60 : decode cX12_go 60 = .ok (.aload_n 0, 1) := by decide +kernel
theorem dX12_go_61 : decode cX12_go 61 = .ok (.getfield 160, 3) := by decide +kernel
theorem dX12_go_64 : decode cX12_go 64 = .ok (.sipush 700, 3) := by decide +kernel
theorem dX12_go_67 : decode cX12_go 67 = .ok (.if_icmp .le 26, 3) := by decide +kernel
theorem dX12_go_70 : decode cX12_go 70 = .ok (.aload_n 0, 1) := by decide +kernel
theorem dX12_go_71 : decode cX12_go 71 = .ok (.getfield 166, 3) := by decide +kernel
theorem dX12_go_74 : decode cX12_go 74 = .ok (.sipush 700, 3) := by decide +kernel
theorem dX12_go_77 : decode cX12_go 77 = .ok (.if_icmp .lt 16, 3) := by decide +kernel
theorem dX12_go_80 : decode cX12_go 80 = .ok (.aload_n 0, 1) := by decide +kernel
theorem dX12_go_81 : decode cX12_go 81 = .ok (.sipush 700, 3) := by decide +kernel
theorem dX12_go_84 : decode cX12_go 84 = .ok (.putfield 166, 3) := by decide +kernel
theorem dX12_go_87 : decode cX12_go 87 = .ok (.aload_n 0, 1) := by decide +kernel
theorem dX12_go_88 : decode cX12_go 88 = .ok (.iconst 1, 1) := by decide +kernel
theorem dX12_go_89 : decode cX12_go 89 = .ok (.putfield 169, 3) := by decide +kernel
theorem dX12_go_92 : decode cX12_go 92 = .ok (.return_, 1) := by decide +kernel
theorem dX12_go_93 : decode cX12_go 93 = .ok (.aload_n 0, 1) := by decide +kernel
theorem dX12_go_94 : decode cX12_go 94 = .ok (.getfield 163, 3) := by decide +kernel
theorem dX12_go_97 : decode cX12_go 97 = .ok (.aload_n 0, 1) := by decide +kernel
theorem dX12_go_98 : decode cX12_go 98 = .ok (.getfield 160, 3) := by decide +kernel
theorem dX12_go_101 : decode cX12_go 101 = .ok (.if_icmp .lt 9, 3) := by decide +kernel
theorem dX12_go_104 : decode cX12_go 104 = .ok (.aload_n 0, 1) := by decide +kernel
theorem dX12_go_105 : decode cX12_go 105 = .ok (.iconst 0, 1) := by decide +kernel
theorem dX12_go_106 : decode cX12_go 106 = .ok (.putfield 169, 3) := by decide +kernel
theorem dX12_go_109 : decode cX12_go 109 = .ok (.return_, 1) := by decide +kernel
theorem dX12_go_110 : decode cX12_go 110 = .ok (.aload_n 0, 1) := by decide +kernel
theorem dX12_go_111 : decode cX12_go 111 = .ok (.getfield 7, 3) := by decide +kernel
theorem dX12_go_114 : decode cX12_go 114 = .ok (.aload_n 0, 1) := by decide +kernel
theorem dX12_go_115 : decode cX12_go 115 = .ok (.getfield 163, 3) := by decide +kernel
theorem dX12_go_118 : decode cX12_go 118 = .ok (.iaload, 1) := by decide +kernel
theorem dX12_go_119 : decode cX12_go 119 = .ok (.istore_n 1, 1) := by decide +kernel
theorem dX12_go_120 : decode cX12_go 120 = .ok (.iload_n 1, 1) := by decide +kernel
theorem dX12_go_121 : decode cX12_go 121 = .ok (.invokestatic 172, 3) := by decide +kernel
theorem dX12_go_124 : decode cX12_go 124 = .ok (.ifCond .ne 36, 3) := by decide +kernel
theorem dX12_go_127 : decode cX12_go 127 = .ok (.iload_n 1, 1) := by decide +kernel
theorem dX12_go_128 : decode cX12_go 128 = .ok (.invokestatic 176, 3) := by decide +kernel
theorem dX12_go_131 : decode cX12_go 131 = .ok (.ifCond .ne 29, 3) := by decide +kernel
theorem dX12_go_134 : decode cX12_go 134 = .ok (.aload_n 0, 1) := by decide +kernel
theorem dX12_go_135 : decode cX12_go 135 = .ok (.iload_n 1, 1) := by decide +kernel
theorem dX12_go_136 : decode cX12_go 136 = .ok (.bipush 59, 2) := by decide +kernel
theorem dX12_go_138 : decode cX12_go 138 = .ok (.if_icmp .ne 7, 3) := by decide +kernel
theorem dX12_go_141 : decode cX12_go 141 = .ok (.iconst 4, 1) := by decide +kernel
theorem dX12_go_142 : decode cX12_go 142 = .ok (.goto 4, 3) := by decide +kernel
theorem dX12_go_145 : decode cX12_go 145 = .ok (.iconst 1, 1) := by decide +kernel
theorem dX12_go_146 : decode cX12_go 146 = .ok (.putfield 169, 3) := by decide +kernel
theorem dX12_go_149 : decode cX12_go 149 = .ok (.aload_n 0, 1) := by decide +kernel
theorem dX12_go_150 : decode cX12_go 150 = .ok (.dup, 1) := by decide +kernel
theorem dX12_go_151 : decode cX12_go 151 = .ok (.getfield 163, 3) := by decide +kernel
theorem dX12_go_154 : decode cX12_go 154 = .ok (.iconst 1, 1) := by decide +kernel
theorem dX12_go_155 : decode cX12_go 155 = .ok (.iadd, 1) := by decide +kernel
theorem dX12_go_156 : decode cX12_go 156 = .ok (.putfield 163, 3) := by decide +kernel
theorem dX12_go_159 : decode cX12_go 159 = .ok (.return_, 1) := by decide +kernel
theorem dX12_go_160 : decode cX12_go 160 = .ok (.iload_n 1, 1) := by decide +kernel
theorem dX12_go_161 : decode cX12_go 161 = .ok (.invokestatic 172, 3) := by decide +kernel
theorem dX12_go_164 : decode cX12_go 164 = .ok (.istore_n 2, 1) := by decide +kernel
theorem dX12_go_165 : decode cX12_go 165 = .ok (.iconst 1, 1) := by decide +kernel
theorem dX12_go_166 : decode cX12_go 166 = .ok (.istore_n 3, 1) := by decide +kernel
theorem dX12_go_167 : decode cX12_go 167 = .ok (.aload_n 0, 1) := by decide +kernel
theorem dX12_go_168 : decode cX12_go 168 = .ok (.lconst 0, 1) := by decide +kernel
theorem dX12_go_169 : decode cX12_go 169 = .ok (.putfield 179, 3) := by decide +kernel
theorem dX12_go_172 : decode cX12_go 172 = .ok (.aload_n 0, 1) := by decide +kernel
theorem dX12_go_173 : decode cX12_go 173 = .ok (.iconst 0, 1) := by decide +kernel
theorem dX12_go_174 : decode cX12_go 174 = .ok (.putfield 182, 3) := by decide +kernel
theorem dX12_go_177 : decode cX12_go 177 = .ok (.aload_n 0, 1) := by decide +kernel
theorem dX12_go_178 : decode cX12_go 178 = .ok (.aload_n 0, 1) := by decide +kernel
theorem dX12_go_179 : decode cX12_go 179 = .ok (.getfield 163, 3) := by decide +kernel
theorem dX12_go_182 : decode cX12_go 182 = .ok (.invokevirtual 185, 3) := by decide +kernel
theorem dX12_go_185 : decode cX12_go 185 = .ok (.invokestatic 172, 3) := by decide +kernel
theorem dX12_go_188 : decode cX12_go 188 = .ok (.ifCond .ne 17, 3) := by decide +kernel
theorem dX12_go_191 : decode cX12_go 191 = .ok (.aload_n 0, 1) := by decide +kernel
theorem dX12_go_192 : decode cX12_go 192 = .ok (.aload_n 0, 1) := by decide +kernel
theorem dX12_go_193 : decode cX12_go 193 = .ok (.getfield 163, 3) := by decide +kernel
theorem dX12_go_196 : decode cX12_go 196 = .ok (.invokevirtual 185, 3) := by decide +kernel
theorem dX12_go_199 : decode cX12_go 199 = .ok (.invokestatic 176, 3) := by decide +kernel
theorem dX12_go_202 : decode cX12_go 202 = .ok (.ifCond .eq 110, 3) := by decide +kernel
theorem dX12_go_205 : decode cX12_go 205 = .ok (.aload_n 0, 1) := by decide +kernel
theorem dX12_go_206 : decode cX12_go 206 = .ok (.getfield 7, 3) := by decide +kernel
theorem dX12_go_209 : decode cX12_go 209 = .ok (.aload_n 0, 1) := by decide +kernel
theorem dX12_go_210 : decode cX12_go 210 = .ok (.getfield 163, 3) := by decide +kernel
theorem dX12_go_213 : decode cX12_go 213 = .ok (.iaload, 1) := by decide +kernel
theorem dX12_go_214 : decode cX12_go 214 = .ok (.istore 4, 2) := by decide +kernel
theorem dX12_go_216 : decode cX12_go 216 = .ok (.iload_n 3, 1) := by decide +kernel
theorem dX12_go_217 : decode cX12_go 217 = .ok (.ifCond .eq 16, 3) := by decide +kernel
theorem dX12_go_220 : decode cX12_go 220 = .ok (.iload 4, 2) := by decide +kernel
theorem dX12_go_222 : decode cX12_go 222 = .ok (.invokestatic 172, 3) := by decide +kernel
theorem dX12_go_225 : decode cX12_go 225 = .ok (.iload_n 2, 1) := by decide +kernel
theorem dX12_go_226 : decode cX12_go 226 = .ok (.if_icmp .ne 7, 3) := by decide +kernel
theorem dX12_go_229 : decode cX12_go 229 = .ok (.iconst 1, 1) := by decide +kernel
theorem dX12_go_230 : decode cX12_go 230 = .ok (.goto 4, 3) := by decide +kernel
theorem dX12_go_233 : decode cX12_go 233 = .ok (.iconst 0, 1) := by decide +kernel
theorem dX12_go_234 : decode cX12_go 234 = .ok (.istore_n 3, 1) := by decide +kernel
theorem dX12_go_235 : decode cX12_go 235 = .ok (.aload_n 0, 1) := by decide +kernel
theorem dX12_go_236 : decode cX12_go 236 = .ok (.getfield 163, 3) := by decide +kernel
theorem dX12_go_239 : decode cX12_go 239 = .ok (.aload_n 0, 1) := by decide +kernel
theorem dX12_go_240 : decode cX12_go 240 = .ok (.getfield 166, 3) := by decide +kernel
theorem dX12_go_243 : decode cX12_go 243 = .ok (.isub, 1) := by decide +kernel
theorem dX12_go_244 : decode cX12_go 244 = .ok (.bipush 6, 2) := by decide +kernel
theorem dX12_go_246 : decode cX12_go 246 = .ok (.if_icmp .ge 23, 3) := by decide +kernel
theorem dX12_go_249 : decode cX12_go 249 = .ok (.aload_n 0, 1) := by decide +kernel
theorem dX12_go_250 : decode cX12_go 250 = .ok (.ldc2_w 189, 3) := by decide +kernel
theorem dX12_go_253 : decode cX12_go 253 = .ok (.aload_n 0, 1) := by decide +kernel
theorem dX12_go_254 : decode cX12_go 254 = .ok (.getfield 179, 3) := by decide +kernel
theorem dX12_go_257 : decode cX12_go 257 = .ok (.lmul, 1) := by decide +kernel
theorem dX12_go_258 : decode cX12_go 258 = .ok (.iload 4, 2) := by decide +kernel
theorem dX12_go_260 : decode cX12_go 260 = .ok (.i2l, 1) := by decide +kernel
theorem dX12_go_261 : decode cX12_go 261 = .ok (.ladd, 1) := by decide +kernel
theorem dX12_go_262 : decode cX12_go 262 = .ok (.ldc2_w 191, 3) := by decide +kernel
theorem dX12_go_265 : decode cX12_go 265 = .ok (.lsub, 1) := by decide +kernel
theorem dX12_go_266 : decode cX12_go 266 = .ok (.putfield 179, 3) := by decide +kernel
theorem dX12_go_269 : decode cX12_go 269 = .ok (.aload_n 0, 1) := by decide +kernel
theorem dX12_go_270 : decode cX12_go 270 = .ok (.getfield 163, 3) := by decide +kernel
theorem dX12_go_273 : decode cX12_go 273 = .ok (.aload_n 0, 1) := by decide +kernel
theorem dX12_go_274 : decode cX12_go 274 = .ok (.getfield 166, 3) := by decide +kernel
theorem dX12_go_277 : decode cX12_go 277 = .ok (.isub, 1) := by decide +kernel
theorem dX12_go_278 : decode cX12_go 278 = .ok (.iconst 2, 1) := by decide +kernel
theorem dX12_go_279 : decode cX12_go 279 = .ok (.if_icmp .ge 20, 3) := by decide +kernel
theorem dX12_go_282 : decode cX12_go 282 = .ok (.aload_n 0, 1) := by decide +kernel
theorem dX12_go_283 : decode cX12_go 283 = .ok (.bipush 10, 2) := by decide +kernel
theorem dX12_go_285 : decode cX12_go 285 = .ok (.aload_n 0, 1) := by decide +kernel
theorem dX12_go_286 : decode cX12_go 286 = .ok (.getfield 182, 3) := by decide +kernel
theorem dX12_go_289 : decode cX12_go 289 = .ok (.imul, 1) := by decide +kernel
theorem dX12_go_290 : decode cX12_go 290 = .ok (.iload 4, 2) := by decide +kernel
theorem dX12_go_292 : decode cX12_go 292 = .ok (.iadd, 1) := by decide +kernel
theorem dX12_go_293 : decode cX12_go 293 = .ok (.bipush 48, 2) := by decide +kernel
theorem dX12_go_295 : decode cX12_go 295 = .ok (.isub, 1) := by decide +kernel
theorem dX12_go_296 : decode cX12_go 296 = .ok (.putfield 182, 3) := by decide +kernel
theorem dX12_go_299 : decode cX12_go 299 = .ok (.aload_n 0, 1) := by decide +kernel
theorem dX12_go_300 : decode cX12_go 300 = .ok (.dup, 1) := by decide +kernel
theorem dX12_go_301 : decode cX12_go 301 = .ok (.getfield 163, 3) := by decide +kernel
theorem dX12_go_304 : decode cX12_go 304 = .ok (.iconst 1, 1) := by decide +kernel
theorem dX12_go_305 : decode cX12_go 305 = .ok (.iadd, 1) := by decide +kernel
theorem dX12_go_306 : decode cX12_go 306 = .ok (.putfield 163, 3) := by decide +kernel
theorem dX12_go_309 : decode cX12_go 309 = .ok (.goto (-132), 3) := by decide +kernel
theorem dX12_go_312 : decode cX12_go 312 = .ok (.aload_n 0, 1) := by decide +kernel
theorem dX12_go_313 : decode cX12_go 313 = .ok (.iload_n 3, 1) := by decide +kernel
theorem dX12_go_314 : decode cX12_go 314 = .ok (.ifCond .eq 25, 3) := by decide +kernel
theorem dX12_go_317 : decode cX12_go 317 = .ok (.aload_n 0, 1) := by decide +kernel
theorem dX12_go_318 : decode cX12_go 318 = .ok (.getfield 163, 3) := by decide +kernel
theorem dX12_go_321 : decode cX12_go 321 = .ok (.aload_n 0, 1) := by decide +kernel
theorem dX12_go_322 : decode cX12_go 322 = .ok (.getfield 166, 3) := by decide +kernel
theorem dX12_go_325 : decode cX12_go 325 = .ok (.isub, 1) := by decide +kernel
theorem dX12_go_326 : decode cX12_go 326 = .ok (.iload_n 2, 1) := by decide +kernel
theorem dX12_go_327 : decode cX12_go 327 = .ok (.ifCond .eq 8, 3) := by decide +kernel
theorem dX12_go_330 : decode cX12_go 330 = .ok (.bipush 6, 2) := by decide +kernel
theorem dX12_go_332 : decode cX12_go 332 = .ok (.goto 4, 3) := by decide +kernel
theorem dX12_go_335 : decode cX12_go 335 = .ok (.iconst 2, 1) := by decide +kernel
theorem dX12_go_336 : decode cX12_go 336 = .ok (.if_icmp .le 7, 3) := by decide +kernel
theorem dX12_go_339 : decode cX12_go 339 = .ok (.iconst 1, 1) := by decide +kernel
theorem dX12_go_340 : decode cX12_go 340 = .ok (.goto 12, 3) := by decide +kernel
theorem dX12_go_343 : decode cX12_go 343 = .ok (.iload_n 2, 1) := by decide +kernel
theorem dX12_go_344 : decode cX12_go 344 = .ok (.ifCond .eq 7, 3) := by decide +kernel
theorem dX12_go_347 : decode cX12_go 347 = .ok (.iconst 2, 1) := by decide +kernel
theorem dX12_go_348 : decode cX12_go 348 = .ok (.goto 4, 3) := by decide +kernel
theorem dX12_go_351 : decode cX12_go 351 = .ok (.iconst 3, 1) := by decide +kernel
theorem dX12_go_352 : decode cX12_go 352 = .ok (.putfield 169, 3) := by decide +kernel
theorem dX12_go_355 : decode cX12_go 355 = .ok (.return_, 1) := by decide +kernel
theorem dX12_goOn_0 : decode cX12_goOn 0 = .ok (.aload_n 0, 1) := by decide +kernel
theorem dX12_goOn_1 : decode cX12_goOn 1 = .ok (.getfield 306, 3) := by decide +kernel
theorem dX12_goOn_4 : decode cX12_goOn 4 = .ok (.iconst 2, 1) := by decide +kernel
theorem dX12_goOn_5 : decode cX12_goOn 5 = .ok (.isub, 1) := by decide +kernel
theorem dX12_goOn_6 : decode cX12_goOn 6 = .ok (.istore_n 1, 1) := by decide +kernel
theorem dX12_goOn_7 : decode cX12_goOn 7 = .ok (.iload_n 1, 1) := by decide +kernel
theorem dX12_goOn_8 : decode cX12_goOn 8 = .ok (.ifCond .lt 26, 3) := by decide +kernel
theorem dX12_goOn_11 : decode cX12_goOn 11 = .ok (.aload_n 0, 1) := by decide +kernel
theorem dX12_goOn_12 : decode cX12_goOn 12 = .ok (.getfield 89, 3) := by decide +kernel
theorem dX12_goOn_15 : decode cX12_goOn 15 = .ok (.iload_n 1, 1) := by decide +kernel
theorem dX12_goOn_16 : decode cX12_goOn 16 = .ok (.iaload, 1) := by decide +kernel
theorem dX12_goOn_17 : decode cX12_goOn 17 = .ok (.aload_n 0, 1) := by decide +kernel
theorem dX12_goOn_18 : decode cX12_goOn 18 = .ok (.getfield 89, 3) := by decide +kernel
theorem dX12_goOn_21 : decode cX12_goOn 21 = .ok (.iload_n 1, 1) := by decide +kernel
theorem dX12_goOn_22 : decode cX12_goOn 22 = .ok (.iconst 1, 1) := by decide +kernel
theorem dX12_goOn_23 : decode cX12_goOn 23 = .ok (.iadd, 1) := by decide +kernel
theorem dX12_goOn_24 : decode cX12_goOn 24 = .ok (.iaload, 1) := by decide +kernel
theorem dX12_goOn_25 : decode cX12_goOn 25 = .ok (.if_icmp .le 9, 3) := by decide +kernel
theorem dX12_goOn_28 : decode cX12_goOn 28 = .ok (.iinc 1 (-1), 3) := by decide +kernel
theorem dX12_goOn_31 : decode cX12_goOn 31 = .ok (.goto (-24), 3) := by decide +kernel
theorem dX12_goOn_34 : decode cX12_goOn 34 = .ok (.iload_n 1, 1) := by decide +kernel
theorem dX12_goOn_35 : decode cX12_goOn 35 = .ok (.ifCond .ge 5, 3) := by decide +kernel
theorem dX12_goOn_38 : decode cX12_goOn 38 = .ok (.iconst 0, 1) := by decide +kernel
theorem dX12_goOn_39 : decode cX12_goOn 39 = .ok (.ireturn, 1) := by decide +kernel
theorem dX12_goOn_40 : decode cX12_goOn 40 = .ok (.aload_n 0, 1) := by decide +kernel
theorem dX12_goOn_41 : decode cX12_goOn 41 = .ok (.getfield 306, 3) := by decide +kernel
theorem dX12_goOn_44 : decode cX12_goOn 44 = .ok (.iconst 1, 1) := by decide +kernel
theorem dX12_goOn_45 : decode cX12_goOn 45 = .ok (.isub, 1) := by decide +kernel
theorem dX12_goOn_46 : decode cX12_goOn 46 = .ok (.istore_n 2, 1) := by decide +kernel
theorem dX12_goOn_47 : decode cX12_goOn 47 = .ok (.aload_n 0, 1) := by decide +kernel
theorem dX12_goOn_48 : decode cX12_goOn 48 = .ok (.getfield 89, 3) := by decide +kernel
theorem dX12_goOn_51 : decode cX12_goOn 51 = .ok (.iload_n 2, 1) := by decide +kernel
theorem dX12_goOn_52 : decode cX12_goOn 52 = .ok (.iaload, 1) := by decide +kernel
theorem dX12_goOn_53 : decode cX12_goOn 53 = .ok (.aload_n 0, 1) := by decide +kernel
theorem dX12_goOn_54 : decode cX12_goOn 54 = .ok (.getfield 89, 3) := by decide +kernel
theorem dX12_goOn_57 : decode cX12_goOn 57 = .ok (.iload_n 1, 1) := by decide +kernel
theorem dX12_goOn_58 : decode cX12_goOn 58 = .ok (.iaload, 1) := by decide +kernel
theorem dX12_goOn_59 : decode cX12_goOn 59 = .ok (.if_icmp .ge 9, 3) := by decide +kernel
theorem dX12_goOn_62 : decode cX12_goOn 62 = .ok (.iinc 2 (-1), 3) := by decide +kernel
theorem dX12_goOn_65 : decode cX12_goOn 65 = .ok (.goto (-18), 3) := by decide +kernel
theorem dX12_goOn_68 : decode cX12_goOn 68 = .ok (.aload_n 0, 1) := by decide +kernel
theorem dX12_goOn_69 : decode cX12_goOn 69 = .ok (.iload_n 1, 1) := by decide +kernel
theorem dX12_goOn_70 : decode cX12_goOn 70 = .ok (.iload_n 2, 1) := by decide +kernel
theorem dX12_goOn_71 : decode cX12_goOn 71 = .ok (.invokevirtual 434, 3) := by decide +kernel
theorem dX12_goOn_74 : decode cX12_goOn 74 = .ok (.iload_n 1, 1) := by decide +kernel
theorem dX12_goOn_75 : decode cX12_goOn 75 = .ok (.iconst 1, 1) := by decide +kernel
theorem dX12_goOn_76 : decode cX12_goOn 76 = .ok (.iadd, 1) := by decide +kernel
theorem dX12_goOn_77 : decode cX12_goOn 77 = .ok (.istore_n 3, 1) := by decide +kernel
theorem dX12_goOn_78 : decode cX12_goOn 78 = .ok (.aload_n 0, 1) := by decide +kernel
theorem dX12_goOn_79 : decode cX12_goOn 79 = .ok (.getfield 306, 3) := by decide +kernel
theorem dX12_goOn_82 : decode cX12_goOn 82 = .ok (.iconst 1, 1) := by decide +kernel
theorem dX12_goOn_83 : decode cX12_goOn 83 = .ok (.isub, 1) := by decide +kernel
theorem dX12_goOn_84 : decode cX12_goOn 84 = .ok (.istore 4, 2) := by decide +kernel
theorem dX12_goOn_86 : decode cX12_goOn 86 = .ok (.iload_n 3, 1) := by decide +kernel
theorem dX12_goOn_87 : decode cX12_goOn 87 = .ok (.iload 4, 2) := by decide +kernel
theorem dX12_goOn_89 : decode cX12_goOn 89 = .ok (.if_icmp .ge 19, 3) := by decide +kernel
theorem dX12_goOn_92 : decode cX12_goOn 92 = .ok (.aload_n 0, 1) := by decide +kernel
theorem dX12_goOn_93 : decode cX12_goOn 93 = .ok (.iload_n 3, 1) := by decide +kernel
theorem dX12_goOn_94 : decode cX12_goOn 94 = .ok (.iload 4, 2) := by decide +kernel
theorem dX12_goOn_96 : decode cX12_goOn 96 = .ok (.invokevirtual 434, 3) := by decide +kernel
theorem dX12_goOn_99 : decode cX12_goOn 99 = .ok (.iinc 3 1, 3) := by decide +kernel
theorem dX12_goOn_102 : decode cX12_goOn 102 = .ok (.iinc 4 (-1), 3) := by decide +kernel
theorem dX12_goOn_105 : decode cX12_goOn 105 = .ok (.goto (-19), 3) := by decide +kernel
theorem dX12_goOn_108 : decode cX12_goOn 108 = .ok (.iconst 1, 1) := by decide +kernel
theorem dX12_goOn_109 : decode cX12_goOn 109 = .ok (.ireturn, 1) := by decide +kernel
theorem dX12_guess_0 : decode cX12_guess 0 = .ok (.aload_n 0, 1) := by decide +kernel
theorem dX12_guess_1 : decode cX12_guess 1 = .ok (.iconst 0, 1) := by decide +kernel
theorem dX12_guess_2 : decode cX12_guess 2 = .ok (.putfield 149, 3) := by decide +kernel
theorem dX12_guess_5 : decode cX12_guess 5 = .ok (.aload_n 0, 1) := by decide +kernel
theorem dX12_guess_6 : decode cX12_guess 6 = .ok (.invokevirtual 470, 3) := by decide +kernel
theorem dX12_guess_9 : decode cX12_guess 9 = .ok (.istore_n 1, 1) := by decide +kernel
theorem dX12_guess_10 : decode cX12_guess 10 = .ok (.aload_n 0, 1) := by decide +kernel
theorem dX12_guess_11 : decode cX12_guess 11 = .ok (.iconst 0, 1) := by decide +kernel
theorem dX12_guess_12 : decode cX12_guess 12 = .ok (.putfield 153, 3) := by decide +kernel
theorem dX12_guess_15 : decode cX12_guess 15 = .ok (.iload_n 1, 1) := by decide +kernel
theorem dX12_guess_16 : decode cX12_guess 16 = .ok (.ifCond .ne 5, 3) := by decide +kernel
theorem dX12_guess_19 : decode cX12_guess 19 = .ok (.iconst (-1), 1) := by decide +kernel
theorem dX12_guess_20 : decode cX12_guess 20 = .ok (.ireturn, 1) := by decide +kernel
theorem dX12_guess_21 : decode cX12_guess 21 = .ok (.iconst 0, 1) := by decide +kernel
theorem dX12_guess_22 : decode cX12_guess 22 = .ok (.istore_n 2, 1) := by decide +kernel
theorem dX12_guess_23 : decode cX12_guess 23 = .ok (.iload_n 2, 1) := by decide +kernel
theorem dX12_guess_24 : decode cX12_guess 24 = .ok (.iconst 3, 1) := by decide +kernel
theorem dX12_guess_25 : decode cX12_guess 25 = .ok (.if_icmp .ge 16, 3) := by decide +kernel
theorem dX12_guess_28 : decode cX12_guess 28 = .ok (.aload_n 0, 1) := by decide +kernel
theorem dX12_guess_29 : decode cX12_guess 29 = .ok (.getfield 77, 3) := by decide +kernel
theorem dX12_guess_32 : decode cX12_guess 32 = .ok (.iload_n 2, 1) := by decide +kernel
theorem dX12_guess_33 : decode cX12_guess 33 = .ok (.lconst 0, 1) := by decide +kernel
theorem dX12_guess_34 : decode cX12_guess 34 = .ok (.lastore, 1) := by decide +kernel
theorem dX12_guess_35 : decode cX12_guess 35 = .ok (.iinc 2 1, 3) := by decide +kernel
theorem dX12_guess_38 : decode cX12_guess 38 = .ok (.goto (-15), 3) := by decide +kernel
theorem dX12_guess_41 : decode cX12_guess 41 = .ok (.iconst 0, 1) := by decide +kernel
theorem dX12_guess_42 : decode cX12_guess 42 = .ok (.istore_n 2, 1) := by decide +kernel
theorem dX12_guess_43 : decode cX12_guess 43 = .ok (.iload_n 2, 1) := by decide +kernel
theorem dX12_guess_44 : decode cX12_guess 44 = .ok (.aload_n 0, 1) := by decide +kernel
theorem dX12_guess_45 : decode cX12_guess 45 = .ok (.getfield 309, 3) := by decide +kernel
theorem dX12_guess_48 : decode cX12_guess 48 = .ok (.if_icmp .ge 52, 3) := by decide +kernel
theorem dX12_guess_51 : decode cX12_guess 51 = .ok (.aload_n 0, 1) := by decide +kernel
theorem dX12_guess_52 : decode cX12_guess 52 = .ok (.iload_n 2, 1) := by decide +kernel
theorem dX12_guess_53 : decode cX12_guess 53 = .ok (.invokevirtual 473, 3) := by decide +kernel
theorem dX12_guess_56 : decode cX12_guess 56 = .ok (.ifCond .eq 38, 3) := by decide +kernel
theorem dX12_guess_59 : decode cX12_guess 59 = .ok (.iconst 0, 1) := by decide +kernel
theorem dX12_guess_60 : decode cX12_guess 60 = .ok (.istore_n 3, 1) := by decide +kernel
theorem dX12_guess_61 : decode cX12_guess 61 = .ok (.iload_n 3, 1) := by decide +kernel
theorem dX12_guess_62 : decode cX12_guess 62 = .ok (.aload_n 0, 1) := by decide +kernel
theorem dX12_guess_63 : decode cX12_guess 63 = .ok (.getfield 303, 3) := by decide +kernel
theorem dX12_guess_66 : decode cX12_guess 66 = .ok (.if_icmp .ge 28, 3) := by decide +kernel
theorem dX12_guess_69 : decode cX12_guess 69 = .ok (.aload_n 0, 1) := by decide +kernel
theorem dX12_guess_70 : decode cX12_guess 70 = .ok (.getfield 77, 3) := by decide +kernel
theorem dX12_guess_73 : decode cX12_guess 73 = .ok (.iload_n 3, 1) := by decide +kernel
theorem dX12_guess_74 : decode cX12_guess 74 = .ok (.dup2, 1) := by decide +kernel
theorem dX12_guess_75 : decode cX12_guess 75 = .ok (.laload, 1) := by decide +kernel
theorem dX12_guess_76 : decode cX12_guess 76 = .ok (.aload_n 0, 1) := by decide +kernel
theorem dX12_guess_77 : decode cX12_guess 77 = .ok (.getfield 65, 3) := by decide +kernel
theorem dX12_guess_80 : decode cX12_guess 80 = .ok (.iconst 3, 1) := by decide +kernel
theorem dX12_guess_81 : decode cX12_guess 81 = .ok (.iload_n 2, 1) := by decide +kernel
theorem dX12_guess_82 : decode cX12_guess 82 = .ok (.imul, 1) := by decide +kernel
theorem dX12_guess_83 : decode cX12_guess 83 = .ok (.iload_n 3, 1) := by decide +kernel
theorem dX12_guess_84 : decode cX12_guess 84 = .ok (.iadd, 1) := by decide +kernel
theorem dX12_guess_85 : decode cX12_guess 85 = .ok (.laload, 1) := by decide +kernel
theorem dX12_guess_86 : decode cX12_guess 86 = .ok (.lsub, 1) := by decide +kernel
theorem dX12_guess_87 : decode cX12_guess 87 = .ok (.lastore, 1) := by decide +kernel
theorem dX12_guess_88 : decode cX12_guess 88 = .ok (.iinc 3 1, 3) := by decide +kernel
theorem dX12_guess_91 : decode cX12_guess 91 = .ok (.goto (-30), 3) := by decide +kernel
theorem dX12_guess_94 : decode cX12_guess 94 = .ok (.iinc 2 1, 3) := by decide +kernel
theorem dX12_guess_97 : decode cX12_guess 97 = .ok (.goto (-54), 3) := by decide +kernel
theorem dX12_guess_100 : decode cX12_guess 100 = .ok (.aload_n 0, 1) := by decide +kernel
theorem dX12_guess_101 : decode cX12_guess 101 = .ok (.aload_n 0, 1) := by decide +kernel
theorem dX12_guess_102 : decode cX12_guess 102 = .ok (.getfield 77, 3) := by decide +kernel
theorem dX12_guess_105 : decode cX12_guess 105 = .ok (.iconst 0, 1) := by decide +kernel
theorem dX12_guess_106 : decode cX12_guess 106 = .ok (.laload, 1) := by decide +kernel
theorem dX12_guess_107 : decode cX12_guess 107 = .ok (.aload_n 0, 1) := by decide +kernel
theorem dX12_guess_108 : decode cX12_guess 108 = .ok (.getfield 77, 3) := by decide +kernel
theorem dX12_guess_111 : decode cX12_guess 111 = .ok (.iconst 1, 1) := by decide +kernel
theorem dX12_guess_112 : decode cX12_guess 112 = .ok (.laload, 1) := by decide +kernel
theorem dX12_guess_113 : decode cX12_guess 113 = .ok (.aload_n 0, 1) := by decide +kernel
theorem dX12_guess_114 : decode cX12_guess 114 = .ok (.getfield 77, 3) := by decide +kernel
theorem dX12_guess_117 : decode cX12_guess 117 = .ok (.iconst 2, 1) := by decide +kernel
theorem dX12_guess_118 : decode cX12_guess 118 = .ok (.laload, 1) := by decide +kernel
theorem dX12_guess_119 : decode cX12_guess 119 = .ok (.invokevirtual 340, 3) := by decide +kernel
theorem dX12_guess_122 : decode cX12_guess 122 = .ok (.istore_n 2, 1) := by decide +kernel
theorem dX12_guess_123 : decode cX12_guess 123 = .ok (.aload_n 0, 1) := by decide +kernel
theorem dX12_guess_124 : decode cX12_guess 124 = .ok (.getfield 77, 3) := by decide +kernel
theorem dX12_guess_127 : decode cX12_guess 127 = .ok (.iload_n 2, 1) := by decide +kernel
theorem dX12_guess_128 : decode cX12_guess 128 = .ok (.laload, 1) := by decide +kernel
theorem dX12_guess_129 : decode cX12_guess 129 = .ok (.lconst 0, 1) := by decide +kernel
theorem dX12_guess_130 : decode cX12_guess 130 = .ok (.lcmp, 1) := by decide +kernel
theorem dX12_guess_131 : decode cX12_guess 131 = .ok (.ifCond .ne 7, 3) := by decide +kernel
theorem dX12_guess_134 : decode cX12_guess 134 = .ok (.iconst (-1), 1) := by decide +kernel
theorem dX12_guess_135 : decode cX12_guess 135 = .ok (.goto 4, 3) := by decide +kernel
theorem dX12_guess_138 : decode cX12_guess 138 = .ok (.iload_n 2, 1) := by decide +kernel
theorem dX12_guess_139 : decode cX12_guess 139 = .ok (.ireturn, 1) := by decide +kernel
theorem dX12_helps_0 : decode cX12_helps 0 = .ok (.aload_n 0, 1) := by decide +kernel
theorem dX12_helps_1 : decode cX12_helps 1 = .ok (.iconst 0, 1) := by decide +kernel
theorem dX12_helps_2 : decode cX12_helps 2 = .ok (.putfield 149, 3) := by decide +kernel
theorem dX12_helps_5 : decode cX12_helps 5 = .ok (.aload_n 0, 1) := by decide +kernel
theorem dX12_helps_6 : decode cX12_helps 6 = .ok (.iload_n 1, 1) := by decide +kernel
theorem dX12_helps_7 : decode cX12_helps 7 = .ok (.invokevirtual 316, 3) := by decide +kernel
theorem dX12_helps_10 : decode cX12_helps 10 = .ok (.ifCond .eq 16, 3) := by decide +kernel
theorem dX12_helps_13 : decode cX12_helps 13 = .ok (.aload_n 0, 1) := by decide +kernel
theorem dX12_helps_14 : decode cX12_helps 14 = .ok (.iload_n 2, 1) := by decide +kernel
theorem dX12_helps_15 : decode cX12_helps 15 = .ok (.invokevirtual 316, 3) := by decide +kernel
theorem dX12_helps_18 : decode cX12_helps 18 = .ok (.ifCond .eq 8, 3) := by decide +kernel
theorem dX12_helps_21 : decode cX12_helps 21 = .ok (.iload_n 1, 1) := by decide +kernel
theorem dX12_helps_22 : decode cX12_helps 22 = .ok (.iload_n 2, 1) := by decide +kernel
theorem dX12_helps_23 : decode cX12_helps 23 = .ok (.if_icmp .ne 5, 3) := by decide +kernel
theorem dX12_helps_26 : decode cX12_helps 26 = .ok (.iconst (-1), 1) := by decide +kernel
theorem dX12_helps_27 : decode cX12_helps 27 = .ok (.ireturn, 1) := by decide +kernel
theorem dX12_helps_28 : decode cX12_helps 28 = .ok (.aload_n 0, 1) := by decide +kernel
theorem dX12_helps_29 : decode cX12_helps 29 = .ok (.iconst (-1), 1) := by decide +kernel
theorem dX12_helps_30 : decode cX12_helps 30 = .ok (.iconst (-1), 1) := by decide +kernel
theorem dX12_helps_31 : decode cX12_helps 31 = .ok (.invokevirtual 458, 3) := by decide +kernel
theorem dX12_helps_34 : decode cX12_helps 34 = .ok (.aload_n 0, 1) := by decide +kernel
theorem dX12_helps_35 : decode cX12_helps 35 = .ok (.iload_n 1, 1) := by decide +kernel
theorem dX12_helps_36 : decode cX12_helps 36 = .ok (.iconst (-1), 1) := by decide +kernel
theorem dX12_helps_37 : decode cX12_helps 37 = .ok (.invokevirtual 458, 3) := by decide +kernel
theorem dX12_helps_40 : decode cX12_helps 40 = .ok (.lcmp, 1) := by decide +kernel
theorem dX12_helps_41 : decode cX12_helps 41 = .ok (.ifCond .ge 7, 3) := by decide +kernel
theorem dX12_helps_44 : decode cX12_helps 44 = .ok (.iconst 1, 1) := by decide +kernel
theorem dX12_helps_45 : decode cX12_helps 45 = .ok (.goto 4, 3) := by decide +kernel
theorem dX12_helps_48 : decode cX12_helps 48 = .ok (.iconst 0, 1) := by decide +kernel
theorem dX12_helps_49 : decode cX12_helps 49 = .ok (.istore_n 3, 1) := by decide +kernel
theorem dX12_helps_50 : decode cX12_helps 50 = .ok (.iload_n 3, 1) := by decide +kernel
theorem dX12_helps_51 : decode cX12_helps 51 = .ok (.ifCond .eq 23, 3) := by decide +kernel
theorem dX12_helps_54 : decode cX12_helps 54 = .ok (.aload_n 0, 1) := by decide +kernel
theorem dX12_helps_55 : decode cX12_helps 55 = .ok (.iconst (-1), 1) := by decide +kernel
theorem dX12_helps_56 : decode cX12_helps 56 = .ok (.iload_n 2, 1) := by decide +kernel
theorem dX12_helps_57 : decode cX12_helps 57 = .ok (.invokevirtual 458, 3) := by decide +kernel
theorem dX12_helps_60 : decode cX12_helps 60 = .ok (.aload_n 0, 1) := by decide +kernel
theorem dX12_helps_61 : decode cX12_helps 61 = .ok (.iload_n 1, 1) := by decide +kernel
theorem dX12_helps_62 : decode cX12_helps 62 = .ok (.iload_n 2, 1) := by decide +kernel
theorem dX12_helps_63 : decode cX12_helps 63 = .ok (.invokevirtual 458, 3) := by decide +kernel
theorem dX12_helps_66 : decode cX12_helps 66 = .ok (.lcmp, 1) := by decide +kernel
theorem dX12_helps_67 : decode cX12_helps 67 = .ok (.ifCond .lt 7, 3) := by decide +kernel
theorem dX12_helps_70 : decode cX12_helps 70 = .ok (.iconst 1, 1) := by decide +kernel
theorem dX12_helps_71 : decode cX12_helps 71 = .ok (.goto 4, 3) := by decide +kernel
theorem dX12_helps_74 : decode cX12_helps 74 = .ok (.iconst 0, 1) := by decide +kernel
theorem dX12_helps_75 : decode cX12_helps 75 = .ok (.ireturn, 1) := by decide +kernel
theorem dX12_herd_0 : decode cX12_herd 0 = .ok (.aload_n 0, 1) := by decide +kernel
theorem dX12_herd_1 : decode cX12_herd 1 = .ok (.iconst 0, 1) := by decide +kernel
theorem dX12_herd_2 : decode cX12_herd 2 = .ok (.putfield 149, 3) := by decide +kernel
theorem dX12_herd_5 : decode cX12_herd 5 = .ok (.aload_n 0, 1) := by decide +kernel
theorem dX12_herd_6 : decode cX12_herd 6 = .ok (.getfield 405, 3) := by decide +kernel
theorem dX12_herd_9 : decode cX12_herd 9 = .ok (.ifCond .ne 7, 3) := by decide +kernel
theorem dX12_herd_12 : decode cX12_herd 12 = .ok (.ldc2_w 128, 3) := by decide +kernel
theorem dX12_herd_15 : decode cX12_herd 15 = .ok (.lreturn, 1) := by decide +kernel
theorem dX12_herd_16 : decode cX12_herd 16 = .ok (.iload_n 1, 1) := by decide +kernel
theorem dX12_herd_17 : decode cX12_herd 17 = .ok (.ifCond .ne 10, 3) := by decide +kernel
theorem dX12_herd_20 : decode cX12_herd 20 = .ok (.aload_n 0, 1) := by decide +kernel
theorem dX12_herd_21 : decode cX12_herd 21 = .ok (.getfield 411, 3) := by decide +kernel
theorem dX12_herd_24 : decode cX12_herd 24 = .ok (.goto 30, 3) := by decide +kernel
theorem dX12_herd_27 : decode cX12_herd 27 = .ok (.iload_n 1, 1) := by decide +kernel
theorem dX12_herd_28 : decode cX12_herd 28 = .ok (.iconst 1, 1) := by decide +kernel
theorem dX12_herd_29 : decode cX12_herd 29 = .ok (.if_icmp .ne 10, 3) := by decide +kernel
theorem dX12_herd_32 : decode cX12_herd 32 = .ok (.aload_n 0, 1) := by decide +kernel
theorem dX12_herd_33 : decode cX12_herd 33 = .ok (.getfield 414, 3) := by decide +kernel
theorem dX12_herd_36 : decode cX12_herd 36 = .ok (.goto 18, 3) := by decide +kernel
theorem dX12_herd_39 : decode cX12_herd 39 = .ok (.iload_n 1, 1) := by decide +kernel
theorem dX12_herd_40 : decode cX12_herd 40 = .ok (.iconst 2, 1) := by decide +kernel
theorem dX12_herd_41 : decode cX12_herd 41 = .ok (.if_icmp .ne 10, 3) := by decide +kernel
theorem dX12_herd_44 : decode cX12_herd 44 = .ok (.aload_n 0, 1) := by decide +kernel
theorem dX12_herd_45 : decode cX12_herd 45 = .ok (.getfield 417, 3) := by decide +kernel
theorem dX12_herd_48 : decode cX12_herd 48 = .ok (.goto 6, 3) := by decide +kernel
theorem dX12_herd_51 : decode cX12_herd 51 = .ok (.ldc2_w 128, 3) := by decide +kernel
theorem dX12_herd_54 : decode cX12_herd 54 = .ok (.lreturn, 1) := by decide +kernel
theorem dX12_honest_0 : decode cX12_honest 0 = .ok (.aload_n 0, 1) := by decide +kernel
theorem dX12_honest_1 : decode cX12_honest 1 = .ok (.aload_n 0, 1) := by decide +kernel
theorem dX12_honest_2 : decode cX12_honest 2 = .ok (.iload_n 1, 1) := by decide +kernel
theorem dX12_honest_3 : decode cX12_honest 3 = .ok (.iload_n 2, 1) := by decide +kernel
theorem dX12_honest_4 : decode cX12_honest 4 = .ok (.iconst 0, 1) := by decide +kernel
theorem dX12_honest_5 : decode cX12_honest 5 = .ok (.invokevirtual 337, 3) := by decide +kernel
theorem dX12_honest_8 : decode cX12_honest 8 = .ok (.aload_n 0, 1) := by decide +kernel
theorem dX12_honest_9 : decode cX12_honest 9 = .ok (.iload_n 1, 1) := by decide +kernel
theorem dX12_honest_10 : decode cX12_honest 10 = .ok (.iload_n 2, 1) := by decide +kernel
theorem dX12_honest_11 : decode cX12_honest 11 = .ok (.iconst 1, 1) := by decide +kernel
theorem dX12_honest_12 : decode cX12_honest 12 = .ok (.invokevirtual 337, 3) := by decide +kernel
theorem dX12_honest_15 : decode cX12_honest 15 = .ok (.aload_n 0, 1) := by decide +kernel
theorem dX12_honest_16 : decode cX12_honest 16 = .ok (.getfield 303, 3) := by decide +kernel
theorem dX12_honest_19 : decode cX12_honest 19 = .ok (.iconst 3, 1) := by decide +kernel
theorem dX12_honest_20 : decode cX12_honest 20 = .ok (.if_icmp .ne 13, 3) := by decide +kernel
theorem dX12_honest_23 : decode cX12_honest 23 = .ok (.aload_n 0, 1) := by decide +kernel
theorem dX12_honest_24 : decode cX12_honest 24 = .ok (.iload_n 1, 1) := by decide +kernel
theorem dX12_honest_25 : decode cX12_honest 25 = .ok (.iload_n 2, 1) := by decide +kernel
theorem dX12_honest_26 : decode cX12_honest 26 = .ok (.iconst 2, 1) := by decide +kernel
theorem dX12_honest_27 : decode cX12_honest 27 = .ok (.invokevirtual 337, 3) := by decide +kernel
theorem dX12_honest_30 : decode cX12_honest 30 = .ok (.goto 4, 3) := by decide +kernel
theorem dX12_honest_33 : decode cX12_honest 33 = .ok (.lconst 0, 1) := by decide +kernel
theorem dX12_honest_34 : decode cX12_honest 34 = .ok (.invokevirtual 340, 3) := by decide +kernel
theorem dX12_honest_37 : decode cX12_honest 37 = .ok (.ireturn, 1) := by decide +kernel
theorem dX12_inTurns_0 : decode cX12_inTurns 0 = .ok (.aload_n 0, 1) := by decide +kernel
theorem dX12_inTurns_1 : decode cX12_inTurns 1 = .ok (.iconst 0, 1) := by decide +kernel
theorem dX12_inTurns_2 : decode cX12_inTurns 2 = .ok (.putfield 149, 3) := by decide +kernel
theorem dX12_inTurns_5 : decode cX12_inTurns 5 = .ok (.aload_n 0, 1) := by decide +kernel
theorem dX12_inTurns_6 : decode cX12_inTurns 6 = .ok (.invokevirtual 288, 3) := by decide +kernel
theorem dX12_inTurns_9 : decode cX12_inTurns 9 = .ok (.istore_n 1, 1) := by decide +kernel
theorem dX12_inTurns_10 : decode cX12_inTurns 10 = .ok (.aload_n 0, 1) := by decide +kernel
theorem dX12_inTurns_11 : decode cX12_inTurns 11 = .ok (.getfield 306, 3) := by decide +kernel
theorem dX12_inTurns_14 : decode cX12_inTurns 14 = .ok (.ifCond .eq 11, 3) := by decide +kernel
theorem dX12_inTurns_17 : decode cX12_inTurns 17 = .ok (.iload_n 1, 1) := by decide +kernel
theorem dX12_inTurns_18 : decode cX12_inTurns 18 = .ok (.aload_n 0, 1) := by decide +kernel
theorem dX12_inTurns_19 : decode cX12_inTurns 19 = .ok (.getfield 306, 3) := by decide +kernel
theorem dX12_inTurns_22 : decode cX12_inTurns 22 = .ok (.if_icmp .eq 7, 3) := by decide +kernel
theorem dX12_inTurns_25 : decode cX12_inTurns 25 = .ok (.ldc2_w 128, 3) := by decide +kernel
theorem dX12_inTurns_28 : decode cX12_inTurns 28 = .ok (.lreturn, 1) := by decide +kernel
theorem dX12_inTurns_29 : decode cX12_inTurns 29 = .ok (.iconst 0, 1) := by decide +kernel
theorem dX12_inTurns_30 : decode cX12_inTurns 30 = .ok (.istore_n 2, 1) := by decide +kernel
theorem dX12_inTurns_31 : decode cX12_inTurns 31 = .ok (.iconst 0, 1) := by decide +kernel
theorem dX12_inTurns_32 : decode cX12_inTurns 32 = .ok (.istore_n 3, 1) := by decide +kernel
theorem dX12_inTurns_33 : decode cX12_inTurns 33 = .ok (.iload_n 3, 1) := by decide +kernel
theorem dX12_inTurns_34 : decode cX12_inTurns 34 = .ok (.iload_n 1, 1) := by decide +kernel
theorem dX12_inTurns_35 : decode cX12_inTurns 35 = .ok (.if_icmp .ge 37, 3) := by decide +kernel
theorem dX12_inTurns_38 : decode cX12_inTurns 38 = .ok (.aload_n 0, 1) := by decide +kernel
theorem dX12_inTurns_39 : decode cX12_inTurns 39 = .ok (.getfield 7, 3) := by decide +kernel
theorem dX12_inTurns_42 : decode cX12_inTurns 42 = .ok (.iload_n 3, 1) := by decide +kernel
theorem dX12_inTurns_43 : decode cX12_inTurns 43 = .ok (.iaload, 1) := by decide +kernel
theorem dX12_inTurns_44 : decode cX12_inTurns 44 = .ok (.aload_n 0, 1) := by decide +kernel
theorem dX12_inTurns_45 : decode cX12_inTurns 45 = .ok (.getfield 306, 3) := by decide +kernel
theorem dX12_inTurns_48 : decode cX12_inTurns 48 = .ok (.if_icmp .lt 7, 3) := by decide +kernel
theorem dX12_inTurns_51 : decode cX12_inTurns 51 = .ok (.ldc2_w 128, 3) := by decide +kernel
theorem dX12_inTurns_54 : decode cX12_inTurns 54 = .ok (.lreturn, 1) := by decide +kernel
theorem dX12_inTurns_55 : decode cX12_inTurns 55 = .ok (.iload_n 2, 1) := by decide +kernel
theorem dX12_inTurns_56 : decode cX12_inTurns 56 = .ok (.iconst 1, 1) := by decide +kernel
theorem dX12_inTurns_57 : decode cX12_inTurns 57 = .ok (.aload_n 0, 1) := by decide +kernel
theorem dX12_inTurns_58 : decode cX12_inTurns 58 = .ok (.getfield 7, 3) := by decide +kernel
theorem dX12_inTurns_61 : decode cX12_inTurns 61 = .ok (.iload_n 3, 1) := by decide +kernel
theorem dX12_inTurns_62 : decode cX12_inTurns 62 = .ok (.iaload, 1) := by decide +kernel
theorem dX12_inTurns_63 : decode cX12_inTurns 63 = .ok (.ishl, 1) := by decide +kernel
theorem dX12_inTurns_64 : decode cX12_inTurns 64 = .ok (.ior, 1) := by decide +kernel
theorem dX12_inTurns_65 : decode cX12_inTurns 65 = .ok (.istore_n 2, 1) := by decide +kernel
theorem dX12_inTurns_66 : decode cX12_inTurns 66 = .ok (.iinc 3 1, 3) := by decide +kernel
theorem dX12_inTurns_69 : decode cX12_inTurns 69 = .ok (.goto (-36), 3) := by decide +kernel
theorem dX12_inTurns_72 : decode cX12_inTurns 72 = .ok (.iload_n 2, 1) := by decide +kernel
theorem dX12_inTurns_73 : decode cX12_inTurns 73 = .ok (.iconst 1, 1) := by decide +kernel
theorem dX12_inTurns_74 : decode cX12_inTurns 74 = .ok (.aload_n 0, 1) := by decide +kernel
theorem dX12_inTurns_75 : decode cX12_inTurns 75 = .ok (.getfield 306, 3) := by decide +kernel
theorem dX12_inTurns_78 : decode cX12_inTurns 78 = .ok (.ishl, 1) := by decide +kernel
theorem dX12_inTurns_79 : decode cX12_inTurns 79 = .ok (.iconst 1, 1) := by decide +kernel
theorem dX12_inTurns_80 : decode cX12_inTurns 80 = .ok (.isub, 1) := by decide +kernel
theorem dX12_inTurns_81 : decode cX12_inTurns 81 = .ok (.if_icmp .eq 7, 3) := by decide +kernel
theorem dX12_inTurns_84 : decode cX12_inTurns 84 = .ok (.ldc2_w 128, 3) := by decide +kernel
theorem dX12_inTurns_87 : decode cX12_inTurns 87 = .ok (.lreturn, 1) := by decide +kernel
theorem dX12_inTurns_88 : decode cX12_inTurns 88 = .ok (.iconst 0, 1) := by decide +kernel
theorem dX12_inTurns_89 : decode cX12_inTurns 89 = .ok (.istore_n 3, 1) := by decide +kernel
theorem dX12_inTurns_90 : decode cX12_inTurns 90 = .ok (.iload_n 3, 1) := by decide +kernel
theorem dX12_inTurns_91 : decode cX12_inTurns 91 = .ok (.iload_n 1, 1) := by decide +kernel
theorem dX12_inTurns_92 : decode cX12_inTurns 92 = .ok (.if_icmp .ge 33, 3) := by decide +kernel
theorem dX12_inTurns_95 : decode cX12_inTurns 95 = .ok (.aload_n 0, 1) := by decide +kernel
theorem dX12_inTurns_96 : decode cX12_inTurns 96 = .ok (.getfield 109, 3) := by decide +kernel
theorem dX12_inTurns_99 : decode cX12_inTurns 99 = .ok (.iload_n 3, 1) := by decide +kernel
theorem dX12_inTurns_100 : decode cX12_inTurns 100 = .ok (.aload_n 0, 1) := by decide +kernel
theorem dX12_inTurns_101 : decode cX12_inTurns 101 = .ok (.getfield 7, 3) := by decide +kernel
theorem dX12_inTurns_104 : decode cX12_inTurns 104 = .ok (.iload_n 3, 1) := by decide +kernel
theorem dX12_inTurns_105 : decode cX12_inTurns 105 = .ok (.iaload, 1) := by decide +kernel
theorem dX12_inTurns_106 : decode cX12_inTurns 106 = .ok (.iastore, 1) := by decide +kernel
theorem dX12_inTurns_107 : decode cX12_inTurns 107 = .ok (.aload_n 0, 1) := by decide +kernel
theorem dX12_inTurns_108 : decode cX12_inTurns 108 = .ok (.getfield 89, 3) := by decide +kernel
theorem dX12_inTurns_111 : decode cX12_inTurns 111 = .ok (.iload_n 3, 1) := by decide +kernel
theorem dX12_inTurns_112 : decode cX12_inTurns 112 = .ok (.aload_n 0, 1) := by decide +kernel
theorem dX12_inTurns_113 : decode cX12_inTurns 113 = .ok (.getfield 7, 3) := by decide +kernel
theorem dX12_inTurns_116 : decode cX12_inTurns 116 = .ok (.iload_n 3, 1) := by decide +kernel
theorem dX12_inTurns_117 : decode cX12_inTurns 117 = .ok (.iaload, 1) := by decide +kernel
theorem dX12_inTurns_118 : decode cX12_inTurns 118 = .ok (.iastore, 1) := by decide +kernel
theorem dX12_inTurns_119 : decode cX12_inTurns 119 = .ok (.iinc 3 1, 3) := by decide +kernel
theorem dX12_inTurns_122 : decode cX12_inTurns 122 = .ok (.goto (-32), 3) := by decide +kernel
theorem dX12_inTurns_125 : decode cX12_inTurns 125 = .ok (.aload_n 0, 1) := by decide +kernel
theorem dX12_inTurns_126 : decode cX12_inTurns 126 = .ok (.iload_n 1, 1) := by decide +kernel
theorem dX12_inTurns_127 : decode cX12_inTurns 127 = .ok (.putfield 405, 3) := by decide +kernel
theorem dX12_inTurns_130 : decode cX12_inTurns 130 = .ok (.aload_n 0, 1) := by decide +kernel
theorem dX12_inTurns_131 : decode cX12_inTurns 131 = .ok (.iload_n 1, 1) := by decide +kernel
theorem dX12_inTurns_132 : decode cX12_inTurns 132 = .ok (.putfield 399, 3) := by decide +kernel
theorem dX12_inTurns_135 : decode cX12_inTurns 135 = .ok (.aload_n 0, 1) := by decide +kernel
theorem dX12_inTurns_136 : decode cX12_inTurns 136 = .ok (.invokevirtual 408, 3) := by decide +kernel
theorem dX12_inTurns_139 : decode cX12_inTurns 139 = .ok (.iconst 0, 1) := by decide +kernel
theorem dX12_inTurns_140 : decode cX12_inTurns 140 = .ok (.istore_n 3, 1) := by decide +kernel
theorem dX12_inTurns_141 : decode cX12_inTurns 141 = .ok (.iload_n 3, 1) := by decide +kernel
theorem dX12_inTurns_142 : decode cX12_inTurns 142 = .ok (.ldc 98, 2) := by decide +kernel
theorem dX12_inTurns_144 : decode cX12_inTurns 144 = .ok (.if_icmp .ge 21, 3) := by decide +kernel
theorem dX12_inTurns_147 : decode cX12_inTurns 147 = .ok (.aload_n 0, 1) := by decide +kernel
theorem dX12_inTurns_148 : decode cX12_inTurns 148 = .ok (.getfield 112, 3) := by decide +kernel
theorem dX12_inTurns_151 : decode cX12_inTurns 151 = .ok (.iload_n 3, 1) := by decide +kernel
theorem dX12_inTurns_152 : decode cX12_inTurns 152 = .ok (.aload_n 0, 1) := by decide +kernel
theorem dX12_inTurns_153 : decode cX12_inTurns 153 = .ok (.getfield 99, 3) := by decide +kernel
theorem dX12_inTurns_156 : decode cX12_inTurns 156 = .ok (.iload_n 3, 1) := by decide +kernel
theorem dX12_inTurns_157 : decode cX12_inTurns 157 = .ok (.iaload, 1) := by decide +kernel
theorem dX12_inTurns_158 : decode cX12_inTurns 158 = .ok (.iastore, 1) := by decide +kernel
theorem dX12_inTurns_159 : decode cX12_inTurns 159 = .ok (.iinc 3 1, 3) := by decide +kernel
theorem dX12_inTurns_162 : decode cX12_inTurns 162 = .ok (.goto (-21), 3) := by decide +kernel
theorem dX12_inTurns_165 : decode cX12_inTurns 165 = .ok (.iconst 0, 1) := by decide +kernel
theorem dX12_inTurns_166 : decode cX12_inTurns 166 = .ok (.istore_n 3, 1) := by decide +kernel
theorem dX12_inTurns_167 : decode cX12_inTurns 167 = .ok (.iload_n 3, 1) := by decide +kernel
theorem dX12_inTurns_168 : decode cX12_inTurns 168 = .ok (.iload_n 1, 1) := by decide +kernel
theorem dX12_inTurns_169 : decode cX12_inTurns 169 = .ok (.if_icmp .ge 21, 3) := by decide +kernel
theorem dX12_inTurns_172 : decode cX12_inTurns 172 = .ok (.aload_n 0, 1) := by decide +kernel
theorem dX12_inTurns_173 : decode cX12_inTurns 173 = .ok (.getfield 115, 3) := by decide +kernel
theorem dX12_inTurns_176 : decode cX12_inTurns 176 = .ok (.iload_n 3, 1) := by decide +kernel
theorem dX12_inTurns_177 : decode cX12_inTurns 177 = .ok (.aload_n 0, 1) := by decide +kernel
theorem dX12_inTurns_178 : decode cX12_inTurns 178 = .ok (.getfield 29, 3) := by decide +kernel
theorem dX12_inTurns_181 : decode cX12_inTurns 181 = .ok (.iload_n 3, 1) := by decide +kernel
theorem dX12_inTurns_182 : decode cX12_inTurns 182 = .ok (.iaload, 1) := by decide +kernel
theorem dX12_inTurns_183 : decode cX12_inTurns 183 = .ok (.iastore, 1) := by decide +kernel
theorem dX12_inTurns_184 : decode cX12_inTurns 184 = .ok (.iinc 3 1, 3) := by decide +kernel
theorem dX12_inTurns_187 : decode cX12_inTurns 187 = .ok (.goto (-20), 3) := by decide +kernel
theorem dX12_inTurns_190 : decode cX12_inTurns 190 = .ok (.aload_n 0, 1) := by decide +kernel
theorem dX12_inTurns_191 : decode cX12_inTurns 191 = .ok (.lconst 0, 1) := by decide +kernel
theorem dX12_inTurns_192 : decode cX12_inTurns 192 = .ok (.putfield 411, 3) := by decide +kernel
theorem dX12_inTurns_195 : decode cX12_inTurns 195 = .ok (.aload_n 0, 1) := by decide +kernel
theorem dX12_inTurns_196 : decode cX12_inTurns 196 = .ok (.lconst 0, 1) := by decide +kernel
theorem dX12_inTurns_197 : decode cX12_inTurns 197 = .ok (.putfield 414, 3) := by decide +kernel
theorem dX12_inTurns_200 : decode cX12_inTurns 200 = .ok (.aload_n 0, 1) := by decide +kernel
theorem dX12_inTurns_201 : decode cX12_inTurns 201 = .ok (.lconst 0, 1) := by decide +kernel
theorem dX12_inTurns_202 : decode cX12_inTurns 202 = .ok (.putfield 417, 3) := by decide +kernel
theorem dX12_inTurns_205 : decode cX12_inTurns 205 = .ok (.iconst 0, 1) := by decide +kernel
theorem dX12_inTurns_206 : decode cX12_inTurns 206 = .ok (.istore_n 3, 1) := by decide +kernel
theorem dX12_inTurns_207 : decode cX12_inTurns 207 = .ok (.iload_n 3, 1) := by decide +kernel
theorem dX12_inTurns_208 : decode cX12_inTurns 208 = .ok (.aload_n 0, 1) := by decide +kernel
theorem dX12_inTurns_209 : decode cX12_inTurns 209 = .ok (.getfield 309, 3) := by decide +kernel
theorem dX12_inTurns_212 : decode cX12_inTurns 212 = .ok (.if_icmp .ge 144, 3) := by decide +kernel
theorem dX12_inTurns_215 : decode cX12_inTurns 215 = .ok (.aload_n 0, 1) := by decide +kernel
theorem dX12_inTurns_216 : decode cX12_inTurns 216 = .ok (.iload_n 3, 1) := by decide +kernel
theorem dX12_inTurns_217 : decode cX12_inTurns 217 = .ok (.invokevirtual 402, 3) := by decide +kernel
theorem dX12_inTurns_220 : decode cX12_inTurns 220 = .ok (.istore 4, 2) := by decide +kernel
theorem dX12_inTurns_222 : decode cX12_inTurns 222 = .ok (.aload_n 0, 1) := by decide +kernel
theorem dX12_inTurns_223 : decode cX12_inTurns 223 = .ok (.iload_n 1, 1) := by decide +kernel
theorem dX12_inTurns_224 : decode cX12_inTurns 224 = .ok (.invokevirtual 420, 3) := by decide +kernel
theorem dX12_inTurns_227 : decode cX12_inTurns 227 = .ok (.istore 5, 2) := by decide +kernel
theorem dX12_inTurns_229 : decode cX12_inTurns 229 = .ok (.iload 5, 2) := by decide +kernel
theorem dX12_inTurns_231 : decode cX12_inTurns 231 = .ok (.iconst (-1), 1) := by decide +kernel
theorem dX12_inTurns_232 : decode cX12_inTurns 232 = .ok (.if_icmp .eq 15, 3) := by decide +kernel
theorem dX12_inTurns_235 : decode cX12_inTurns 235 = .ok (.iload 5, 2) := by decide +kernel
theorem dX12_inTurns_237 : decode cX12_inTurns 237 = .ok (.iload_n 1, 1) := by decide +kernel
theorem dX12_inTurns_238 : decode cX12_inTurns 238 = .ok (.iconst 1, 1) := by decide +kernel
theorem dX12_inTurns_239 : decode cX12_inTurns 239 = .ok (.isub, 1) := by decide +kernel
theorem dX12_inTurns_240 : decode cX12_inTurns 240 = .ok (.if_icmp .ge 7, 3) := by decide +kernel
theorem dX12_inTurns_243 : decode cX12_inTurns 243 = .ok (.iconst 1, 1) := by decide +kernel
theorem dX12_inTurns_244 : decode cX12_inTurns 244 = .ok (.goto 4, 3) := by decide +kernel
theorem dX12_inTurns_247 : decode cX12_inTurns 247 = .ok (.iconst 0, 1) := by decide +kernel
theorem dX12_inTurns_248 : decode cX12_inTurns 248 = .ok (.istore 6, 2) := by decide +kernel
theorem dX12_inTurns_250 : decode cX12_inTurns 250 = .ok (.iconst 0, 1) := by decide +kernel
theorem dX12_inTurns_251 : decode cX12_inTurns 251 = .ok (.istore 7, 2) := by decide +kernel
theorem dX12_inTurns_253 : decode cX12_inTurns 253 = .ok (.iload 7, 2) := by decide +kernel
theorem dX12_inTurns_255 : decode cX12_inTurns 255 = .ok (.aload_n 0, 1) := by decide +kernel
theorem dX12_inTurns_256 : decode cX12_inTurns 256 = .ok (.getfield 303, 3) := by decide +kernel
theorem dX12_inTurns_259 : decode cX12_inTurns 259 = .ok (.if_icmp .ge 91, 3) := by decide +kernel
theorem dX12_inTurns_262 : decode cX12_inTurns 262 = .ok (.iload 7, 2) := by decide +kernel
theorem dX12_inTurns_264 : decode cX12_inTurns 264 = .ok (.iload 4, 2) := by decide +kernel
theorem dX12_inTurns_266 : decode cX12_inTurns 266 = .ok (.if_icmp .ne 23, 3) := by decide +kernel
theorem dX12_inTurns_269 : decode cX12_inTurns 269 = .ok (.aload_n 0, 1) := by decide +kernel
theorem dX12_inTurns_270 : decode cX12_inTurns 270 = .ok (.dup, 1) := by decide +kernel
theorem dX12_inTurns_271 : decode cX12_inTurns 271 = .ok (.getfield 417, 3) := by decide +kernel
theorem dX12_inTurns_274 : decode cX12_inTurns 274 = .ok (.aload_n 0, 1) := by decide +kernel
theorem dX12_inTurns_275 : decode cX12_inTurns 275 = .ok (.getfield 65, 3) := by decide +kernel
theorem dX12_inTurns_278 : decode cX12_inTurns 278 = .ok (.iconst 3, 1) := by decide +kernel
theorem dX12_inTurns_279 : decode cX12_inTurns 279 = .ok (.iload_n 3, 1) := by decide +kernel
theorem dX12_inTurns_280 : decode cX12_inTurns 280 = .ok (.imul, 1) := by decide +kernel
theorem dX12_inTurns_281 : decode cX12_inTurns 281 = .ok (.iload 7, 2) := by decide +kernel
theorem dX12_inTurns_283 : decode cX12_inTurns 283 = .ok (.iadd, 1) := by decide +kernel
theorem dX12_inTurns_284 : decode cX12_inTurns 284 = .ok (.laload, 1) := by decide +kernel
theorem dX12_inTurns_285 : decode cX12_inTurns 285 = .ok (.ladd, 1) := by decide +kernel
theorem dX12_inTurns_286 : decode cX12_inTurns 286 = .ok (.putfield 417, 3) := by decide +kernel
theorem dX12_inTurns_289 : decode cX12_inTurns 289 = .ok (.iload 6, 2) := by decide +kernel
theorem dX12_inTurns_291 : decode cX12_inTurns 291 = .ok (.ifCond .ne 6, 3) := by decide +kernel
theorem dX12_inTurns_294 : decode cX12_inTurns 294 = .ok (.goto 50, 3) := by decide +kernel
theorem dX12_inTurns_297 : decode cX12_inTurns 297 = .ok (.aload_n 0, 1) := by decide +kernel
theorem dX12_inTurns_298 : decode cX12_inTurns 298 = .ok (.dup, 1) := by decide +kernel
theorem dX12_inTurns_299 : decode cX12_inTurns 299 = .ok (.getfield 411, 3) := by decide +kernel
theorem dX12_inTurns_302 : decode cX12_inTurns 302 = .ok (.aload_n 0, 1) := by decide +kernel
theorem dX12_inTurns_303 : decode cX12_inTurns 303 = .ok (.getfield 65, 3) := by decide +kernel
theorem dX12_inTurns_306 : decode cX12_inTurns 306 = .ok (.iconst 3, 1) := by decide +kernel
theorem dX12_inTurns_307 : decode cX12_inTurns 307 = .ok (.iload_n 3, 1) := by decide +kernel
theorem dX12_inTurns_308 : decode cX12_inTurns 308 = .ok (.imul, 1) := by decide +kernel
theorem dX12_inTurns_309 : decode cX12_inTurns 309 = .ok (.iload 7, 2) := by decide +kernel
theorem dX12_inTurns_311 : decode cX12_inTurns 311 = .ok (.iadd, 1) := by decide +kernel
theorem dX12_inTurns_312 : decode cX12_inTurns 312 = .ok (.laload, 1) := by decide +kernel
theorem dX12_inTurns_313 : decode cX12_inTurns 313 = .ok (.ladd, 1) := by decide +kernel
theorem dX12_inTurns_314 : decode cX12_inTurns 314 = .ok (.putfield 411, 3) := by decide +kernel
theorem dX12_inTurns_317 : decode cX12_inTurns 317 = .ok (.iload 7, 2) := by decide +kernel
theorem dX12_inTurns_319 : decode cX12_inTurns 319 = .ok (.iload 4, 2) := by decide +kernel
theorem dX12_inTurns_321 : decode cX12_inTurns 321 = .ok (.if_icmp .eq 23, 3) := by decide +kernel
theorem dX12_inTurns_324 : decode cX12_inTurns 324 = .ok (.aload_n 0, 1) := by decide +kernel
theorem dX12_inTurns_325 : decode cX12_inTurns 325 = .ok (.dup, 1) := by decide +kernel
theorem dX12_inTurns_326 : decode cX12_inTurns 326 = .ok (.getfield 414, 3) := by decide +kernel
theorem dX12_inTurns_329 : decode cX12_inTurns 329 = .ok (.aload_n 0, 1) := by decide +kernel
theorem dX12_inTurns_330 : decode cX12_inTurns 330 = .ok (.getfield 65, 3) := by decide +kernel
theorem dX12_inTurns_333 : decode cX12_inTurns 333 = .ok (.iconst 3, 1) := by decide +kernel
theorem dX12_inTurns_334 : decode cX12_inTurns 334 = .ok (.iload_n 3, 1) := by decide +kernel
theorem dX12_inTurns_335 : decode cX12_inTurns 335 = .ok (.imul, 1) := by decide +kernel
theorem dX12_inTurns_336 : decode cX12_inTurns 336 = .ok (.iload 7, 2) := by decide +kernel
theorem dX12_inTurns_338 : decode cX12_inTurns 338 = .ok (.iadd, 1) := by decide +kernel
theorem dX12_inTurns_339 : decode cX12_inTurns 339 = .ok (.laload, 1) := by decide +kernel
theorem dX12_inTurns_340 : decode cX12_inTurns 340 = .ok (.ladd, 1) := by decide +kernel
theorem dX12_inTurns_341 : decode cX12_inTurns 341 = .ok (.putfield 414, 3) := by decide +kernel
theorem dX12_inTurns_344 : decode cX12_inTurns 344 = .ok (.iinc 7 1, 3) := by decide +kernel
theorem dX12_inTurns_347 : decode cX12_inTurns 347 = .ok (.goto (-94), 3) := by decide +kernel
theorem dX12_inTurns_350 : decode cX12_inTurns 350 = .ok (.iinc 3 1, 3) := by decide +kernel
theorem dX12_inTurns_353 : decode cX12_inTurns 353 = .ok (.goto (-146), 3) := by decide +kernel
theorem dX12_inTurns_356 : decode cX12_inTurns 356 = .ok (.aload_n 0, 1) := by decide +kernel
theorem dX12_inTurns_357 : decode cX12_inTurns 357 = .ok (.invokevirtual 423, 3) := by decide +kernel
theorem dX12_inTurns_360 : decode cX12_inTurns 360 = .ok (.lreturn, 1) := by decide +kernel
theorem dX12_init_0 : decode cX12_init 0 = .ok (.aload_n 0, 1) := by decide +kernel
theorem dX12_init_1 : decode cX12_init 1 = .ok (.invokespecial 1, 3) := by decide +kernel
theorem dX12_init_4 : decode cX12_init 4 = .ok (.aload_n 0, 1) := by decide +kernel
theorem dX12_init_5 : decode cX12_init 5 = .ok (.sipush 740, 3) := by decide +kernel
theorem dX12_init_8 : decode cX12_init 8 = .ok (.newarray .int, 2) := by decide +kernel
theorem dX12_init_10 : decode cX12_init 10 = .ok (.putfield 7, 3) := by decide +kernel
theorem dX12_init_13 : decode cX12_init 13 = .ok (.aload_n 0, 1) := by decide +kernel
theorem dX12_init_14 : decode cX12_init 14 = .ok (.bipush 6, 2) := by decide +kernel
theorem dX12_init_16 : decode cX12_init 16 = .ok (.newarray .long, 2) := by decide +kernel
theorem dX12_init_18 : decode cX12_init 18 = .ok (.putfield 13, 3) := by decide +kernel
theorem dX12_init_21 : decode cX12_init 21 = .ok (.aload_n 0, 1) := by decide +kernel
theorem dX12_init_22 : decode cX12_init 22 = .ok (.bipush 14, 2) := by decide +kernel
theorem dX12_init_24 : decode cX12_init 24 = .ok (.newarray .long, 2) := by decide +kernel
theorem dX12_init_26 : decode cX12_init 26 = .ok (.putfield 17, 3) := by decide +kernel
theorem dX12_init_29 : decode cX12_init 29 = .ok (.aload_n 0, 1) := by decide +kernel
theorem dX12_init_30 : decode cX12_init 30 = .ok (.iconst 2, 1) := by decide +kernel
theorem dX12_init_31 : decode cX12_init 31 = .ok (.newarray .int, 2) := by decide +kernel
theorem dX12_init_33 : decode cX12_init 33 = .ok (.putfield 20, 3) := by decide +kernel
theorem dX12_init_36 : decode cX12_init 36 = .ok (.aload_n 0, 1) := by decide +kernel
theorem dX12_init_37 : decode cX12_init 37 = .ok (.iconst 2, 1) := by decide +kernel
theorem dX12_init_38 : decode cX12_init 38 = .ok (.newarray .int, 2) := by decide +kernel
theorem dX12_init_40 : decode cX12_init 40 = .ok (.putfield 23, 3) := by decide +kernel
theorem dX12_init_43 : decode cX12_init 43 = .ok (.aload_n 0, 1) := by decide +kernel
theorem dX12_init_44 : decode cX12_init 44 = .ok (.bipush 6, 2) := by decide +kernel
theorem dX12_init_46 : decode cX12_init 46 = .ok (.newarray .int, 2) := by decide +kernel
theorem dX12_init_48 : decode cX12_init 48 = .ok (.putfield 26, 3) := by decide +kernel
theorem dX12_init_51 : decode cX12_init 51 = .ok (.aload_n 0, 1) := by decide +kernel
theorem dX12_init_52 : decode cX12_init 52 = .ok (.bipush 14, 2) := by decide +kernel
theorem dX12_init_54 : decode cX12_init 54 = .ok (.newarray .int, 2) := by decide +kernel
theorem dX12_init_56 : decode cX12_init 56 = .ok (.putfield 29, 3) := by decide +kernel
theorem dX12_init_59 : decode cX12_init 59 = .ok (.aload_n 0, 1) := by decide +kernel
theorem dX12_init_60 : decode cX12_init 60 = .ok (.bipush 126, 2) := by decide +kernel
theorem dX12_init_62 : decode cX12_init 62 = .ok (.newarray .int, 2) := by decide +kernel
theorem dX12_init_64 : decode cX12_init 64 = .ok (.putfield 32, 3) := by decide +kernel
theorem dX12_init_67 : decode cX12_init 67 = .ok (.aload_n 0, 1) := by decide +kernel
theorem dX12_init_68 : decode cX12_init 68 = .ok (.sipush 144, 3) := by decide +kernel
theorem dX12_init_71 : decode cX12_init 71 = .ok (.newarray .int, 2) := by decide +kernel
theorem dX12_init_73 : decode cX12_init 73 = .ok (.putfield 35, 3) := by decide +kernel
theorem dX12_init_76 : decode cX12_init 76 = .ok (.aload_n 0, 1) := by decide +kernel
theorem dX12_init_77 : decode cX12_init 77 = .ok (.bipush 14, 2) := by decide +kernel
theorem dX12_init_79 : decode cX12_init 79 = .ok (.newarray .int, 2) := by decide +kernel
theorem dX12_init_81 : decode cX12_init 81 = .ok (.putfield 38, 3) := by decide +kernel
theorem dX12_init_84 : decode cX12_init 84 = .ok (.aload_n 0, 1) := by decide +kernel
theorem dX12_init_85 : decode cX12_init 85 = .ok (.bipush 14, 2) := by decide +kernel
theorem dX12_init_87 : decode cX12_init 87 = .ok (.newarray .int, 2) := by decide +kernel
theorem dX12_init_89 : decode cX12_init 89 = .ok (.putfield 41, 3) := by decide +kernel
theorem dX12_init_92 : decode cX12_init 92 = .ok (.aload_n 0, 1) := by decide +kernel
theorem dX12_init_93 : decode cX12_init 93 = .ok (.bipush 42, 2) := by decide +kernel
theorem dX12_init_95 : decode cX12_init 95 = .ok (.newarray .int, 2) := by decide +kernel
theorem dX12_init_97 : decode cX12_init 97 = .ok (.putfield 44, 3) := by decide +kernel
theorem dX12_init_100 : decode cX12_init 100 = .ok (.aload_n 0, 1) := by decide +kernel
theorem dX12_init_101 : decode cX12_init 101 = .ok (.bipush 14, 2) := by decide +kernel
theorem dX12_init_103 : decode cX12_init 103 = .ok (.newarray .int, 2) := by decide +kernel
theorem dX12_init_105 : decode cX12_init 105 = .ok (.putfield 47, 3) := by decide +kernel
theorem dX12_init_108 : decode cX12_init 108 = .ok (.aload_n 0, 1) := by decide +kernel
theorem dX12_init_109 : decode cX12_init 109 = .ok (.iconst 2, 1) := by decide +kernel
theorem dX12_init_110 : decode cX12_init 110 = .ok (.newarray .int, 2) := by decide +kernel
theorem dX12_init_112 : decode cX12_init 112 = .ok (.putfield 50, 3) := by decide +kernel
theorem dX12_init_115 : decode cX12_init 115 = .ok (.aload_n 0, 1) := by decide +kernel
theorem dX12_init_116 : decode cX12_init 116 = .ok (.iconst 2, 1) := by decide +kernel
theorem dX12_init_117 : decode cX12_init 117 = .ok (.newarray .int, 2) := by decide +kernel
theorem dX12_init_119 : decode cX12_init 119 = .ok (.putfield 53, 3) := by decide +kernel
theorem dX12_init_122 : decode cX12_init 122 = .ok (.aload_n 0, 1) := by decide +kernel
theorem dX12_init_123 : decode cX12_init 123 = .ok (.iconst 2, 1) := by decide +kernel
theorem dX12_init_124 : decode cX12_init 124 = .ok (.newarray .int, 2) := by decide +kernel
theorem dX12_init_126 : decode cX12_init 126 = .ok (.putfield 56, 3) := by decide +kernel
theorem dX12_init_129 : decode cX12_init 129 = .ok (.aload_n 0, 1) := by decide +kernel
theorem dX12_init_130 : decode cX12_init 130 = .ok (.iconst 2, 1) := by decide +kernel
theorem dX12_init_131 : decode cX12_init 131 = .ok (.newarray .int, 2) := by decide +kernel
theorem dX12_init_133 : decode cX12_init 133 = .ok (.putfield 59, 3) := by decide +kernel
theorem dX12_init_136 : decode cX12_init 136 = .ok (.aload_n 0, 1) := by decide +kernel
theorem dX12_init_137 : decode cX12_init 137 = .ok (.bipush 8, 2) := by decide +kernel
theorem dX12_init_139 : decode cX12_init 139 = .ok (.newarray .int, 2) := by decide +kernel
theorem dX12_init_141 : decode cX12_init 141 = .ok (.putfield 62, 3) := by decide +kernel
theorem dX12_init_144 : decode cX12_init 144 = .ok (.aload_n 0, 1) := by decide +kernel
theorem dX12_init_145 : decode cX12_init 145 = .ok (.sipush 6561, 3) := by decide +kernel
theorem dX12_init_148 : decode cX12_init 148 = .ok (.newarray .long, 2) := by decide +kernel
theorem dX12_init_150 : decode cX12_init 150 = .ok (.putfield 65, 3) := by decide +kernel
theorem dX12_init_153 : decode cX12_init 153 = .ok (.aload_n 0, 1) := by decide +kernel
theorem dX12_init_154 : decode cX12_init 154 = .ok (.bipush 42, 2) := by decide +kernel
theorem dX12_init_156 : decode cX12_init 156 = .ok (.newarray .int, 2) := by decide +kernel
theorem dX12_init_158 : decode cX12_init 158 = .ok (.putfield 68, 3) := by decide +kernel
theorem dX12_init_161 : decode cX12_init 161 = .ok (.aload_n 0, 1) := by decide +kernel
theorem dX12_init_162 : decode cX12_init 162 = .ok (.bipush 7, 2) := by decide +kernel
theorem dX12_init_164 : decode cX12_init 164 = .ok (.newarray .int, 2) := by decide +kernel
theorem dX12_init_166 : decode cX12_init 166 = .ok (.putfield 71, 3) := by decide +kernel
theorem dX12_init_169 : decode cX12_init 169 = .ok (.aload_n 0, 1) := by decide +kernel
theorem dX12_init_170 : decode cX12_init 170 = .ok (.bipush 10, 2) := by decide +kernel
theorem dX12_init_172 : decode cX12_init 172 = .ok (.newarray .int, 2) := by decide +kernel
theorem dX12_init_174 : decode cX12_init 174 = .ok (.putfield 74, 3) := by decide +kernel
theorem dX12_init_177 : decode cX12_init 177 = .ok (.aload_n 0, 1) := by decide +kernel
theorem dX12_init_178 : decode cX12_init 178 = .ok (.iconst 4, 1) := by decide +kernel
theorem dX12_init_179 : decode cX12_init 179 = .ok (.newarray .long, 2) := by decide +kernel
theorem dX12_init_181 : decode cX12_init 181 = .ok (.putfield 77, 3) := by decide +kernel
theorem dX12_init_184 : decode cX12_init 184 = .ok (.aload_n 0, 1) := by decide +kernel
theorem dX12_init_185 : decode cX12_init 185 = .ok (.bipush 21, 2) := by decide +kernel
theorem dX12_init_187 : decode cX12_init 187 = .ok (.newarray .int, 2) := by decide +kernel
theorem dX12_init_189 : decode cX12_init 189 = .ok (.putfield 80, 3) := by decide +kernel
theorem dX12_init_192 : decode cX12_init 192 = .ok (.aload_n 0, 1) := by decide +kernel
theorem dX12_init_193 : decode cX12_init 193 = .ok (.bipush 7, 2) := by decide +kernel
theorem dX12_init_195 : decode cX12_init 195 = .ok (.newarray .int, 2) := by decide +kernel
theorem dX12_init_197 : decode cX12_init 197 = .ok (.putfield 83, 3) := by decide +kernel
theorem dX12_init_200 : decode cX12_init 200 = .ok (.aload_n 0, 1) := by decide +kernel
theorem dX12_init_201 : decode cX12_init 201 = .ok (.iconst 3, 1) := by decide +kernel
theorem dX12_init_202 : decode cX12_init 202 = .ok (.newarray .int, 2) := by decide +kernel
theorem dX12_init_204 : decode cX12_init 204 = .ok (.putfield 86, 3) := by decide +kernel
theorem dX12_init_207 : decode cX12_init 207 = .ok (.aload_n 0, 1) := by decide +kernel
theorem dX12_init_208 : decode cX12_init 208 = .ok (.bipush 7, 2) := by decide +kernel
theorem dX12_init_210 : decode cX12_init 210 = .ok (.newarray .int, 2) := by decide +kernel
theorem dX12_init_212 : decode cX12_init 212 = .ok (.putfield 89, 3) := by decide +kernel
theorem dX12_init_215 : decode cX12_init 215 = .ok (.aload_n 0, 1) := by decide +kernel
theorem dX12_init_216 : decode cX12_init 216 = .ok (.sipush 2187, 3) := by decide +kernel
theorem dX12_init_219 : decode cX12_init 219 = .ok (.newarray .int, 2) := by decide +kernel
theorem dX12_init_221 : decode cX12_init 221 = .ok (.putfield 92, 3) := by decide +kernel
theorem dX12_init_224 : decode cX12_init 224 = .ok (.aload_n 0, 1) := by decide +kernel
theorem dX12_init_225 : decode cX12_init 225 = .ok (.bipush 21, 2) := by decide +kernel
theorem dX12_init_227 : decode cX12_init 227 = .ok (.newarray .int, 2) := by decide +kernel
theorem dX12_init_229 : decode cX12_init 229 = .ok (.putfield 95, 3) := by decide +kernel
theorem dX12_init_232 : decode cX12_init 232 = .ok (.aload_n 0, 1) := by decide +kernel
theorem dX12_init_233 : decode cX12_init 233 = .ok (.ldc 98, 2) := by decide +kernel
theorem dX12_init_235 : decode cX12_init 235 = .ok (.newarray .int, 2) := by decide +kernel
theorem dX12_init_237 : decode cX12_init 237 = .ok (.putfield 99, 3) := by decide +kernel
theorem dX12_init_240 : decode cX12_init 240 = .ok (.aload_n 0, 1) := by decide +kernel
theorem dX12_init_241 : decode cX12_init 241 = .ok (.sipush 19683, 3) := by decide +kernel
theorem dX12_init_244 : decode cX12_init 244 = .ok (.newarray .long, 2) := by decide +kernel
theorem dX12_init_246 : decode cX12_init 246 = .ok (.putfield 102, 3) := by decide +kernel
theorem dX12_init_249 : decode cX12_init 249 = .ok (.aload_n 0, 1) := by decide +kernel
theorem dX12_init_250 : decode cX12_init 250 = .ok (.sipush 6561, 3) := by decide +kernel
theorem dX12_init_253 : decode cX12_init 253 = .ok (.newarray .boolean, 2) := by decide +kernel
theorem dX12_init_255 : decode cX12_init 255 = .ok (.putfield 105, 3) := by decide +kernel
theorem dX12_init_258 : decode cX12_init 258 = .ok (.aload_n 0, 1) := by decide +kernel
theorem dX12_init_259 : decode cX12_init 259 = .ok (.bipush 7, 2) := by decide +kernel
theorem dX12_init_261 : decode cX12_init 261 = .ok (.newarray .int, 2) := by decide +kernel
theorem dX12_init_263 : decode cX12_init 263 = .ok (.putfield 109, 3) := by decide +kernel
theorem dX12_init_266 : decode cX12_init 266 = .ok (.aload_n 0, 1) := by decide +kernel
theorem dX12_init_267 : decode cX12_init 267 = .ok (.ldc 98, 2) := by decide +kernel
theorem dX12_init_269 : decode cX12_init 269 = .ok (.newarray .int, 2) := by decide +kernel
theorem dX12_init_271 : decode cX12_init 271 = .ok (.putfield 112, 3) := by decide +kernel
theorem dX12_init_274 : decode cX12_init 274 = .ok (.aload_n 0, 1) := by decide +kernel
theorem dX12_init_275 : decode cX12_init 275 = .ok (.bipush 7, 2) := by decide +kernel
theorem dX12_init_277 : decode cX12_init 277 = .ok (.newarray .int, 2) := by decide +kernel
theorem dX12_init_279 : decode cX12_init 279 = .ok (.putfield 115, 3) := by decide +kernel
theorem dX12_init_282 : decode cX12_init 282 = .ok (.aload_n 0, 1) := by decide +kernel
theorem dX12_init_283 : decode cX12_init 283 = .ok (.ldc 118, 2) := by decide +kernel
theorem dX12_init_285 : decode cX12_init 285 = .ok (.newarray .long, 2) := by decide +kernel
theorem dX12_init_287 : decode cX12_init 287 = .ok (.putfield 119, 3) := by decide +kernel
theorem dX12_init_290 : decode cX12_init 290 = .ok (.aload_n 0, 1) := by decide +kernel
theorem dX12_init_291 : decode cX12_init 291 = .ok (.sipush 16384, 3) := by decide +kernel
theorem dX12_init_294 : decode cX12_init 294 = .ok (.newarray .boolean, 2) := by decide +kernel
theorem dX12_init_296 : decode cX12_init 296 = .ok (.putfield 122, 3) := by decide +kernel
theorem dX12_init_299 : decode cX12_init 299 = .ok (.aload_n 0, 1) := by decide +kernel
theorem dX12_init_300 : decode cX12_init 300 = .ok (.sipush 768, 3) := by decide +kernel
theorem dX12_init_303 : decode cX12_init 303 = .ok (.newarray .long, 2) := by decide +kernel
theorem dX12_init_305 : decode cX12_init 305 = .ok (.putfield 125, 3) := by decide +kernel
theorem dX12_init_308 : decode cX12_init 308 = .ok (.aload_n 0, 1) := by decide +kernel
theorem dX12_init_309 : decode cX12_init 309 = .ok (.ldc2_w 128, 3) := by decide +kernel
theorem dX12_init_312 : decode cX12_init 312 = .ok (.putfield 130, 3) := by decide +kernel
theorem dX12_init_315 : decode cX12_init 315 = .ok (.aload_n 0, 1) := by decide +kernel
theorem dX12_init_316 : decode cX12_init 316 = .ok (.bipush 7, 2) := by decide +kernel
theorem dX12_init_318 : decode cX12_init 318 = .ok (.newarray .int, 2) := by decide +kernel
theorem dX12_init_320 : decode cX12_init 320 = .ok (.putfield 134, 3) := by decide +kernel
theorem dX12_init_323 : decode cX12_init 323 = .ok (.aload_n 0, 1) := by decide +kernel
theorem dX12_init_324 : decode cX12_init 324 = .ok (.bipush 8, 2) := by decide +kernel
theorem dX12_init_326 : decode cX12_init 326 = .ok (.newarray .int, 2) := by decide +kernel
theorem dX12_init_328 : decode cX12_init 328 = .ok (.putfield 137, 3) := by decide +kernel
theorem dX12_init_331 : decode cX12_init 331 = .ok (.aload_n 0, 1) := by decide +kernel
theorem dX12_init_332 : decode cX12_init 332 = .ok (.bipush 9, 2) := by decide +kernel
theorem dX12_init_334 : decode cX12_init 334 = .ok (.newarray .int, 2) := by decide +kernel
theorem dX12_init_336 : decode cX12_init 336 = .ok (.putfield 140, 3) := by decide +kernel
theorem dX12_init_339 : decode cX12_init 339 = .ok (.aload_n 0, 1) := by decide +kernel
theorem dX12_init_340 : decode cX12_init 340 = .ok (.bipush 21, 2) := by decide +kernel
theorem dX12_init_342 : decode cX12_init 342 = .ok (.newarray .int, 2) := by decide +kernel
theorem dX12_init_344 : decode cX12_init 344 = .ok (.putfield 143, 3) := by decide +kernel
theorem dX12_init_347 : decode cX12_init 347 = .ok (.aload_n 0, 1) := by decide +kernel
theorem dX12_init_348 : decode cX12_init 348 = .ok (.bipush 7, 2) := by decide +kernel
theorem dX12_init_350 : decode cX12_init 350 = .ok (.newarray .int, 2) := by decide +kernel
theorem dX12_init_352 : decode cX12_init 352 = .ok (.putfield 146, 3) := by decide +kernel
theorem dX12_init_355 : decode cX12_init 355 = .ok (.return_, 1) := by decide +kernel
theorem dX12_isDigit_0 : decode cX12_isDigit 0 = .ok (.iload_n 0, 1) := by decide +kernel
theorem dX12_isDigit_1 : decode cX12_isDigit 1 = .ok (.bipush 48, 2) := by decide +kernel
theorem dX12_isDigit_3 : decode cX12_isDigit 3 = .ok (.if_icmp .lt 13, 3) := by decide +kernel
theorem dX12_isDigit_6 : decode cX12_isDigit 6 = .ok (.iload_n 0, 1) := by decide +kernel
theorem dX12_isDigit_7 : decode cX12_isDigit 7 = .ok (.bipush 57, 2) := by decide +kernel
theorem dX12_isDigit_9 : decode cX12_isDigit 9 = .ok (.if_icmp .gt 7, 3) := by decide +kernel
theorem dX12_isDigit_12 : decode cX12_isDigit 12 = .ok (.iconst 1, 1) := by decide +kernel
theorem dX12_isDigit_13 : decode cX12_isDigit 13 = .ok (.goto 4, 3) := by decide +kernel
theorem dX12_isDigit_16 : decode cX12_isDigit 16 = .ok (.iconst 0, 1) := by decide +kernel
theorem dX12_isDigit_17 : decode cX12_isDigit 17 = .ok (.ireturn, 1) := by decide +kernel
theorem dX12_isFitBy_0 : decode cX12_isFitBy 0 = .ok (.iconst 0, 1) := by decide +kernel
theorem dX12_isFitBy_1 : decode cX12_isFitBy 1 = .ok (.istore_n 2, 1) := by decide +kernel
theorem dX12_isFitBy_2 : decode cX12_isFitBy 2 = .ok (.iload_n 2, 1) := by decide +kernel
theorem dX12_isFitBy_3 : decode cX12_isFitBy 3 = .ok (.aload_n 0, 1) := by decide +kernel
theorem dX12_isFitBy_4 : decode cX12_isFitBy 4 = .ok (.getfield 306, 3) := by decide +kernel
theorem dX12_isFitBy_7 : decode cX12_isFitBy 7 = .ok (.if_icmp .ge 54, 3) := by decide +kernel
theorem dX12_isFitBy_10 : decode cX12_isFitBy 10 = .ok (.iconst 0, 1) := by decide +kernel
theorem dX12_isFitBy_11 : decode cX12_isFitBy 11 = .ok (.istore_n 3, 1) := by decide +kernel
theorem dX12_isFitBy_12 : decode cX12_isFitBy 12 = .ok (.iload_n 3, 1) := by decide +kernel
theorem dX12_isFitBy_13 : decode cX12_isFitBy 13 = .ok (.aload_n 0, 1) := by decide +kernel
theorem dX12_isFitBy_14 : decode cX12_isFitBy 14 = .ok (.getfield 29, 3) := by decide +kernel
theorem dX12_isFitBy_17 : decode cX12_isFitBy 17 = .ok (.iload_n 2, 1) := by decide +kernel
theorem dX12_isFitBy_18 : decode cX12_isFitBy 18 = .ok (.iaload, 1) := by decide +kernel
theorem dX12_isFitBy_19 : decode cX12_isFitBy 19 = .ok (.if_icmp .ge 36, 3) := by decide +kernel
theorem dX12_isFitBy_22 : decode cX12_isFitBy 22 = .ok (.aload_n 0, 1) := by decide +kernel
theorem dX12_isFitBy_23 : decode cX12_isFitBy 23 = .ok (.iload_n 2, 1) := by decide +kernel
theorem dX12_isFitBy_24 : decode cX12_isFitBy 24 = .ok (.iload_n 3, 1) := by decide +kernel
theorem dX12_isFitBy_25 : decode cX12_isFitBy 25 = .ok (.iload_n 1, 1) := by decide +kernel
theorem dX12_isFitBy_26 : decode cX12_isFitBy 26 = .ok (.invokevirtual 381, 3) := by decide +kernel
theorem dX12_isFitBy_29 : decode cX12_isFitBy 29 = .ok (.aload_n 0, 1) := by decide +kernel
theorem dX12_isFitBy_30 : decode cX12_isFitBy 30 = .ok (.getfield 68, 3) := by decide +kernel
theorem dX12_isFitBy_33 : decode cX12_isFitBy 33 = .ok (.bipush 21, 2) := by decide +kernel
theorem dX12_isFitBy_35 : decode cX12_isFitBy 35 = .ok (.iload_n 1, 1) := by decide +kernel
theorem dX12_isFitBy_36 : decode cX12_isFitBy 36 = .ok (.imul, 1) := by decide +kernel
theorem dX12_isFitBy_37 : decode cX12_isFitBy 37 = .ok (.iconst 3, 1) := by decide +kernel
theorem dX12_isFitBy_38 : decode cX12_isFitBy 38 = .ok (.iload_n 2, 1) := by decide +kernel
theorem dX12_isFitBy_39 : decode cX12_isFitBy 39 = .ok (.imul, 1) := by decide +kernel
theorem dX12_isFitBy_40 : decode cX12_isFitBy 40 = .ok (.iadd, 1) := by decide +kernel
theorem dX12_isFitBy_41 : decode cX12_isFitBy 41 = .ok (.iload_n 3, 1) := by decide +kernel
theorem dX12_isFitBy_42 : decode cX12_isFitBy 42 = .ok (.iadd, 1) := by decide +kernel
theorem dX12_isFitBy_43 : decode cX12_isFitBy 43 = .ok (.iaload, 1) := by decide +kernel
theorem dX12_isFitBy_44 : decode cX12_isFitBy 44 = .ok (.if_icmp .eq 5, 3) := by decide +kernel
theorem dX12_isFitBy_47 : decode cX12_isFitBy 47 = .ok (.iconst 0, 1) := by decide +kernel
theorem dX12_isFitBy_48 : decode cX12_isFitBy 48 = .ok (.ireturn, 1) := by decide +kernel
theorem dX12_isFitBy_49 : decode cX12_isFitBy 49 = .ok (.iinc 3 1, 3) := by decide +kernel
theorem dX12_isFitBy_52 : decode cX12_isFitBy 52 = .ok (.goto (-40), 3) := by decide +kernel
theorem dX12_isFitBy_55 : decode cX12_isFitBy 55 = .ok (.iinc 2 1, 3) := by decide +kernel
theorem dX12_isFitBy_58 : decode cX12_isFitBy 58 = .ok (.goto (-56), 3) := by decide +kernel
theorem dX12_isFitBy_61 : decode cX12_isFitBy 61 = .ok (.iconst 1, 1) := by decide +kernel
theorem dX12_isFitBy_62 : decode cX12_isFitBy 62 = .ok (.ireturn, 1) := by decide +kernel
theorem dX12_isIn_0 : decode cX12_isIn 0 = .ok (.iload_n 0, 1) := by decide +kernel
theorem dX12_isIn_1 : decode cX12_isIn 1 = .ok (.iload_n 1, 1) := by decide +kernel
theorem dX12_isIn_2 : decode cX12_isIn 2 = .ok (.if_icmp .lt 12, 3) := by decide +kernel
theorem dX12_isIn_5 : decode cX12_isIn 5 = .ok (.iload_n 0, 1) := by decide +kernel
theorem dX12_isIn_6 : decode cX12_isIn 6 = .ok (.iload_n 2, 1) := by decide +kernel
theorem dX12_isIn_7 : decode cX12_isIn 7 = .ok (.if_icmp .gt 7, 3) := by decide +kernel
theorem dX12_isIn_10 : decode cX12_isIn 10 = .ok (.iconst 1, 1) := by decide +kernel
theorem dX12_isIn_11 : decode cX12_isIn 11 = .ok (.goto 4, 3) := by decide +kernel
theorem dX12_isIn_14 : decode cX12_isIn 14 = .ok (.iconst 0, 1) := by decide +kernel
theorem dX12_isIn_15 : decode cX12_isIn 15 = .ok (.ireturn, 1) := by decide +kernel
theorem dX12_isKey_0 : decode cX12_isKey 0 = .ok (.aload_n 0, 1) := by decide +kernel
theorem dX12_isKey_1 : decode cX12_isKey 1 = .ok (.getfield 169, 3) := by decide +kernel
theorem dX12_isKey_4 : decode cX12_isKey 4 = .ok (.iconst 2, 1) := by decide +kernel
theorem dX12_isKey_5 : decode cX12_isKey 5 = .ok (.if_icmp .ne 16, 3) := by decide +kernel
theorem dX12_isKey_8 : decode cX12_isKey 8 = .ok (.aload_n 0, 1) := by decide +kernel
theorem dX12_isKey_9 : decode cX12_isKey 9 = .ok (.getfield 179, 3) := by decide +kernel
theorem dX12_isKey_12 : decode cX12_isKey 12 = .ok (.lload_n 1, 1) := by decide +kernel
theorem dX12_isKey_13 : decode cX12_isKey 13 = .ok (.lcmp, 1) := by decide +kernel
theorem dX12_isKey_14 : decode cX12_isKey 14 = .ok (.ifCond .ne 7, 3) := by decide +kernel
theorem dX12_isKey_17 : decode cX12_isKey 17 = .ok (.iconst 1, 1) := by decide +kernel
theorem dX12_isKey_18 : decode cX12_isKey 18 = .ok (.goto 4, 3) := by decide +kernel
theorem dX12_isKey_21 : decode cX12_isKey 21 = .ok (.iconst 0, 1) := by decide +kernel
theorem dX12_isKey_22 : decode cX12_isKey 22 = .ok (.ireturn, 1) := by decide +kernel
theorem dX12_isLetter_0 : decode cX12_isLetter 0 = .ok (.iload_n 0, 1) := by decide +kernel
theorem dX12_isLetter_1 : decode cX12_isLetter 1 = .ok (.bipush 97, 2) := by decide +kernel
theorem dX12_isLetter_3 : decode cX12_isLetter 3 = .ok (.if_icmp .lt 13, 3) := by decide +kernel
theorem dX12_isLetter_6 : decode cX12_isLetter 6 = .ok (.iload_n 0, 1) := by decide +kernel
theorem dX12_isLetter_7 : decode cX12_isLetter 7 = .ok (.bipush 122, 2) := by decide +kernel
theorem dX12_isLetter_9 : decode cX12_isLetter 9 = .ok (.if_icmp .gt 7, 3) := by decide +kernel
theorem dX12_isLetter_12 : decode cX12_isLetter 12 = .ok (.iconst 1, 1) := by decide +kernel
theorem dX12_isLetter_13 : decode cX12_isLetter 13 = .ok (.goto 4, 3) := by decide +kernel
theorem dX12_isLetter_16 : decode cX12_isLetter 16 = .ok (.iconst 0, 1) := by decide +kernel
theorem dX12_isLetter_17 : decode cX12_isLetter 17 = .ok (.ireturn, 1) := by decide +kernel
theorem dX12_isName_0 : decode cX12_isName 0 = .ok (.aload_n 0, 1) := by decide +kernel
theorem dX12_isName_1 : decode cX12_isName 1 = .ok (.getfield 169, 3) := by decide +kernel
theorem dX12_isName_4 : decode cX12_isName 4 = .ok (.iconst 2, 1) := by decide +kernel
theorem dX12_isName_5 : decode cX12_isName 5 = .ok (.if_icmp .ne 19, 3) := by decide +kernel
theorem dX12_isName_8 : decode cX12_isName 8 = .ok (.aload_n 0, 1) := by decide +kernel
theorem dX12_isName_9 : decode cX12_isName 9 = .ok (.invokevirtual 217, 3) := by decide +kernel
theorem dX12_isName_12 : decode cX12_isName 12 = .ok (.iconst (-1), 1) := by decide +kernel
theorem dX12_isName_13 : decode cX12_isName 13 = .ok (.if_icmp .ne 11, 3) := by decide +kernel
theorem dX12_isName_16 : decode cX12_isName 16 = .ok (.aload_n 0, 1) := by decide +kernel
theorem dX12_isName_17 : decode cX12_isName 17 = .ok (.invokevirtual 221, 3) := by decide +kernel
theorem dX12_isName_20 : decode cX12_isName 20 = .ok (.iconst (-1), 1) := by decide +kernel
theorem dX12_isName_21 : decode cX12_isName 21 = .ok (.if_icmp .eq 5, 3) := by decide +kernel
theorem dX12_isName_24 : decode cX12_isName 24 = .ok (.iconst 0, 1) := by decide +kernel
theorem dX12_isName_25 : decode cX12_isName 25 = .ok (.ireturn, 1) := by decide +kernel
theorem dX12_isName_26 : decode cX12_isName 26 = .ok (.aload_n 0, 1) := by decide +kernel
theorem dX12_isName_27 : decode cX12_isName 27 = .ok (.bipush 115, 2) := by decide +kernel
theorem dX12_isName_29 : decode cX12_isName 29 = .ok (.bipush 101, 2) := by decide +kernel
theorem dX12_isName_31 : decode cX12_isName 31 = .ok (.bipush 101, 2) := by decide +kernel
theorem dX12_isName_33 : decode cX12_isName 33 = .ok (.bipush 115, 2) := by decide +kernel
theorem dX12_isName_35 : decode cX12_isName 35 = .ok (.iconst 0, 1) := by decide +kernel
theorem dX12_isName_36 : decode cX12_isName 36 = .ok (.invokestatic 193, 3) := by decide +kernel
theorem dX12_isName_39 : decode cX12_isName 39 = .ok (.invokevirtual 203, 3) := by decide +kernel
theorem dX12_isName_42 : decode cX12_isName 42 = .ok (.ifCond .ne 33, 3) := by decide +kernel
theorem dX12_isName_45 : decode cX12_isName 45 = .ok (.aload_n 0, 1) := by decide +kernel
theorem dX12_isName_46 : decode cX12_isName 46 = .ok (.invokestatic 224, 3) := by decide +kernel
theorem dX12_isName_49 : decode cX12_isName 49 = .ok (.invokevirtual 203, 3) := by decide +kernel
theorem dX12_isName_52 : decode cX12_isName 52 = .ok (.ifCond .ne 23, 3) := by decide +kernel
theorem dX12_isName_55 : decode cX12_isName 55 = .ok (.aload_n 0, 1) := by decide +kernel
theorem dX12_isName_56 : decode cX12_isName 56 = .ok (.invokestatic 228, 3) := by decide +kernel
theorem dX12_isName_59 : decode cX12_isName 59 = .ok (.invokevirtual 203, 3) := by decide +kernel
theorem dX12_isName_62 : decode cX12_isName 62 = .ok (.ifCond .ne 13, 3) := by decide +kernel
theorem dX12_isName_65 : decode cX12_isName 65 = .ok (.aload_n 0, 1) := by decide +kernel
theorem dX12_isName_66 : decode cX12_isName 66 = .ok (.invokestatic 231, 3) := by decide +kernel
theorem dX12_isName_69 : decode cX12_isName 69 = .ok (.invokevirtual 203, 3) := by decide +kernel
theorem dX12_isName_72 : decode cX12_isName 72 = .ok (.ifCond .eq 5, 3) := by decide +kernel
theorem dX12_isName_75 : decode cX12_isName 75 = .ok (.iconst 0, 1) := by decide +kernel
theorem dX12_isName_76 : decode cX12_isName 76 = .ok (.ireturn, 1) := by decide +kernel
theorem dX12_isName_77 : decode cX12_isName 77 = .ok (.aload_n 0, 1) := by decide +kernel
theorem dX12_isName_78 : decode cX12_isName 78 = .ok (.bipush 109, 2) := by decide +kernel
theorem dX12_isName_80 : decode cX12_isName 80 = .ok (.bipush 111, 2) := by decide +kernel
theorem dX12_isName_82 : decode cX12_isName 82 = .ok (.bipush 115, 2) := by decide +kernel
theorem dX12_isName_84 : decode cX12_isName 84 = .ok (.bipush 116, 2) := by decide +kernel
theorem dX12_isName_86 : decode cX12_isName 86 = .ok (.iconst 0, 1) := by decide +kernel
theorem dX12_isName_87 : decode cX12_isName 87 = .ok (.invokestatic 193, 3) := by decide +kernel
theorem dX12_isName_90 : decode cX12_isName 90 = .ok (.invokevirtual 203, 3) := by decide +kernel
theorem dX12_isName_93 : decode cX12_isName 93 = .ok (.ifCond .ne 26, 3) := by decide +kernel
theorem dX12_isName_96 : decode cX12_isName 96 = .ok (.aload_n 0, 1) := by decide +kernel
theorem dX12_isName_97 : decode cX12_isName 97 = .ok (.bipush 110, 2) := by decide +kernel
theorem dX12_isName_99 : decode cX12_isName 99 = .ok (.bipush 101, 2) := by decide +kernel
theorem dX12_isName_101 : decode cX12_isName 101 = .ok (.bipush 101, 2) := by decide +kernel
theorem dX12_isName_103 : decode cX12_isName 103 = .ok (.bipush 100, 2) := by decide +kernel
theorem dX12_isName_105 : decode cX12_isName 105 = .ok (.iconst 0, 1) := by decide +kernel
theorem dX12_isName_106 : decode cX12_isName 106 = .ok (.invokestatic 193, 3) := by decide +kernel
theorem dX12_isName_109 : decode cX12_isName 109 = .ok (.invokevirtual 203, 3) := by decide +kernel
theorem dX12_isName_112 : decode cX12_isName 112 = .ok (.ifCond .ne 7, 3) := by decide +kernel
theorem dX12_isName_115 : decode cX12_isName 115 = .ok (.iconst 1, 1) := by decide +kernel
theorem dX12_isName_116 : decode cX12_isName 116 = .ok (.goto 4, 3) := by decide +kernel
theorem dX12_isName_119 : decode cX12_isName 119 = .ok (.iconst 0, 1) := by decide +kernel
theorem dX12_isName_120 : decode cX12_isName 120 = .ok (.ireturn, 1) := by decide +kernel
theorem dX12_isSign_0 : decode cX12_isSign 0 = .ok (.aload_n 0, 1) := by decide +kernel
theorem dX12_isSign_1 : decode cX12_isSign 1 = .ok (.iload_n 1, 1) := by decide +kernel
theorem dX12_isSign_2 : decode cX12_isSign 2 = .ok (.invokevirtual 316, 3) := by decide +kernel
theorem dX12_isSign_5 : decode cX12_isSign 5 = .ok (.ifCond .eq 21, 3) := by decide +kernel
theorem dX12_isSign_8 : decode cX12_isSign 8 = .ok (.iload_n 2, 1) := by decide +kernel
theorem dX12_isSign_9 : decode cX12_isSign 9 = .ok (.ifCond .lt 17, 3) := by decide +kernel
theorem dX12_isSign_12 : decode cX12_isSign 12 = .ok (.iload_n 2, 1) := by decide +kernel
theorem dX12_isSign_13 : decode cX12_isSign 13 = .ok (.aload_n 0, 1) := by decide +kernel
theorem dX12_isSign_14 : decode cX12_isSign 14 = .ok (.getfield 29, 3) := by decide +kernel
theorem dX12_isSign_17 : decode cX12_isSign 17 = .ok (.iload_n 1, 1) := by decide +kernel
theorem dX12_isSign_18 : decode cX12_isSign 18 = .ok (.iaload, 1) := by decide +kernel
theorem dX12_isSign_19 : decode cX12_isSign 19 = .ok (.if_icmp .ge 7, 3) := by decide +kernel
theorem dX12_isSign_22 : decode cX12_isSign 22 = .ok (.iconst 1, 1) := by decide +kernel
theorem dX12_isSign_23 : decode cX12_isSign 23 = .ok (.goto 4, 3) := by decide +kernel
theorem dX12_isSign_26 : decode cX12_isSign 26 = .ok (.iconst 0, 1) := by decide +kernel
theorem dX12_isSign_27 : decode cX12_isSign 27 = .ok (.ireturn, 1) := by decide +kernel
theorem dX12_isTruth_0 : decode cX12_isTruth 0 = .ok (.iload_n 1, 1) := by decide +kernel
theorem dX12_isTruth_1 : decode cX12_isTruth 1 = .ok (.ifCond .lt 15, 3) := by decide +kernel
theorem dX12_isTruth_4 : decode cX12_isTruth 4 = .ok (.iload_n 1, 1) := by decide +kernel
theorem dX12_isTruth_5 : decode cX12_isTruth 5 = .ok (.aload_n 0, 1) := by decide +kernel
theorem dX12_isTruth_6 : decode cX12_isTruth 6 = .ok (.getfield 303, 3) := by decide +kernel
theorem dX12_isTruth_9 : decode cX12_isTruth 9 = .ok (.if_icmp .ge 7, 3) := by decide +kernel
theorem dX12_isTruth_12 : decode cX12_isTruth 12 = .ok (.iconst 1, 1) := by decide +kernel
theorem dX12_isTruth_13 : decode cX12_isTruth 13 = .ok (.goto 4, 3) := by decide +kernel
theorem dX12_isTruth_16 : decode cX12_isTruth 16 = .ok (.iconst 0, 1) := by decide +kernel
theorem dX12_isTruth_17 : decode cX12_isTruth 17 = .ok (.ireturn, 1) := by decide +kernel
theorem dX12_isTurned_0 : decode cX12_isTurned 0 = .ok (.aload_n 0, 1) := by decide +kernel
theorem dX12_isTurned_1 : decode cX12_isTurned 1 = .ok (.iload_n 1, 1) := by decide +kernel
theorem dX12_isTurned_2 : decode cX12_isTurned 2 = .ok (.iconst 0, 1) := by decide +kernel
theorem dX12_isTurned_3 : decode cX12_isTurned 3 = .ok (.invokevirtual 355, 3) := by decide +kernel
theorem dX12_isTurned_6 : decode cX12_isTurned 6 = .ok (.pop, 1) := by decide +kernel
theorem dX12_isTurned_7 : decode cX12_isTurned 7 = .ok (.aload_n 0, 1) := by decide +kernel
theorem dX12_isTurned_8 : decode cX12_isTurned 8 = .ok (.iload_n 2, 1) := by decide +kernel
theorem dX12_isTurned_9 : decode cX12_isTurned 9 = .ok (.iconst 0, 1) := by decide +kernel
theorem dX12_isTurned_10 : decode cX12_isTurned 10 = .ok (.invokevirtual 372, 3) := by decide +kernel
theorem dX12_isTurned_13 : decode cX12_isTurned 13 = .ok (.istore_n 3, 1) := by decide +kernel
theorem dX12_isTurned_14 : decode cX12_isTurned 14 = .ok (.iconst 1, 1) := by decide +kernel
theorem dX12_isTurned_15 : decode cX12_isTurned 15 = .ok (.istore 4, 2) := by decide +kernel
theorem dX12_isTurned_17 : decode cX12_isTurned 17 = .ok (.iload 4, 2) := by decide +kernel
theorem dX12_isTurned_19 : decode cX12_isTurned 19 = .ok (.aload_n 0, 1) := by decide +kernel
theorem dX12_isTurned_20 : decode cX12_isTurned 20 = .ok (.getfield 303, 3) := by decide +kernel
theorem dX12_isTurned_23 : decode cX12_isTurned 23 = .ok (.if_icmp .gt 22, 3) := by decide +kernel
theorem dX12_isTurned_26 : decode cX12_isTurned 26 = .ok (.aload_n 0, 1) := by decide +kernel
theorem dX12_isTurned_27 : decode cX12_isTurned 27 = .ok (.iload_n 2, 1) := by decide +kernel
theorem dX12_isTurned_28 : decode cX12_isTurned 28 = .ok (.iload 4, 2) := by decide +kernel
theorem dX12_isTurned_30 : decode cX12_isTurned 30 = .ok (.invokevirtual 372, 3) := by decide +kernel
theorem dX12_isTurned_33 : decode cX12_isTurned 33 = .ok (.iload_n 3, 1) := by decide +kernel
theorem dX12_isTurned_34 : decode cX12_isTurned 34 = .ok (.if_icmp .eq 5, 3) := by decide +kernel
theorem dX12_isTurned_37 : decode cX12_isTurned 37 = .ok (.iconst 1, 1) := by decide +kernel
theorem dX12_isTurned_38 : decode cX12_isTurned 38 = .ok (.ireturn, 1) := by decide +kernel
theorem dX12_isTurned_39 : decode cX12_isTurned 39 = .ok (.iinc 4 1, 3) := by decide +kernel
theorem dX12_isTurned_42 : decode cX12_isTurned 42 = .ok (.goto (-25), 3) := by decide +kernel
theorem dX12_isTurned_45 : decode cX12_isTurned 45 = .ok (.iconst 0, 1) := by decide +kernel
theorem dX12_isTurned_46 : decode cX12_isTurned 46 = .ok (.ireturn, 1) := by decide +kernel
theorem dX12_isVoter_0 : decode cX12_isVoter 0 = .ok (.iload_n 1, 1) := by decide +kernel
theorem dX12_isVoter_1 : decode cX12_isVoter 1 = .ok (.ifCond .lt 15, 3) := by decide +kernel
theorem dX12_isVoter_4 : decode cX12_isVoter 4 = .ok (.iload_n 1, 1) := by decide +kernel
theorem dX12_isVoter_5 : decode cX12_isVoter 5 = .ok (.aload_n 0, 1) := by decide +kernel
theorem dX12_isVoter_6 : decode cX12_isVoter 6 = .ok (.getfield 306, 3) := by decide +kernel
theorem dX12_isVoter_9 : decode cX12_isVoter 9 = .ok (.if_icmp .ge 7, 3) := by decide +kernel
theorem dX12_isVoter_12 : decode cX12_isVoter 12 = .ok (.iconst 1, 1) := by decide +kernel
theorem dX12_isVoter_13 : decode cX12_isVoter 13 = .ok (.goto 4, 3) := by decide +kernel
theorem dX12_isVoter_16 : decode cX12_isVoter 16 = .ok (.iconst 0, 1) := by decide +kernel
theorem dX12_isVoter_17 : decode cX12_isVoter 17 = .ok (.ireturn, 1) := by decide +kernel
theorem dX12_keep_0 : decode cX12_keep 0 = .ok (.aload_n 0, 1) := by decide +kernel
theorem dX12_keep_1 : decode cX12_keep 1 = .ok (.getfield 20, 3) := by decide +kernel
theorem dX12_keep_4 : decode cX12_keep 4 = .ok (.iconst 0, 1) := by decide +kernel
theorem dX12_keep_5 : decode cX12_keep 5 = .ok (.aload_n 0, 1) := by decide +kernel
theorem dX12_keep_6 : decode cX12_keep 6 = .ok (.getfield 20, 3) := by decide +kernel
theorem dX12_keep_9 : decode cX12_keep 9 = .ok (.iconst 1, 1) := by decide +kernel
theorem dX12_keep_10 : decode cX12_keep 10 = .ok (.iaload, 1) := by decide +kernel
theorem dX12_keep_11 : decode cX12_keep 11 = .ok (.iastore, 1) := by decide +kernel
theorem dX12_keep_12 : decode cX12_keep 12 = .ok (.aload_n 0, 1) := by decide +kernel
theorem dX12_keep_13 : decode cX12_keep 13 = .ok (.getfield 23, 3) := by decide +kernel
theorem dX12_keep_16 : decode cX12_keep 16 = .ok (.iconst 0, 1) := by decide +kernel
theorem dX12_keep_17 : decode cX12_keep 17 = .ok (.aload_n 0, 1) := by decide +kernel
theorem dX12_keep_18 : decode cX12_keep 18 = .ok (.getfield 23, 3) := by decide +kernel
theorem dX12_keep_21 : decode cX12_keep 21 = .ok (.iconst 1, 1) := by decide +kernel
theorem dX12_keep_22 : decode cX12_keep 22 = .ok (.iaload, 1) := by decide +kernel
theorem dX12_keep_23 : decode cX12_keep 23 = .ok (.iastore, 1) := by decide +kernel
theorem dX12_keep_24 : decode cX12_keep 24 = .ok (.aload_n 0, 1) := by decide +kernel
theorem dX12_keep_25 : decode cX12_keep 25 = .ok (.getfield 50, 3) := by decide +kernel
theorem dX12_keep_28 : decode cX12_keep 28 = .ok (.iconst 0, 1) := by decide +kernel
theorem dX12_keep_29 : decode cX12_keep 29 = .ok (.aload_n 0, 1) := by decide +kernel
theorem dX12_keep_30 : decode cX12_keep 30 = .ok (.getfield 50, 3) := by decide +kernel
theorem dX12_keep_33 : decode cX12_keep 33 = .ok (.iconst 1, 1) := by decide +kernel
theorem dX12_keep_34 : decode cX12_keep 34 = .ok (.iaload, 1) := by decide +kernel
theorem dX12_keep_35 : decode cX12_keep 35 = .ok (.iastore, 1) := by decide +kernel
theorem dX12_keep_36 : decode cX12_keep 36 = .ok (.aload_n 0, 1) := by decide +kernel
theorem dX12_keep_37 : decode cX12_keep 37 = .ok (.getfield 53, 3) := by decide +kernel
theorem dX12_keep_40 : decode cX12_keep 40 = .ok (.iconst 0, 1) := by decide +kernel
theorem dX12_keep_41 : decode cX12_keep 41 = .ok (.aload_n 0, 1) := by decide +kernel
theorem dX12_keep_42 : decode cX12_keep 42 = .ok (.getfield 53, 3) := by decide +kernel
theorem dX12_keep_45 : decode cX12_keep 45 = .ok (.iconst 1, 1) := by decide +kernel
theorem dX12_keep_46 : decode cX12_keep 46 = .ok (.iaload, 1) := by decide +kernel
theorem dX12_keep_47 : decode cX12_keep 47 = .ok (.iastore, 1) := by decide +kernel
theorem dX12_keep_48 : decode cX12_keep 48 = .ok (.aload_n 0, 1) := by decide +kernel
theorem dX12_keep_49 : decode cX12_keep 49 = .ok (.getfield 56, 3) := by decide +kernel
theorem dX12_keep_52 : decode cX12_keep 52 = .ok (.iconst 0, 1) := by decide +kernel
theorem dX12_keep_53 : decode cX12_keep 53 = .ok (.aload_n 0, 1) := by decide +kernel
theorem dX12_keep_54 : decode cX12_keep 54 = .ok (.getfield 56, 3) := by decide +kernel
theorem dX12_keep_57 : decode cX12_keep 57 = .ok (.iconst 1, 1) := by decide +kernel
theorem dX12_keep_58 : decode cX12_keep 58 = .ok (.iaload, 1) := by decide +kernel
theorem dX12_keep_59 : decode cX12_keep 59 = .ok (.iastore, 1) := by decide +kernel
theorem dX12_keep_60 : decode cX12_keep 60 = .ok (.aload_n 0, 1) := by decide +kernel
theorem dX12_keep_61 : decode cX12_keep 61 = .ok (.getfield 59, 3) := by decide +kernel
theorem dX12_keep_64 : decode cX12_keep 64 = .ok (.iconst 0, 1) := by decide +kernel
theorem dX12_keep_65 : decode cX12_keep 65 = .ok (.aload_n 0, 1) := by decide +kernel
theorem dX12_keep_66 : decode cX12_keep 66 = .ok (.getfield 59, 3) := by decide +kernel
theorem dX12_keep_69 : decode cX12_keep 69 = .ok (.iconst 1, 1) := by decide +kernel
theorem dX12_keep_70 : decode cX12_keep 70 = .ok (.iaload, 1) := by decide +kernel
theorem dX12_keep_71 : decode cX12_keep 71 = .ok (.iastore, 1) := by decide +kernel
theorem dX12_keep_72 : decode cX12_keep 72 = .ok (.iconst 0, 1) := by decide +kernel
theorem dX12_keep_73 : decode cX12_keep 73 = .ok (.istore_n 1, 1) := by decide +kernel
theorem dX12_keep_74 : decode cX12_keep 74 = .ok (.iload_n 1, 1) := by decide +kernel
theorem dX12_keep_75 : decode cX12_keep 75 = .ok (.iconst 3, 1) := by decide +kernel
theorem dX12_keep_76 : decode cX12_keep 76 = .ok (.if_icmp .ge 23, 3) := by decide +kernel
theorem dX12_keep_79 : decode cX12_keep 79 = .ok (.aload_n 0, 1) := by decide +kernel
theorem dX12_keep_80 : decode cX12_keep 80 = .ok (.getfield 26, 3) := by decide +kernel
theorem dX12_keep_83 : decode cX12_keep 83 = .ok (.iload_n 1, 1) := by decide +kernel
theorem dX12_keep_84 : decode cX12_keep 84 = .ok (.aload_n 0, 1) := by decide +kernel
theorem dX12_keep_85 : decode cX12_keep 85 = .ok (.getfield 26, 3) := by decide +kernel
theorem dX12_keep_88 : decode cX12_keep 88 = .ok (.iconst 3, 1) := by decide +kernel
theorem dX12_keep_89 : decode cX12_keep 89 = .ok (.iload_n 1, 1) := by decide +kernel
theorem dX12_keep_90 : decode cX12_keep 90 = .ok (.iadd, 1) := by decide +kernel
theorem dX12_keep_91 : decode cX12_keep 91 = .ok (.iaload, 1) := by decide +kernel
theorem dX12_keep_92 : decode cX12_keep 92 = .ok (.iastore, 1) := by decide +kernel
theorem dX12_keep_93 : decode cX12_keep 93 = .ok (.iinc 1 1, 3) := by decide +kernel
theorem dX12_keep_96 : decode cX12_keep 96 = .ok (.goto (-22), 3) := by decide +kernel
theorem dX12_keep_99 : decode cX12_keep 99 = .ok (.iconst 0, 1) := by decide +kernel
theorem dX12_keep_100 : decode cX12_keep 100 = .ok (.istore_n 1, 1) := by decide +kernel
theorem dX12_keep_101 : decode cX12_keep 101 = .ok (.iload_n 1, 1) := by decide +kernel
theorem dX12_keep_102 : decode cX12_keep 102 = .ok (.bipush 72, 2) := by decide +kernel
theorem dX12_keep_104 : decode cX12_keep 104 = .ok (.if_icmp .ge 24, 3) := by decide +kernel
theorem dX12_keep_107 : decode cX12_keep 107 = .ok (.aload_n 0, 1) := by decide +kernel
theorem dX12_keep_108 : decode cX12_keep 108 = .ok (.getfield 35, 3) := by decide +kernel
theorem dX12_keep_111 : decode cX12_keep 111 = .ok (.iload_n 1, 1) := by decide +kernel
theorem dX12_keep_112 : decode cX12_keep 112 = .ok (.aload_n 0, 1) := by decide +kernel
theorem dX12_keep_113 : decode cX12_keep 113 = .ok (.getfield 35, 3) := by decide +kernel
theorem dX12_keep_116 : decode cX12_keep 116 = .ok (.bipush 72, 2) := by decide +kernel
theorem dX12_keep_118 : decode cX12_keep 118 = .ok (.iload_n 1, 1) := by decide +kernel
theorem dX12_keep_119 : decode cX12_keep 119 = .ok (.iadd, 1) := by decide +kernel
theorem dX12_keep_120 : decode cX12_keep 120 = .ok (.iaload, 1) := by decide +kernel
theorem dX12_keep_121 : decode cX12_keep 121 = .ok (.iastore, 1) := by decide +kernel
theorem dX12_keep_122 : decode cX12_keep 122 = .ok (.iinc 1 1, 3) := by decide +kernel
theorem dX12_keep_125 : decode cX12_keep 125 = .ok (.goto (-24), 3) := by decide +kernel
theorem dX12_keep_128 : decode cX12_keep 128 = .ok (.iconst 0, 1) := by decide +kernel
theorem dX12_keep_129 : decode cX12_keep 129 = .ok (.istore_n 1, 1) := by decide +kernel
theorem dX12_keep_130 : decode cX12_keep 130 = .ok (.iload_n 1, 1) := by decide +kernel
theorem dX12_keep_131 : decode cX12_keep 131 = .ok (.bipush 63, 2) := by decide +kernel
theorem dX12_keep_133 : decode cX12_keep 133 = .ok (.if_icmp .ge 24, 3) := by decide +kernel
theorem dX12_keep_136 : decode cX12_keep 136 = .ok (.aload_n 0, 1) := by decide +kernel
theorem dX12_keep_137 : decode cX12_keep 137 = .ok (.getfield 32, 3) := by decide +kernel
theorem dX12_keep_140 : decode cX12_keep 140 = .ok (.iload_n 1, 1) := by decide +kernel
theorem dX12_keep_141 : decode cX12_keep 141 = .ok (.aload_n 0, 1) := by decide +kernel
theorem dX12_keep_142 : decode cX12_keep 142 = .ok (.getfield 32, 3) := by decide +kernel
theorem dX12_keep_145 : decode cX12_keep 145 = .ok (.bipush 63, 2) := by decide +kernel
theorem dX12_keep_147 : decode cX12_keep 147 = .ok (.iload_n 1, 1) := by decide +kernel
theorem dX12_keep_148 : decode cX12_keep 148 = .ok (.iadd, 1) := by decide +kernel
theorem dX12_keep_149 : decode cX12_keep 149 = .ok (.iaload, 1) := by decide +kernel
theorem dX12_keep_150 : decode cX12_keep 150 = .ok (.iastore, 1) := by decide +kernel
theorem dX12_keep_151 : decode cX12_keep 151 = .ok (.iinc 1 1, 3) := by decide +kernel
theorem dX12_keep_154 : decode cX12_keep 154 = .ok (.goto (-24), 3) := by decide +kernel
theorem dX12_keep_157 : decode cX12_keep 157 = .ok (.iconst 0, 1) := by decide +kernel
theorem dX12_keep_158 : decode cX12_keep 158 = .ok (.istore_n 1, 1) := by decide +kernel
theorem dX12_keep_159 : decode cX12_keep 159 = .ok (.iload_n 1, 1) := by decide +kernel
theorem dX12_keep_160 : decode cX12_keep 160 = .ok (.bipush 21, 2) := by decide +kernel
theorem dX12_keep_162 : decode cX12_keep 162 = .ok (.if_icmp .ge 24, 3) := by decide +kernel
theorem dX12_keep_165 : decode cX12_keep 165 = .ok (.aload_n 0, 1) := by decide +kernel
theorem dX12_keep_166 : decode cX12_keep 166 = .ok (.getfield 44, 3) := by decide +kernel
theorem dX12_keep_169 : decode cX12_keep 169 = .ok (.iload_n 1, 1) := by decide +kernel
theorem dX12_keep_170 : decode cX12_keep 170 = .ok (.aload_n 0, 1) := by decide +kernel
theorem dX12_keep_171 : decode cX12_keep 171 = .ok (.getfield 44, 3) := by decide +kernel
theorem dX12_keep_174 : decode cX12_keep 174 = .ok (.bipush 21, 2) := by decide +kernel
theorem dX12_keep_176 : decode cX12_keep 176 = .ok (.iload_n 1, 1) := by decide +kernel
theorem dX12_keep_177 : decode cX12_keep 177 = .ok (.iadd, 1) := by decide +kernel
theorem dX12_keep_178 : decode cX12_keep 178 = .ok (.iaload, 1) := by decide +kernel
theorem dX12_keep_179 : decode cX12_keep 179 = .ok (.iastore, 1) := by decide +kernel
theorem dX12_keep_180 : decode cX12_keep 180 = .ok (.iinc 1 1, 3) := by decide +kernel
theorem dX12_keep_183 : decode cX12_keep 183 = .ok (.goto (-24), 3) := by decide +kernel
theorem dX12_keep_186 : decode cX12_keep 186 = .ok (.iconst 0, 1) := by decide +kernel
theorem dX12_keep_187 : decode cX12_keep 187 = .ok (.istore_n 1, 1) := by decide +kernel
theorem dX12_keep_188 : decode cX12_keep 188 = .ok (.iload_n 1, 1) := by decide +kernel
theorem dX12_keep_189 : decode cX12_keep 189 = .ok (.bipush 7, 2) := by decide +kernel
theorem dX12_keep_191 : decode cX12_keep 191 = .ok (.if_icmp .ge 69, 3) := by decide +kernel
theorem dX12_keep_194 : decode cX12_keep 194 = .ok (.aload_n 0, 1) := by decide +kernel
theorem dX12_keep_195 : decode cX12_keep 195 = .ok (.getfield 29, 3) := by decide +kernel
theorem dX12_keep_198 : decode cX12_keep 198 = .ok (.iload_n 1, 1) := by decide +kernel
theorem dX12_keep_199 : decode cX12_keep 199 = .ok (.aload_n 0, 1) := by decide +kernel
theorem dX12_keep_200 : decode cX12_keep 200 = .ok (.getfield 29, 3) := by decide +kernel
theorem dX12_keep_203 : decode cX12_keep 203 = .ok (.bipush 7, 2) := by decide +kernel
theorem dX12_keep_205 : decode cX12_keep 205 = .ok (.iload_n 1, 1) := by decide +kernel
theorem dX12_keep_206 : decode cX12_keep 206 = .ok (.iadd, 1) := by decide +kernel
theorem dX12_keep_207 : decode cX12_keep 207 = .ok (.iaload, 1) := by decide +kernel
theorem dX12_keep_208 : decode cX12_keep 208 = .ok (.iastore, 1) := by decide +kernel
theorem dX12_keep_209 : decode cX12_keep 209 = .ok (.aload_n 0, 1) := by decide +kernel
theorem dX12_keep_210 : decode cX12_keep 210 = .ok (.getfield 38, 3) := by decide +kernel
theorem dX12_keep_213 : decode cX12_keep 213 = .ok (.iload_n 1, 1) := by decide +kernel
theorem dX12_keep_214 : decode cX12_keep 214 = .ok (.aload_n 0, 1) := by decide +kernel
theorem dX12_keep_215 : decode cX12_keep 215 = .ok (.getfield 38, 3) := by decide +kernel
theorem dX12_keep_218 : decode cX12_keep 218 = .ok (.bipush 7, 2) := by decide +kernel
theorem dX12_keep_220 : decode cX12_keep 220 = .ok (.iload_n 1, 1) := by decide +kernel
theorem dX12_keep_221 : decode cX12_keep 221 = .ok (.iadd, 1) := by decide +kernel
theorem dX12_keep_222 : decode cX12_keep 222 = .ok (.iaload, 1) := by decide +kernel
theorem dX12_keep_223 : decode cX12_keep 223 = .ok (.iastore, 1) := by decide +kernel
theorem dX12_keep_224 : decode cX12_keep 224 = .ok (.aload_n 0, 1) := by decide +kernel
theorem dX12_keep_225 : decode cX12_keep 225 = .ok (.getfield 41, 3) := by decide +kernel
theorem dX12_keep_228 : decode cX12_keep 228 = .ok (.iload_n 1, 1) := by decide +kernel
theorem dX12_keep_229 : decode cX12_keep 229 = .ok (.aload_n 0, 1) := by decide +kernel
theorem dX12_keep_230 : decode cX12_keep 230 = .ok (.getfield 41, 3) := by decide +kernel
theorem dX12_keep_233 : decode cX12_keep 233 = .ok (.bipush 7, 2) := by decide +kernel
theorem dX12_keep_235 : decode cX12_keep 235 = .ok (.iload_n 1, 1) := by decide +kernel
theorem dX12_keep_236 : decode cX12_keep 236 = .ok (.iadd, 1) := by decide +kernel
theorem dX12_keep_237 : decode cX12_keep 237 = .ok (.iaload, 1) := by decide +kernel
theorem dX12_keep_238 : decode cX12_keep 238 = .ok (.iastore, 1) := by decide +kernel
theorem dX12_keep_239 : decode cX12_keep 239 = .ok (.aload_n 0, 1) := by decide +kernel
theorem dX12_keep_240 : decode cX12_keep 240 = .ok (.getfield 47, 3) := by decide +kernel
theorem dX12_keep_243 : decode cX12_keep 243 = .ok (.iload_n 1, 1) := by decide +kernel
theorem dX12_keep_244 : decode cX12_keep 244 = .ok (.aload_n 0, 1) := by decide +kernel
theorem dX12_keep_245 : decode cX12_keep 245 = .ok (.getfield 47, 3) := by decide +kernel
theorem dX12_keep_248 : decode cX12_keep 248 = .ok (.bipush 7, 2) := by decide +kernel
theorem dX12_keep_250 : decode cX12_keep 250 = .ok (.iload_n 1, 1) := by decide +kernel
theorem dX12_keep_251 : decode cX12_keep 251 = .ok (.iadd, 1) := by decide +kernel
theorem dX12_keep_252 : decode cX12_keep 252 = .ok (.iaload, 1) := by decide +kernel
theorem dX12_keep_253 : decode cX12_keep 253 = .ok (.iastore, 1) := by decide +kernel
theorem dX12_keep_254 : decode cX12_keep 254 = .ok (.iinc 1 1, 3) := by decide +kernel
theorem dX12_keep_257 : decode cX12_keep 257 = .ok (.goto (-69), 3) := by decide +kernel
theorem dX12_keep_260 : decode cX12_keep 260 = .ok (.return_, 1) := by decide +kernel
theorem dX12_known_0 : decode cX12_known 0 = .ok (.aload_n 0, 1) := by decide +kernel
theorem dX12_known_1 : decode cX12_known 1 = .ok (.iconst 0, 1) := by decide +kernel
theorem dX12_known_2 : decode cX12_known 2 = .ok (.putfield 149, 3) := by decide +kernel
theorem dX12_known_5 : decode cX12_known 5 = .ok (.aload_n 0, 1) := by decide +kernel
theorem dX12_known_6 : decode cX12_known 6 = .ok (.invokevirtual 319, 3) := by decide +kernel
theorem dX12_known_9 : decode cX12_known 9 = .ok (.istore_n 1, 1) := by decide +kernel
theorem dX12_known_10 : decode cX12_known 10 = .ok (.aload_n 0, 1) := by decide +kernel
theorem dX12_known_11 : decode cX12_known 11 = .ok (.iconst 0, 1) := by decide +kernel
theorem dX12_known_12 : decode cX12_known 12 = .ok (.putfield 153, 3) := by decide +kernel
theorem dX12_known_15 : decode cX12_known 15 = .ok (.iload_n 1, 1) := by decide +kernel
theorem dX12_known_16 : decode cX12_known 16 = .ok (.iconst (-1), 1) := by decide +kernel
theorem dX12_known_17 : decode cX12_known 17 = .ok (.if_icmp .ne 7, 3) := by decide +kernel
theorem dX12_known_20 : decode cX12_known 20 = .ok (.iconst (-1), 1) := by decide +kernel
theorem dX12_known_21 : decode cX12_known 21 = .ok (.goto 8, 3) := by decide +kernel
theorem dX12_known_24 : decode cX12_known 24 = .ok (.aload_n 0, 1) := by decide +kernel
theorem dX12_known_25 : decode cX12_known 25 = .ok (.iload_n 1, 1) := by decide +kernel
theorem dX12_known_26 : decode cX12_known 26 = .ok (.invokevirtual 369, 3) := by decide +kernel
theorem dX12_known_29 : decode cX12_known 29 = .ok (.ireturn, 1) := by decide +kernel
theorem dX12_knownAt_0 : decode cX12_knownAt 0 = .ok (.aload_n 0, 1) := by decide +kernel
theorem dX12_knownAt_1 : decode cX12_knownAt 1 = .ok (.aload_n 0, 1) := by decide +kernel
theorem dX12_knownAt_2 : decode cX12_knownAt 2 = .ok (.iload_n 1, 1) := by decide +kernel
theorem dX12_knownAt_3 : decode cX12_knownAt 3 = .ok (.iconst 0, 1) := by decide +kernel
theorem dX12_knownAt_4 : decode cX12_knownAt 4 = .ok (.invokevirtual 365, 3) := by decide +kernel
theorem dX12_knownAt_7 : decode cX12_knownAt 7 = .ok (.aload_n 0, 1) := by decide +kernel
theorem dX12_knownAt_8 : decode cX12_knownAt 8 = .ok (.iload_n 1, 1) := by decide +kernel
theorem dX12_knownAt_9 : decode cX12_knownAt 9 = .ok (.iconst 1, 1) := by decide +kernel
theorem dX12_knownAt_10 : decode cX12_knownAt 10 = .ok (.invokevirtual 365, 3) := by decide +kernel
theorem dX12_knownAt_13 : decode cX12_knownAt 13 = .ok (.aload_n 0, 1) := by decide +kernel
theorem dX12_knownAt_14 : decode cX12_knownAt 14 = .ok (.getfield 303, 3) := by decide +kernel
theorem dX12_knownAt_17 : decode cX12_knownAt 17 = .ok (.iconst 3, 1) := by decide +kernel
theorem dX12_knownAt_18 : decode cX12_knownAt 18 = .ok (.if_icmp .ne 12, 3) := by decide +kernel
theorem dX12_knownAt_21 : decode cX12_knownAt 21 = .ok (.aload_n 0, 1) := by decide +kernel
theorem dX12_knownAt_22 : decode cX12_knownAt 22 = .ok (.iload_n 1, 1) := by decide +kernel
theorem dX12_knownAt_23 : decode cX12_knownAt 23 = .ok (.iconst 2, 1) := by decide +kernel
theorem dX12_knownAt_24 : decode cX12_knownAt 24 = .ok (.invokevirtual 365, 3) := by decide +kernel
theorem dX12_knownAt_27 : decode cX12_knownAt 27 = .ok (.goto 4, 3) := by decide +kernel
theorem dX12_knownAt_30 : decode cX12_knownAt 30 = .ok (.lconst 0, 1) := by decide +kernel
theorem dX12_knownAt_31 : decode cX12_knownAt 31 = .ok (.invokevirtual 340, 3) := by decide +kernel
theorem dX12_knownAt_34 : decode cX12_knownAt 34 = .ok (.ireturn, 1) := by decide +kernel
theorem dX12_knows_0 : decode cX12_knows 0 = .ok (.aload_n 0, 1) := by decide +kernel
theorem dX12_knows_1 : decode cX12_knows 1 = .ok (.getfield 306, 3) := by decide +kernel
theorem dX12_knows_4 : decode cX12_knows 4 = .ok (.ifCond .eq 12, 3) := by decide +kernel
theorem dX12_knows_7 : decode cX12_knows 7 = .ok (.iload_n 1, 1) := by decide +kernel
theorem dX12_knows_8 : decode cX12_knows 8 = .ok (.iconst 0, 1) := by decide +kernel
theorem dX12_knows_9 : decode cX12_knows 9 = .ok (.iconst 1, 1) := by decide +kernel
theorem dX12_knows_10 : decode cX12_knows 10 = .ok (.invokestatic 234, 3) := by decide +kernel
theorem dX12_knows_13 : decode cX12_knows 13 = .ok (.ifCond .ne 8, 3) := by decide +kernel
theorem dX12_knows_16 : decode cX12_knows 16 = .ok (.aload_n 0, 1) := by decide +kernel
theorem dX12_knows_17 : decode cX12_knows 17 = .ok (.invokevirtual 325, 3) := by decide +kernel
theorem dX12_knows_20 : decode cX12_knows 20 = .ok (.lreturn, 1) := by decide +kernel
theorem dX12_knows_21 : decode cX12_knows 21 = .ok (.aload_n 0, 1) := by decide +kernel
theorem dX12_knows_22 : decode cX12_knows 22 = .ok (.iconst 0, 1) := by decide +kernel
theorem dX12_knows_23 : decode cX12_knows 23 = .ok (.putfield 149, 3) := by decide +kernel
theorem dX12_knows_26 : decode cX12_knows 26 = .ok (.lconst 0, 1) := by decide +kernel
theorem dX12_knows_27 : decode cX12_knows 27 = .ok (.lstore_n 2, 1) := by decide +kernel
theorem dX12_knows_28 : decode cX12_knows 28 = .ok (.iconst 0, 1) := by decide +kernel
theorem dX12_knows_29 : decode cX12_knows 29 = .ok (.istore 4, 2) := by decide +kernel
theorem dX12_knows_31 : decode cX12_knows 31 = .ok (.iload 4, 2) := by decide +kernel
theorem dX12_knows_33 : decode cX12_knows 33 = .ok (.aload_n 0, 1) := by decide +kernel
theorem dX12_knows_34 : decode cX12_knows 34 = .ok (.getfield 309, 3) := by decide +kernel
theorem dX12_knows_37 : decode cX12_knows 37 = .ok (.if_icmp .ge 47, 3) := by decide +kernel
theorem dX12_knows_40 : decode cX12_knows 40 = .ok (.lload_n 2, 1) := by decide +kernel
theorem dX12_knows_41 : decode cX12_knows 41 = .ok (.iload_n 1, 1) := by decide +kernel
theorem dX12_knows_42 : decode cX12_knows 42 = .ok (.ifCond .ne 18, 3) := by decide +kernel
theorem dX12_knows_45 : decode cX12_knows 45 = .ok (.aload_n 0, 1) := by decide +kernel
theorem dX12_knows_46 : decode cX12_knows 46 = .ok (.iload 4, 2) := by decide +kernel
theorem dX12_knows_48 : decode cX12_knows 48 = .ok (.aload_n 0, 1) := by decide +kernel
theorem dX12_knows_49 : decode cX12_knows 49 = .ok (.iload 4, 2) := by decide +kernel
theorem dX12_knows_51 : decode cX12_knows 51 = .ok (.invokevirtual 369, 3) := by decide +kernel
theorem dX12_knows_54 : decode cX12_knows 54 = .ok (.invokevirtual 365, 3) := by decide +kernel
theorem dX12_knows_57 : decode cX12_knows 57 = .ok (.goto 19, 3) := by decide +kernel
theorem dX12_knows_60 : decode cX12_knows 60 = .ok (.aload_n 0, 1) := by decide +kernel
theorem dX12_knows_61 : decode cX12_knows 61 = .ok (.getfield 65, 3) := by decide +kernel
theorem dX12_knows_64 : decode cX12_knows 64 = .ok (.iconst 3, 1) := by decide +kernel
theorem dX12_knows_65 : decode cX12_knows 65 = .ok (.iload 4, 2) := by decide +kernel
theorem dX12_knows_67 : decode cX12_knows 67 = .ok (.imul, 1) := by decide +kernel
theorem dX12_knows_68 : decode cX12_knows 68 = .ok (.aload_n 0, 1) := by decide +kernel
theorem dX12_knows_69 : decode cX12_knows 69 = .ok (.iload 4, 2) := by decide +kernel
theorem dX12_knows_71 : decode cX12_knows 71 = .ok (.invokevirtual 369, 3) := by decide +kernel
theorem dX12_knows_74 : decode cX12_knows 74 = .ok (.iadd, 1) := by decide +kernel
theorem dX12_knows_75 : decode cX12_knows 75 = .ok (.laload, 1) := by decide +kernel
theorem dX12_knows_76 : decode cX12_knows 76 = .ok (.ladd, 1) := by decide +kernel
theorem dX12_knows_77 : decode cX12_knows 77 = .ok (.lstore_n 2, 1) := by decide +kernel
theorem dX12_knows_78 : decode cX12_knows 78 = .ok (.iinc 4 1, 3) := by decide +kernel
theorem dX12_knows_81 : decode cX12_knows 81 = .ok (.goto (-50), 3) := by decide +kernel
theorem dX12_knows_84 : decode cX12_knows 84 = .ok (.lload_n 2, 1) := by decide +kernel
theorem dX12_knows_85 : decode cX12_knows 85 = .ok (.lreturn, 1) := by decide +kernel
theorem dX12_layByVotes_0 : decode cX12_layByVotes 0 = .ok (.iconst 0, 1) := by decide +kernel
theorem dX12_layByVotes_1 : decode cX12_layByVotes 1 = .ok (.istore_n 1, 1) := by decide +kernel
theorem dX12_layByVotes_2 : decode cX12_layByVotes 2 = .ok (.iload_n 1, 1) := by decide +kernel
theorem dX12_layByVotes_3 : decode cX12_layByVotes 3 = .ok (.iconst 1, 1) := by decide +kernel
theorem dX12_layByVotes_4 : decode cX12_layByVotes 4 = .ok (.iconst 2, 1) := by decide +kernel
theorem dX12_layByVotes_5 : decode cX12_layByVotes 5 = .ok (.aload_n 0, 1) := by decide +kernel
theorem dX12_layByVotes_6 : decode cX12_layByVotes 6 = .ok (.getfield 306, 3) := by decide +kernel
theorem dX12_layByVotes_9 : decode cX12_layByVotes 9 = .ok (.imul, 1) := by decide +kernel
theorem dX12_layByVotes_10 : decode cX12_layByVotes 10 = .ok (.ishl, 1) := by decide +kernel
theorem dX12_layByVotes_11 : decode cX12_layByVotes 11 = .ok (.if_icmp .ge 40, 3) := by decide +kernel
theorem dX12_layByVotes_14 : decode cX12_layByVotes 14 = .ok (.aload_n 0, 1) := by decide +kernel
theorem dX12_layByVotes_15 : decode cX12_layByVotes 15 = .ok (.getfield 122, 3) := by decide +kernel
theorem dX12_layByVotes_18 : decode cX12_layByVotes 18 = .ok (.iload_n 1, 1) := by decide +kernel
theorem dX12_layByVotes_19 : decode cX12_layByVotes 19 = .ok (.iconst 0, 1) := by decide +kernel
theorem dX12_layByVotes_20 : decode cX12_layByVotes 20 = .ok (.bastore, 1) := by decide +kernel
theorem dX12_layByVotes_21 : decode cX12_layByVotes 21 = .ok (.iconst 0, 1) := by decide +kernel
theorem dX12_layByVotes_22 : decode cX12_layByVotes 22 = .ok (.istore_n 2, 1) := by decide +kernel
theorem dX12_layByVotes_23 : decode cX12_layByVotes 23 = .ok (.iload_n 2, 1) := by decide +kernel
theorem dX12_layByVotes_24 : decode cX12_layByVotes 24 = .ok (.iconst 3, 1) := by decide +kernel
theorem dX12_layByVotes_25 : decode cX12_layByVotes 25 = .ok (.if_icmp .ge 20, 3) := by decide +kernel
theorem dX12_layByVotes_28 : decode cX12_layByVotes 28 = .ok (.aload_n 0, 1) := by decide +kernel
theorem dX12_layByVotes_29 : decode cX12_layByVotes 29 = .ok (.getfield 119, 3) := by decide +kernel
theorem dX12_layByVotes_32 : decode cX12_layByVotes 32 = .ok (.iconst 3, 1) := by decide +kernel
theorem dX12_layByVotes_33 : decode cX12_layByVotes 33 = .ok (.iload_n 1, 1) := by decide +kernel
theorem dX12_layByVotes_34 : decode cX12_layByVotes 34 = .ok (.imul, 1) := by decide +kernel
theorem dX12_layByVotes_35 : decode cX12_layByVotes 35 = .ok (.iload_n 2, 1) := by decide +kernel
theorem dX12_layByVotes_36 : decode cX12_layByVotes 36 = .ok (.iadd, 1) := by decide +kernel
theorem dX12_layByVotes_37 : decode cX12_layByVotes 37 = .ok (.lconst 0, 1) := by decide +kernel
theorem dX12_layByVotes_38 : decode cX12_layByVotes 38 = .ok (.lastore, 1) := by decide +kernel
theorem dX12_layByVotes_39 : decode cX12_layByVotes 39 = .ok (.iinc 2 1, 3) := by decide +kernel
theorem dX12_layByVotes_42 : decode cX12_layByVotes 42 = .ok (.goto (-19), 3) := by decide +kernel
theorem dX12_layByVotes_45 : decode cX12_layByVotes 45 = .ok (.iinc 1 1, 3) := by decide +kernel
theorem dX12_layByVotes_48 : decode cX12_layByVotes 48 = .ok (.goto (-46), 3) := by decide +kernel
theorem dX12_layByVotes_51 : decode cX12_layByVotes 51 = .ok (.iconst 0, 1) := by decide +kernel
theorem dX12_layByVotes_52 : decode cX12_layByVotes 52 = .ok (.istore_n 1, 1) := by decide +kernel
theorem dX12_layByVotes_53 : decode cX12_layByVotes 53 = .ok (.iload_n 1, 1) := by decide +kernel
theorem dX12_layByVotes_54 : decode cX12_layByVotes 54 = .ok (.aload_n 0, 1) := by decide +kernel
theorem dX12_layByVotes_55 : decode cX12_layByVotes 55 = .ok (.getfield 309, 3) := by decide +kernel
theorem dX12_layByVotes_58 : decode cX12_layByVotes 58 = .ok (.if_icmp .ge 57, 3) := by decide +kernel
theorem dX12_layByVotes_61 : decode cX12_layByVotes 61 = .ok (.aload_n 0, 1) := by decide +kernel
theorem dX12_layByVotes_62 : decode cX12_layByVotes 62 = .ok (.iload_n 1, 1) := by decide +kernel
theorem dX12_layByVotes_63 : decode cX12_layByVotes 63 = .ok (.invokevirtual 438, 3) := by decide +kernel
theorem dX12_layByVotes_66 : decode cX12_layByVotes 66 = .ok (.istore_n 2, 1) := by decide +kernel
theorem dX12_layByVotes_67 : decode cX12_layByVotes 67 = .ok (.aload_n 0, 1) := by decide +kernel
theorem dX12_layByVotes_68 : decode cX12_layByVotes 68 = .ok (.getfield 122, 3) := by decide +kernel
theorem dX12_layByVotes_71 : decode cX12_layByVotes 71 = .ok (.iload_n 2, 1) := by decide +kernel
theorem dX12_layByVotes_72 : decode cX12_layByVotes 72 = .ok (.iconst 1, 1) := by decide +kernel
theorem dX12_layByVotes_73 : decode cX12_layByVotes 73 = .ok (.bastore, 1) := by decide +kernel
theorem dX12_layByVotes_74 : decode cX12_layByVotes 74 = .ok (.iconst 0, 1) := by decide +kernel
theorem dX12_layByVotes_75 : decode cX12_layByVotes 75 = .ok (.istore_n 3, 1) := by decide +kernel
theorem dX12_layByVotes_76 : decode cX12_layByVotes 76 = .ok (.iload_n 3, 1) := by decide +kernel
theorem dX12_layByVotes_77 : decode cX12_layByVotes 77 = .ok (.aload_n 0, 1) := by decide +kernel
theorem dX12_layByVotes_78 : decode cX12_layByVotes 78 = .ok (.getfield 303, 3) := by decide +kernel
theorem dX12_layByVotes_81 : decode cX12_layByVotes 81 = .ok (.if_icmp .ge 28, 3) := by decide +kernel
theorem dX12_layByVotes_84 : decode cX12_layByVotes 84 = .ok (.aload_n 0, 1) := by decide +kernel
theorem dX12_layByVotes_85 : decode cX12_layByVotes 85 = .ok (.getfield 119, 3) := by decide +kernel
theorem dX12_layByVotes_88 : decode cX12_layByVotes 88 = .ok (.iconst 3, 1) := by decide +kernel
theorem dX12_layByVotes_89 : decode cX12_layByVotes 89 = .ok (.iload_n 2, 1) := by decide +kernel
theorem dX12_layByVotes_90 : decode cX12_layByVotes 90 = .ok (.imul, 1) := by decide +kernel
theorem dX12_layByVotes_91 : decode cX12_layByVotes 91 = .ok (.iload_n 3, 1) := by decide +kernel
theorem dX12_layByVotes_92 : decode cX12_layByVotes 92 = .ok (.iadd, 1) := by decide +kernel
theorem dX12_layByVotes_93 : decode cX12_layByVotes 93 = .ok (.dup2, 1) := by decide +kernel
theorem dX12_layByVotes_94 : decode cX12_layByVotes 94 = .ok (.laload, 1) := by decide +kernel
theorem dX12_layByVotes_95 : decode cX12_layByVotes 95 = .ok (.aload_n 0, 1) := by decide +kernel
theorem dX12_layByVotes_96 : decode cX12_layByVotes 96 = .ok (.iload_n 1, 1) := by decide +kernel
theorem dX12_layByVotes_97 : decode cX12_layByVotes 97 = .ok (.iload_n 3, 1) := by decide +kernel
theorem dX12_layByVotes_98 : decode cX12_layByVotes 98 = .ok (.invokevirtual 365, 3) := by decide +kernel
theorem dX12_layByVotes_101 : decode cX12_layByVotes 101 = .ok (.ladd, 1) := by decide +kernel
theorem dX12_layByVotes_102 : decode cX12_layByVotes 102 = .ok (.lastore, 1) := by decide +kernel
theorem dX12_layByVotes_103 : decode cX12_layByVotes 103 = .ok (.iinc 3 1, 3) := by decide +kernel
theorem dX12_layByVotes_106 : decode cX12_layByVotes 106 = .ok (.goto (-30), 3) := by decide +kernel
theorem dX12_layByVotes_109 : decode cX12_layByVotes 109 = .ok (.iinc 1 1, 3) := by decide +kernel
theorem dX12_layByVotes_112 : decode cX12_layByVotes 112 = .ok (.goto (-59), 3) := by decide +kernel
theorem dX12_layByVotes_115 : decode cX12_layByVotes 115 = .ok (.return_, 1) := by decide +kernel
theorem dX12_layByWeight_0 : decode cX12_layByWeight 0 = .ok (.iconst 0, 1) := by decide +kernel
theorem dX12_layByWeight_1 : decode cX12_layByWeight 1 = .ok (.istore 4, 2) := by decide +kernel
theorem dX12_layByWeight_3 : decode cX12_layByWeight 3 = .ok (.iload 4, 2) := by decide +kernel
theorem dX12_layByWeight_5 : decode cX12_layByWeight 5 = .ok (.iconst 3, 1) := by decide +kernel
theorem dX12_layByWeight_6 : decode cX12_layByWeight 6 = .ok (.iload_n 3, 1) := by decide +kernel
theorem dX12_layByWeight_7 : decode cX12_layByWeight 7 = .ok (.iconst 1, 1) := by decide +kernel
theorem dX12_layByWeight_8 : decode cX12_layByWeight 8 = .ok (.iadd, 1) := by decide +kernel
theorem dX12_layByWeight_9 : decode cX12_layByWeight 9 = .ok (.imul, 1) := by decide +kernel
theorem dX12_layByWeight_10 : decode cX12_layByWeight 10 = .ok (.if_icmp .ge 17, 3) := by decide +kernel
theorem dX12_layByWeight_13 : decode cX12_layByWeight 13 = .ok (.aload_n 0, 1) := by decide +kernel
theorem dX12_layByWeight_14 : decode cX12_layByWeight 14 = .ok (.getfield 125, 3) := by decide +kernel
theorem dX12_layByWeight_17 : decode cX12_layByWeight 17 = .ok (.iload 4, 2) := by decide +kernel
theorem dX12_layByWeight_19 : decode cX12_layByWeight 19 = .ok (.lconst 0, 1) := by decide +kernel
theorem dX12_layByWeight_20 : decode cX12_layByWeight 20 = .ok (.lastore, 1) := by decide +kernel
theorem dX12_layByWeight_21 : decode cX12_layByWeight 21 = .ok (.iinc 4 1, 3) := by decide +kernel
theorem dX12_layByWeight_24 : decode cX12_layByWeight 24 = .ok (.goto (-21), 3) := by decide +kernel
theorem dX12_layByWeight_27 : decode cX12_layByWeight 27 = .ok (.iconst 0, 1) := by decide +kernel
theorem dX12_layByWeight_28 : decode cX12_layByWeight 28 = .ok (.istore 4, 2) := by decide +kernel
theorem dX12_layByWeight_30 : decode cX12_layByWeight 30 = .ok (.iload 4, 2) := by decide +kernel
theorem dX12_layByWeight_32 : decode cX12_layByWeight 32 = .ok (.iconst 1, 1) := by decide +kernel
theorem dX12_layByWeight_33 : decode cX12_layByWeight 33 = .ok (.iconst 2, 1) := by decide +kernel
theorem dX12_layByWeight_34 : decode cX12_layByWeight 34 = .ok (.aload_n 0, 1) := by decide +kernel
theorem dX12_layByWeight_35 : decode cX12_layByWeight 35 = .ok (.getfield 306, 3) := by decide +kernel
theorem dX12_layByWeight_38 : decode cX12_layByWeight 38 = .ok (.imul, 1) := by decide +kernel
theorem dX12_layByWeight_39 : decode cX12_layByWeight 39 = .ok (.ishl, 1) := by decide +kernel
theorem dX12_layByWeight_40 : decode cX12_layByWeight 40 = .ok (.if_icmp .ge 110, 3) := by decide +kernel
theorem dX12_layByWeight_43 : decode cX12_layByWeight 43 = .ok (.aload_n 0, 1) := by decide +kernel
theorem dX12_layByWeight_44 : decode cX12_layByWeight 44 = .ok (.getfield 122, 3) := by decide +kernel
theorem dX12_layByWeight_47 : decode cX12_layByWeight 47 = .ok (.iload 4, 2) := by decide +kernel
theorem dX12_layByWeight_49 : decode cX12_layByWeight 49 = .ok (.baload, 1) := by decide +kernel
theorem dX12_layByWeight_50 : decode cX12_layByWeight 50 = .ok (.ifCond .ne 6, 3) := by decide +kernel
theorem dX12_layByWeight_53 : decode cX12_layByWeight 53 = .ok (.goto 91, 3) := by decide +kernel
theorem dX12_layByWeight_56 : decode cX12_layByWeight 56 = .ok (.iconst 0, 1) := by decide +kernel
theorem dX12_layByWeight_57 : decode cX12_layByWeight 57 = .ok (.istore 5, 2) := by decide +kernel
theorem dX12_layByWeight_59 : decode cX12_layByWeight 59 = .ok (.iconst 0, 1) := by decide +kernel
theorem dX12_layByWeight_60 : decode cX12_layByWeight 60 = .ok (.istore 6, 2) := by decide +kernel
theorem dX12_layByWeight_62 : decode cX12_layByWeight 62 = .ok (.iload 6, 2) := by decide +kernel
theorem dX12_layByWeight_64 : decode cX12_layByWeight 64 = .ok (.aload_n 0, 1) := by decide +kernel
theorem dX12_layByWeight_65 : decode cX12_layByWeight 65 = .ok (.getfield 306, 3) := by decide +kernel
theorem dX12_layByWeight_68 : decode cX12_layByWeight 68 = .ok (.if_icmp .ge 31, 3) := by decide +kernel
theorem dX12_layByWeight_71 : decode cX12_layByWeight 71 = .ok (.iload 4, 2) := by decide +kernel
theorem dX12_layByWeight_73 : decode cX12_layByWeight 73 = .ok (.iconst 2, 1) := by decide +kernel
theorem dX12_layByWeight_74 : decode cX12_layByWeight 74 = .ok (.iload 6, 2) := by decide +kernel
theorem dX12_layByWeight_76 : decode cX12_layByWeight 76 = .ok (.imul, 1) := by decide +kernel
theorem dX12_layByWeight_77 : decode cX12_layByWeight 77 = .ok (.ishr, 1) := by decide +kernel
theorem dX12_layByWeight_78 : decode cX12_layByWeight 78 = .ok (.iconst 3, 1) := by decide +kernel
theorem dX12_layByWeight_79 : decode cX12_layByWeight 79 = .ok (.iand, 1) := by decide +kernel
theorem dX12_layByWeight_80 : decode cX12_layByWeight 80 = .ok (.iload_n 1, 1) := by decide +kernel
theorem dX12_layByWeight_81 : decode cX12_layByWeight 81 = .ok (.if_icmp .ne 12, 3) := by decide +kernel
theorem dX12_layByWeight_84 : decode cX12_layByWeight 84 = .ok (.iload 5, 2) := by decide +kernel
theorem dX12_layByWeight_86 : decode cX12_layByWeight 86 = .ok (.aload_n 2, 1) := by decide +kernel
theorem dX12_layByWeight_87 : decode cX12_layByWeight 87 = .ok (.iload 6, 2) := by decide +kernel
theorem dX12_layByWeight_89 : decode cX12_layByWeight 89 = .ok (.iaload, 1) := by decide +kernel
theorem dX12_layByWeight_90 : decode cX12_layByWeight 90 = .ok (.iadd, 1) := by decide +kernel
theorem dX12_layByWeight_91 : decode cX12_layByWeight 91 = .ok (.istore 5, 2) := by decide +kernel
theorem dX12_layByWeight_93 : decode cX12_layByWeight 93 = .ok (.iinc 6 1, 3) := by decide +kernel
theorem dX12_layByWeight_96 : decode cX12_layByWeight 96 = .ok (.goto (-34), 3) := by decide +kernel
theorem dX12_layByWeight_99 : decode cX12_layByWeight 99 = .ok (.iconst 0, 1) := by decide +kernel
theorem dX12_layByWeight_100 : decode cX12_layByWeight 100 = .ok (.istore 6, 2) := by decide +kernel
theorem dX12_layByWeight_102 : decode cX12_layByWeight 102 = .ok (.iload 6, 2) := by decide +kernel
theorem dX12_layByWeight_104 : decode cX12_layByWeight 104 = .ok (.aload_n 0, 1) := by decide +kernel
theorem dX12_layByWeight_105 : decode cX12_layByWeight 105 = .ok (.getfield 303, 3) := by decide +kernel
theorem dX12_layByWeight_108 : decode cX12_layByWeight 108 = .ok (.if_icmp .ge 36, 3) := by decide +kernel
theorem dX12_layByWeight_111 : decode cX12_layByWeight 111 = .ok (.aload_n 0, 1) := by decide +kernel
theorem dX12_layByWeight_112 : decode cX12_layByWeight 112 = .ok (.getfield 125, 3) := by decide +kernel
theorem dX12_layByWeight_115 : decode cX12_layByWeight 115 = .ok (.iconst 3, 1) := by decide +kernel
theorem dX12_layByWeight_116 : decode cX12_layByWeight 116 = .ok (.iload 5, 2) := by decide +kernel
theorem dX12_layByWeight_118 : decode cX12_layByWeight 118 = .ok (.imul, 1) := by decide +kernel
theorem dX12_layByWeight_119 : decode cX12_layByWeight 119 = .ok (.iload 6, 2) := by decide +kernel
theorem dX12_layByWeight_121 : decode cX12_layByWeight 121 = .ok (.iadd, 1) := by decide +kernel
theorem dX12_layByWeight_122 : decode cX12_layByWeight 122 = .ok (.dup2, 1) := by decide +kernel
theorem dX12_layByWeight_123 : decode cX12_layByWeight 123 = .ok (.laload, 1) := by decide +kernel
theorem dX12_layByWeight_124 : decode cX12_layByWeight 124 = .ok (.aload_n 0, 1) := by decide +kernel
theorem dX12_layByWeight_125 : decode cX12_layByWeight 125 = .ok (.getfield 119, 3) := by decide +kernel
theorem dX12_layByWeight_128 : decode cX12_layByWeight 128 = .ok (.iconst 3, 1) := by decide +kernel
theorem dX12_layByWeight_129 : decode cX12_layByWeight 129 = .ok (.iload 4, 2) := by decide +kernel
theorem dX12_layByWeight_131 : decode cX12_layByWeight 131 = .ok (.imul, 1) := by decide +kernel
theorem dX12_layByWeight_132 : decode cX12_layByWeight 132 = .ok (.iload 6, 2) := by decide +kernel
theorem dX12_layByWeight_134 : decode cX12_layByWeight 134 = .ok (.iadd, 1) := by decide +kernel
theorem dX12_layByWeight_135 : decode cX12_layByWeight 135 = .ok (.laload, 1) := by decide +kernel
theorem dX12_layByWeight_136 : decode cX12_layByWeight 136 = .ok (.ladd, 1) := by decide +kernel
theorem dX12_layByWeight_137 : decode cX12_layByWeight 137 = .ok (.lastore, 1) := by decide +kernel
theorem dX12_layByWeight_138 : decode cX12_layByWeight 138 = .ok (.iinc 6 1, 3) := by decide +kernel
theorem dX12_layByWeight_141 : decode cX12_layByWeight 141 = .ok (.goto (-39), 3) := by decide +kernel
theorem dX12_layByWeight_144 : decode cX12_layByWeight 144 = .ok (.iinc 4 1, 3) := by decide +kernel
theorem dX12_layByWeight_147 : decode cX12_layByWeight 147 = .ok (.goto (-117), 3) := by decide +kernel
theorem dX12_layByWeight_150 : decode cX12_layByWeight 150 = .ok (.return_, 1) := by decide +kernel
theorem dX12_layRows_0 : decode cX12_layRows 0 = .ok (.aload_n 0, 1) := by decide +kernel
theorem dX12_layRows_1 : decode cX12_layRows 1 = .ok (.aload_n 0, 1) := by decide +kernel
theorem dX12_layRows_2 : decode cX12_layRows 2 = .ok (.getfield 20, 3) := by decide +kernel
theorem dX12_layRows_5 : decode cX12_layRows 5 = .ok (.iconst 0, 1) := by decide +kernel
theorem dX12_layRows_6 : decode cX12_layRows 6 = .ok (.iaload, 1) := by decide +kernel
theorem dX12_layRows_7 : decode cX12_layRows 7 = .ok (.putfield 303, 3) := by decide +kernel
theorem dX12_layRows_10 : decode cX12_layRows 10 = .ok (.aload_n 0, 1) := by decide +kernel
theorem dX12_layRows_11 : decode cX12_layRows 11 = .ok (.aload_n 0, 1) := by decide +kernel
theorem dX12_layRows_12 : decode cX12_layRows 12 = .ok (.getfield 23, 3) := by decide +kernel
theorem dX12_layRows_15 : decode cX12_layRows 15 = .ok (.iconst 0, 1) := by decide +kernel
theorem dX12_layRows_16 : decode cX12_layRows 16 = .ok (.iaload, 1) := by decide +kernel
theorem dX12_layRows_17 : decode cX12_layRows 17 = .ok (.putfield 306, 3) := by decide +kernel
theorem dX12_layRows_20 : decode cX12_layRows 20 = .ok (.aload_n 0, 1) := by decide +kernel
theorem dX12_layRows_21 : decode cX12_layRows 21 = .ok (.iconst 1, 1) := by decide +kernel
theorem dX12_layRows_22 : decode cX12_layRows 22 = .ok (.putfield 309, 3) := by decide +kernel
theorem dX12_layRows_25 : decode cX12_layRows 25 = .ok (.iconst 0, 1) := by decide +kernel
theorem dX12_layRows_26 : decode cX12_layRows 26 = .ok (.istore_n 1, 1) := by decide +kernel
theorem dX12_layRows_27 : decode cX12_layRows 27 = .ok (.iload_n 1, 1) := by decide +kernel
theorem dX12_layRows_28 : decode cX12_layRows 28 = .ok (.aload_n 0, 1) := by decide +kernel
theorem dX12_layRows_29 : decode cX12_layRows 29 = .ok (.getfield 306, 3) := by decide +kernel
theorem dX12_layRows_32 : decode cX12_layRows 32 = .ok (.if_icmp .ge 34, 3) := by decide +kernel
theorem dX12_layRows_35 : decode cX12_layRows 35 = .ok (.aload_n 0, 1) := by decide +kernel
theorem dX12_layRows_36 : decode cX12_layRows 36 = .ok (.getfield 62, 3) := by decide +kernel
theorem dX12_layRows_39 : decode cX12_layRows 39 = .ok (.iload_n 1, 1) := by decide +kernel
theorem dX12_layRows_40 : decode cX12_layRows 40 = .ok (.aload_n 0, 1) := by decide +kernel
theorem dX12_layRows_41 : decode cX12_layRows 41 = .ok (.getfield 309, 3) := by decide +kernel
theorem dX12_layRows_44 : decode cX12_layRows 44 = .ok (.iastore, 1) := by decide +kernel
theorem dX12_layRows_45 : decode cX12_layRows 45 = .ok (.aload_n 0, 1) := by decide +kernel
theorem dX12_layRows_46 : decode cX12_layRows 46 = .ok (.dup, 1) := by decide +kernel
theorem dX12_layRows_47 : decode cX12_layRows 47 = .ok (.getfield 309, 3) := by decide +kernel
theorem dX12_layRows_50 : decode cX12_layRows 50 = .ok (.aload_n 0, 1) := by decide +kernel
theorem dX12_layRows_51 : decode cX12_layRows 51 = .ok (.getfield 29, 3) := by decide +kernel
theorem dX12_layRows_54 : decode cX12_layRows 54 = .ok (.iload_n 1, 1) := by decide +kernel
theorem dX12_layRows_55 : decode cX12_layRows 55 = .ok (.iaload, 1) := by decide +kernel
theorem dX12_layRows_56 : decode cX12_layRows 56 = .ok (.imul, 1) := by decide +kernel
theorem dX12_layRows_57 : decode cX12_layRows 57 = .ok (.putfield 309, 3) := by decide +kernel
theorem dX12_layRows_60 : decode cX12_layRows 60 = .ok (.iinc 1 1, 3) := by decide +kernel
theorem dX12_layRows_63 : decode cX12_layRows 63 = .ok (.goto (-36), 3) := by decide +kernel
theorem dX12_layRows_66 : decode cX12_layRows 66 = .ok (.iconst 0, 1) := by decide +kernel
theorem dX12_layRows_67 : decode cX12_layRows 67 = .ok (.istore_n 1, 1) := by decide +kernel
theorem dX12_layRows_68 : decode cX12_layRows 68 = .ok (.iload_n 1, 1) := by decide +kernel
theorem dX12_layRows_69 : decode cX12_layRows 69 = .ok (.aload_n 0, 1) := by decide +kernel
theorem dX12_layRows_70 : decode cX12_layRows 70 = .ok (.getfield 309, 3) := by decide +kernel
theorem dX12_layRows_73 : decode cX12_layRows 73 = .ok (.if_icmp .ge 88, 3) := by decide +kernel
theorem dX12_layRows_76 : decode cX12_layRows 76 = .ok (.iconst 0, 1) := by decide +kernel
theorem dX12_layRows_77 : decode cX12_layRows 77 = .ok (.istore_n 2, 1) := by decide +kernel
theorem dX12_layRows_78 : decode cX12_layRows 78 = .ok (.iload_n 2, 1) := by decide +kernel
theorem dX12_layRows_79 : decode cX12_layRows 79 = .ok (.aload_n 0, 1) := by decide +kernel
theorem dX12_layRows_80 : decode cX12_layRows 80 = .ok (.getfield 303, 3) := by decide +kernel
theorem dX12_layRows_83 : decode cX12_layRows 83 = .ok (.if_icmp .ge 72, 3) := by decide +kernel
theorem dX12_layRows_86 : decode cX12_layRows 86 = .ok (.aload_n 0, 1) := by decide +kernel
theorem dX12_layRows_87 : decode cX12_layRows 87 = .ok (.getfield 26, 3) := by decide +kernel
theorem dX12_layRows_90 : decode cX12_layRows 90 = .ok (.iload_n 2, 1) := by decide +kernel
theorem dX12_layRows_91 : decode cX12_layRows 91 = .ok (.iaload, 1) := by decide +kernel
theorem dX12_layRows_92 : decode cX12_layRows 92 = .ok (.i2l, 1) := by decide +kernel
theorem dX12_layRows_93 : decode cX12_layRows 93 = .ok (.lstore_n 3, 1) := by decide +kernel
theorem dX12_layRows_94 : decode cX12_layRows 94 = .ok (.iconst 0, 1) := by decide +kernel
theorem dX12_layRows_95 : decode cX12_layRows 95 = .ok (.istore 5, 2) := by decide +kernel
theorem dX12_layRows_97 : decode cX12_layRows 97 = .ok (.iload 5, 2) := by decide +kernel
theorem dX12_layRows_99 : decode cX12_layRows 99 = .ok (.aload_n 0, 1) := by decide +kernel
theorem dX12_layRows_100 : decode cX12_layRows 100 = .ok (.getfield 306, 3) := by decide +kernel
theorem dX12_layRows_103 : decode cX12_layRows 103 = .ok (.if_icmp .ge 35, 3) := by decide +kernel
theorem dX12_layRows_106 : decode cX12_layRows 106 = .ok (.lload_n 3, 1) := by decide +kernel
theorem dX12_layRows_107 : decode cX12_layRows 107 = .ok (.aload_n 0, 1) := by decide +kernel
theorem dX12_layRows_108 : decode cX12_layRows 108 = .ok (.getfield 32, 3) := by decide +kernel
theorem dX12_layRows_111 : decode cX12_layRows 111 = .ok (.bipush 9, 2) := by decide +kernel
theorem dX12_layRows_113 : decode cX12_layRows 113 = .ok (.iload 5, 2) := by decide +kernel
theorem dX12_layRows_115 : decode cX12_layRows 115 = .ok (.imul, 1) := by decide +kernel
theorem dX12_layRows_116 : decode cX12_layRows 116 = .ok (.iconst 3, 1) := by decide +kernel
theorem dX12_layRows_117 : decode cX12_layRows 117 = .ok (.aload_n 0, 1) := by decide +kernel
theorem dX12_layRows_118 : decode cX12_layRows 118 = .ok (.iload_n 1, 1) := by decide +kernel
theorem dX12_layRows_119 : decode cX12_layRows 119 = .ok (.iload 5, 2) := by decide +kernel
theorem dX12_layRows_121 : decode cX12_layRows 121 = .ok (.invokevirtual 312, 3) := by decide +kernel
theorem dX12_layRows_124 : decode cX12_layRows 124 = .ok (.imul, 1) := by decide +kernel
theorem dX12_layRows_125 : decode cX12_layRows 125 = .ok (.iadd, 1) := by decide +kernel
theorem dX12_layRows_126 : decode cX12_layRows 126 = .ok (.iload_n 2, 1) := by decide +kernel
theorem dX12_layRows_127 : decode cX12_layRows 127 = .ok (.iadd, 1) := by decide +kernel
theorem dX12_layRows_128 : decode cX12_layRows 128 = .ok (.iaload, 1) := by decide +kernel
theorem dX12_layRows_129 : decode cX12_layRows 129 = .ok (.i2l, 1) := by decide +kernel
theorem dX12_layRows_130 : decode cX12_layRows 130 = .ok (.lmul, 1) := by decide +kernel
theorem dX12_layRows_131 : decode cX12_layRows 131 = .ok (.lstore_n 3, 1) := by decide +kernel
theorem dX12_layRows_132 : decode cX12_layRows 132 = .ok (.iinc 5 1, 3) := by decide +kernel
theorem dX12_layRows_135 : decode cX12_layRows 135 = .ok (.goto (-38), 3) := by decide +kernel
theorem dX12_layRows_138 : decode cX12_layRows 138 = .ok (.aload_n 0, 1) := by decide +kernel
theorem dX12_layRows_139 : decode cX12_layRows 139 = .ok (.getfield 65, 3) := by decide +kernel
theorem dX12_layRows_142 : decode cX12_layRows 142 = .ok (.iconst 3, 1) := by decide +kernel
theorem dX12_layRows_143 : decode cX12_layRows 143 = .ok (.iload_n 1, 1) := by decide +kernel
theorem dX12_layRows_144 : decode cX12_layRows 144 = .ok (.imul, 1) := by decide +kernel
theorem dX12_layRows_145 : decode cX12_layRows 145 = .ok (.iload_n 2, 1) := by decide +kernel
theorem dX12_layRows_146 : decode cX12_layRows 146 = .ok (.iadd, 1) := by decide +kernel
theorem dX12_layRows_147 : decode cX12_layRows 147 = .ok (.lload_n 3, 1) := by decide +kernel
theorem dX12_layRows_148 : decode cX12_layRows 148 = .ok (.lastore, 1) := by decide +kernel
theorem dX12_layRows_149 : decode cX12_layRows 149 = .ok (.iinc 2 1, 3) := by decide +kernel
theorem dX12_layRows_152 : decode cX12_layRows 152 = .ok (.goto (-74), 3) := by decide +kernel
theorem dX12_layRows_155 : decode cX12_layRows 155 = .ok (.iinc 1 1, 3) := by decide +kernel
theorem dX12_layRows_158 : decode cX12_layRows 158 = .ok (.goto (-90), 3) := by decide +kernel
theorem dX12_layRows_161 : decode cX12_layRows 161 = .ok (.return_, 1) := by decide +kernel
theorem dX12_layVotes_0 : decode cX12_layVotes 0 = .ok (.iconst 0, 1) := by decide +kernel
theorem dX12_layVotes_1 : decode cX12_layVotes 1 = .ok (.istore_n 1, 1) := by decide +kernel
theorem dX12_layVotes_2 : decode cX12_layVotes 2 = .ok (.iload_n 1, 1) := by decide +kernel
theorem dX12_layVotes_3 : decode cX12_layVotes 3 = .ok (.aload_n 0, 1) := by decide +kernel
theorem dX12_layVotes_4 : decode cX12_layVotes 4 = .ok (.getfield 306, 3) := by decide +kernel
theorem dX12_layVotes_7 : decode cX12_layVotes 7 = .ok (.if_icmp .ge 43, 3) := by decide +kernel
theorem dX12_layVotes_10 : decode cX12_layVotes 10 = .ok (.iconst 0, 1) := by decide +kernel
theorem dX12_layVotes_11 : decode cX12_layVotes 11 = .ok (.istore_n 2, 1) := by decide +kernel
theorem dX12_layVotes_12 : decode cX12_layVotes 12 = .ok (.iload_n 2, 1) := by decide +kernel
theorem dX12_layVotes_13 : decode cX12_layVotes 13 = .ok (.aload_n 0, 1) := by decide +kernel
theorem dX12_layVotes_14 : decode cX12_layVotes 14 = .ok (.getfield 29, 3) := by decide +kernel
theorem dX12_layVotes_17 : decode cX12_layVotes 17 = .ok (.iload_n 1, 1) := by decide +kernel
theorem dX12_layVotes_18 : decode cX12_layVotes 18 = .ok (.iaload, 1) := by decide +kernel
theorem dX12_layVotes_19 : decode cX12_layVotes 19 = .ok (.if_icmp .ge 25, 3) := by decide +kernel
theorem dX12_layVotes_22 : decode cX12_layVotes 22 = .ok (.aload_n 0, 1) := by decide +kernel
theorem dX12_layVotes_23 : decode cX12_layVotes 23 = .ok (.getfield 68, 3) := by decide +kernel
theorem dX12_layVotes_26 : decode cX12_layVotes 26 = .ok (.iconst 3, 1) := by decide +kernel
theorem dX12_layVotes_27 : decode cX12_layVotes 27 = .ok (.iload_n 1, 1) := by decide +kernel
theorem dX12_layVotes_28 : decode cX12_layVotes 28 = .ok (.imul, 1) := by decide +kernel
theorem dX12_layVotes_29 : decode cX12_layVotes 29 = .ok (.iload_n 2, 1) := by decide +kernel
theorem dX12_layVotes_30 : decode cX12_layVotes 30 = .ok (.iadd, 1) := by decide +kernel
theorem dX12_layVotes_31 : decode cX12_layVotes 31 = .ok (.aload_n 0, 1) := by decide +kernel
theorem dX12_layVotes_32 : decode cX12_layVotes 32 = .ok (.iload_n 1, 1) := by decide +kernel
theorem dX12_layVotes_33 : decode cX12_layVotes 33 = .ok (.iload_n 2, 1) := by decide +kernel
theorem dX12_layVotes_34 : decode cX12_layVotes 34 = .ok (.invokevirtual 347, 3) := by decide +kernel
theorem dX12_layVotes_37 : decode cX12_layVotes 37 = .ok (.iastore, 1) := by decide +kernel
theorem dX12_layVotes_38 : decode cX12_layVotes 38 = .ok (.iinc 2 1, 3) := by decide +kernel
theorem dX12_layVotes_41 : decode cX12_layVotes 41 = .ok (.goto (-29), 3) := by decide +kernel
theorem dX12_layVotes_44 : decode cX12_layVotes 44 = .ok (.iinc 1 1, 3) := by decide +kernel
theorem dX12_layVotes_47 : decode cX12_layVotes 47 = .ok (.goto (-45), 3) := by decide +kernel
theorem dX12_layVotes_50 : decode cX12_layVotes 50 = .ok (.return_, 1) := by decide +kernel
theorem dX12_least_0 : decode cX12_least 0 = .ok (.lload_n 3, 1) := by decide +kernel
theorem dX12_least_1 : decode cX12_least 1 = .ok (.lload_n 1, 1) := by decide +kernel
theorem dX12_least_2 : decode cX12_least 2 = .ok (.lcmp, 1) := by decide +kernel
theorem dX12_least_3 : decode cX12_least 3 = .ok (.ifCond .ge 7, 3) := by decide +kernel
theorem dX12_least_6 : decode cX12_least 6 = .ok (.iconst 1, 1) := by decide +kernel
theorem dX12_least_7 : decode cX12_least 7 = .ok (.goto 4, 3) := by decide +kernel
theorem dX12_least_10 : decode cX12_least 10 = .ok (.iconst 0, 1) := by decide +kernel
theorem dX12_least_11 : decode cX12_least 11 = .ok (.istore 7, 2) := by decide +kernel
theorem dX12_least_13 : decode cX12_least 13 = .ok (.aload_n 0, 1) := by decide +kernel
theorem dX12_least_14 : decode cX12_least 14 = .ok (.getfield 303, 3) := by decide +kernel
theorem dX12_least_17 : decode cX12_least 17 = .ok (.iconst 3, 1) := by decide +kernel
theorem dX12_least_18 : decode cX12_least 18 = .ok (.if_icmp .ne 23, 3) := by decide +kernel
theorem dX12_least_21 : decode cX12_least 21 = .ok (.lload 5, 2) := by decide +kernel
theorem dX12_least_23 : decode cX12_least 23 = .ok (.iload 7, 2) := by decide +kernel
theorem dX12_least_25 : decode cX12_least 25 = .ok (.iconst 1, 1) := by decide +kernel
theorem dX12_least_26 : decode cX12_least 26 = .ok (.if_icmp .ne 7, 3) := by decide +kernel
theorem dX12_least_29 : decode cX12_least 29 = .ok (.lload_n 3, 1) := by decide +kernel
theorem dX12_least_30 : decode cX12_least 30 = .ok (.goto 4, 3) := by decide +kernel
theorem dX12_least_33 : decode cX12_least 33 = .ok (.lload_n 1, 1) := by decide +kernel
theorem dX12_least_34 : decode cX12_least 34 = .ok (.lcmp, 1) := by decide +kernel
theorem dX12_least_35 : decode cX12_least 35 = .ok (.ifCond .ge 6, 3) := by decide +kernel
theorem dX12_least_38 : decode cX12_least 38 = .ok (.iconst 2, 1) := by decide +kernel
theorem dX12_least_39 : decode cX12_least 39 = .ok (.istore 7, 2) := by decide +kernel
theorem dX12_least_41 : decode cX12_least 41 = .ok (.iload 7, 2) := by decide +kernel
theorem dX12_least_43 : decode cX12_least 43 = .ok (.ireturn, 1) := by decide +kernel
theorem dX12_lineAtHand_0 : decode cX12_lineAtHand 0 = .ok (.aload_n 0, 1) := by decide +kernel
theorem dX12_lineAtHand_1 : decode cX12_lineAtHand 1 = .ok (.bipush 116, 2) := by decide +kernel
theorem dX12_lineAtHand_3 : decode cX12_lineAtHand 3 = .ok (.bipush 114, 2) := by decide +kernel
theorem dX12_lineAtHand_5 : decode cX12_lineAtHand 5 = .ok (.bipush 117, 2) := by decide +kernel
theorem dX12_lineAtHand_7 : decode cX12_lineAtHand 7 = .ok (.bipush 116, 2) := by decide +kernel
theorem dX12_lineAtHand_9 : decode cX12_lineAtHand 9 = .ok (.bipush 104, 2) := by decide +kernel
theorem dX12_lineAtHand_11 : decode cX12_lineAtHand 11 = .ok (.invokestatic 193, 3) := by decide +kernel
theorem dX12_lineAtHand_14 : decode cX12_lineAtHand 14 = .ok (.invokevirtual 203, 3) := by decide +kernel
theorem dX12_lineAtHand_17 : decode cX12_lineAtHand 17 = .ok (.ifCond .eq 5, 3) := by decide +kernel
theorem dX12_lineAtHand_20 : decode cX12_lineAtHand 20 = .ok (.iconst 0, 1) := by decide +kernel
theorem dX12_lineAtHand_21 : decode cX12_lineAtHand 21 = .ok (.ireturn, 1) := by decide +kernel
theorem dX12_lineAtHand_22 : decode cX12_lineAtHand 22 = .ok (.aload_n 0, 1) := by decide +kernel
theorem dX12_lineAtHand_23 : decode cX12_lineAtHand 23 = .ok (.bipush 118, 2) := by decide +kernel
theorem dX12_lineAtHand_25 : decode cX12_lineAtHand 25 = .ok (.bipush 111, 2) := by decide +kernel
theorem dX12_lineAtHand_27 : decode cX12_lineAtHand 27 = .ok (.bipush 116, 2) := by decide +kernel
theorem dX12_lineAtHand_29 : decode cX12_lineAtHand 29 = .ok (.bipush 101, 2) := by decide +kernel
theorem dX12_lineAtHand_31 : decode cX12_lineAtHand 31 = .ok (.bipush 114, 2) := by decide +kernel
theorem dX12_lineAtHand_33 : decode cX12_lineAtHand 33 = .ok (.invokestatic 193, 3) := by decide +kernel
theorem dX12_lineAtHand_36 : decode cX12_lineAtHand 36 = .ok (.invokevirtual 203, 3) := by decide +kernel
theorem dX12_lineAtHand_39 : decode cX12_lineAtHand 39 = .ok (.ifCond .eq 5, 3) := by decide +kernel
theorem dX12_lineAtHand_42 : decode cX12_lineAtHand 42 = .ok (.iconst 1, 1) := by decide +kernel
theorem dX12_lineAtHand_43 : decode cX12_lineAtHand 43 = .ok (.ireturn, 1) := by decide +kernel
theorem dX12_lineAtHand_44 : decode cX12_lineAtHand 44 = .ok (.aload_n 0, 1) := by decide +kernel
theorem dX12_lineAtHand_45 : decode cX12_lineAtHand 45 = .ok (.bipush 108, 2) := by decide +kernel
theorem dX12_lineAtHand_47 : decode cX12_lineAtHand 47 = .ok (.bipush 111, 2) := by decide +kernel
theorem dX12_lineAtHand_49 : decode cX12_lineAtHand 49 = .ok (.bipush 115, 2) := by decide +kernel
theorem dX12_lineAtHand_51 : decode cX12_lineAtHand 51 = .ok (.bipush 115, 2) := by decide +kernel
theorem dX12_lineAtHand_53 : decode cX12_lineAtHand 53 = .ok (.iconst 0, 1) := by decide +kernel
theorem dX12_lineAtHand_54 : decode cX12_lineAtHand 54 = .ok (.invokestatic 193, 3) := by decide +kernel
theorem dX12_lineAtHand_57 : decode cX12_lineAtHand 57 = .ok (.invokevirtual 203, 3) := by decide +kernel
theorem dX12_lineAtHand_60 : decode cX12_lineAtHand 60 = .ok (.ifCond .eq 5, 3) := by decide +kernel
theorem dX12_lineAtHand_63 : decode cX12_lineAtHand 63 = .ok (.iconst 2, 1) := by decide +kernel
theorem dX12_lineAtHand_64 : decode cX12_lineAtHand 64 = .ok (.ireturn, 1) := by decide +kernel
theorem dX12_lineAtHand_65 : decode cX12_lineAtHand 65 = .ok (.aload_n 0, 1) := by decide +kernel
theorem dX12_lineAtHand_66 : decode cX12_lineAtHand 66 = .ok (.bipush 119, 2) := by decide +kernel
theorem dX12_lineAtHand_68 : decode cX12_lineAtHand 68 = .ok (.bipush 97, 2) := by decide +kernel
theorem dX12_lineAtHand_70 : decode cX12_lineAtHand 70 = .ok (.bipush 121, 2) := by decide +kernel
theorem dX12_lineAtHand_72 : decode cX12_lineAtHand 72 = .ok (.iconst 0, 1) := by decide +kernel
theorem dX12_lineAtHand_73 : decode cX12_lineAtHand 73 = .ok (.iconst 0, 1) := by decide +kernel
theorem dX12_lineAtHand_74 : decode cX12_lineAtHand 74 = .ok (.invokestatic 193, 3) := by decide +kernel
theorem dX12_lineAtHand_77 : decode cX12_lineAtHand 77 = .ok (.invokevirtual 203, 3) := by decide +kernel
theorem dX12_lineAtHand_80 : decode cX12_lineAtHand 80 = .ok (.ifCond .eq 5, 3) := by decide +kernel
theorem dX12_lineAtHand_83 : decode cX12_lineAtHand 83 = .ok (.iconst 3, 1) := by decide +kernel
theorem dX12_lineAtHand_84 : decode cX12_lineAtHand 84 = .ok (.ireturn, 1) := by decide +kernel
theorem dX12_lineAtHand_85 : decode cX12_lineAtHand 85 = .ok (.aload_n 0, 1) := by decide +kernel
theorem dX12_lineAtHand_86 : decode cX12_lineAtHand 86 = .ok (.bipush 119, 2) := by decide +kernel
theorem dX12_lineAtHand_88 : decode cX12_lineAtHand 88 = .ok (.bipush 101, 2) := by decide +kernel
theorem dX12_lineAtHand_90 : decode cX12_lineAtHand 90 = .ok (.bipush 105, 2) := by decide +kernel
theorem dX12_lineAtHand_92 : decode cX12_lineAtHand 92 = .ok (.bipush 103, 2) := by decide +kernel
theorem dX12_lineAtHand_94 : decode cX12_lineAtHand 94 = .ok (.bipush 104, 2) := by decide +kernel
theorem dX12_lineAtHand_96 : decode cX12_lineAtHand 96 = .ok (.bipush 116, 2) := by decide +kernel
theorem dX12_lineAtHand_98 : decode cX12_lineAtHand 98 = .ok (.invokestatic 213, 3) := by decide +kernel
theorem dX12_lineAtHand_101 : decode cX12_lineAtHand 101 = .ok (.invokevirtual 203, 3) := by decide +kernel
theorem dX12_lineAtHand_104 : decode cX12_lineAtHand 104 = .ok (.ifCond .eq 5, 3) := by decide +kernel
theorem dX12_lineAtHand_107 : decode cX12_lineAtHand 107 = .ok (.iconst 4, 1) := by decide +kernel
theorem dX12_lineAtHand_108 : decode cX12_lineAtHand 108 = .ok (.ireturn, 1) := by decide +kernel
theorem dX12_lineAtHand_109 : decode cX12_lineAtHand 109 = .ok (.aload_n 0, 1) := by decide +kernel
theorem dX12_lineAtHand_110 : decode cX12_lineAtHand 110 = .ok (.bipush 114, 2) := by decide +kernel
theorem dX12_lineAtHand_112 : decode cX12_lineAtHand 112 = .ok (.bipush 117, 2) := by decide +kernel
theorem dX12_lineAtHand_114 : decode cX12_lineAtHand 114 = .ok (.bipush 108, 2) := by decide +kernel
theorem dX12_lineAtHand_116 : decode cX12_lineAtHand 116 = .ok (.bipush 101, 2) := by decide +kernel
theorem dX12_lineAtHand_118 : decode cX12_lineAtHand 118 = .ok (.iconst 0, 1) := by decide +kernel
theorem dX12_lineAtHand_119 : decode cX12_lineAtHand 119 = .ok (.invokestatic 193, 3) := by decide +kernel
theorem dX12_lineAtHand_122 : decode cX12_lineAtHand 122 = .ok (.invokevirtual 203, 3) := by decide +kernel
theorem dX12_lineAtHand_125 : decode cX12_lineAtHand 125 = .ok (.ifCond .eq 7, 3) := by decide +kernel
theorem dX12_lineAtHand_128 : decode cX12_lineAtHand 128 = .ok (.iconst 5, 1) := by decide +kernel
theorem dX12_lineAtHand_129 : decode cX12_lineAtHand 129 = .ok (.goto 4, 3) := by decide +kernel
theorem dX12_lineAtHand_132 : decode cX12_lineAtHand 132 = .ok (.iconst (-1), 1) := by decide +kernel
theorem dX12_lineAtHand_133 : decode cX12_lineAtHand 133 = .ok (.ireturn, 1) := by decide +kernel
theorem dX12_losing_0 : decode cX12_losing 0 = .ok (.lconst 0, 1) := by decide +kernel
theorem dX12_losing_1 : decode cX12_losing 1 = .ok (.lstore 4, 2) := by decide +kernel
theorem dX12_losing_3 : decode cX12_losing 3 = .ok (.iconst 0, 1) := by decide +kernel
theorem dX12_losing_4 : decode cX12_losing 4 = .ok (.istore 6, 2) := by decide +kernel
theorem dX12_losing_6 : decode cX12_losing 6 = .ok (.iload 6, 2) := by decide +kernel
theorem dX12_losing_8 : decode cX12_losing 8 = .ok (.aload_n 0, 1) := by decide +kernel
theorem dX12_losing_9 : decode cX12_losing 9 = .ok (.getfield 303, 3) := by decide +kernel
theorem dX12_losing_12 : decode cX12_losing 12 = .ok (.if_icmp .ge 32, 3) := by decide +kernel
theorem dX12_losing_15 : decode cX12_losing 15 = .ok (.lload 4, 2) := by decide +kernel
theorem dX12_losing_17 : decode cX12_losing 17 = .ok (.aload_n 0, 1) := by decide +kernel
theorem dX12_losing_18 : decode cX12_losing 18 = .ok (.iload_n 1, 1) := by decide +kernel
theorem dX12_losing_19 : decode cX12_losing 19 = .ok (.iload_n 2, 1) := by decide +kernel
theorem dX12_losing_20 : decode cX12_losing 20 = .ok (.iload 6, 2) := by decide +kernel
theorem dX12_losing_22 : decode cX12_losing 22 = .ok (.invokevirtual 330, 3) := by decide +kernel
theorem dX12_losing_25 : decode cX12_losing 25 = .ok (.aload_n 0, 1) := by decide +kernel
theorem dX12_losing_26 : decode cX12_losing 26 = .ok (.iload_n 1, 1) := by decide +kernel
theorem dX12_losing_27 : decode cX12_losing 27 = .ok (.iload 6, 2) := by decide +kernel
theorem dX12_losing_29 : decode cX12_losing 29 = .ok (.iload_n 3, 1) := by decide +kernel
theorem dX12_losing_30 : decode cX12_losing 30 = .ok (.invokevirtual 334, 3) := by decide +kernel
theorem dX12_losing_33 : decode cX12_losing 33 = .ok (.i2l, 1) := by decide +kernel
theorem dX12_losing_34 : decode cX12_losing 34 = .ok (.lmul, 1) := by decide +kernel
theorem dX12_losing_35 : decode cX12_losing 35 = .ok (.ladd, 1) := by decide +kernel
theorem dX12_losing_36 : decode cX12_losing 36 = .ok (.lstore 4, 2) := by decide +kernel
theorem dX12_losing_38 : decode cX12_losing 38 = .ok (.iinc 6 1, 3) := by decide +kernel
theorem dX12_losing_41 : decode cX12_losing 41 = .ok (.goto (-35), 3) := by decide +kernel
theorem dX12_losing_44 : decode cX12_losing 44 = .ok (.lload 4, 2) := by decide +kernel
theorem dX12_losing_46 : decode cX12_losing 46 = .ok (.lreturn, 1) := by decide +kernel
theorem dX12_loss_0 : decode cX12_loss 0 = .ok (.aload_n 0, 1) := by decide +kernel
theorem dX12_loss_1 : decode cX12_loss 1 = .ok (.getfield 35, 3) := by decide +kernel
theorem dX12_loss_4 : decode cX12_loss 4 = .ok (.bipush 9, 2) := by decide +kernel
theorem dX12_loss_6 : decode cX12_loss 6 = .ok (.iload_n 1, 1) := by decide +kernel
theorem dX12_loss_7 : decode cX12_loss 7 = .ok (.imul, 1) := by decide +kernel
theorem dX12_loss_8 : decode cX12_loss 8 = .ok (.iconst 3, 1) := by decide +kernel
theorem dX12_loss_9 : decode cX12_loss 9 = .ok (.iload_n 2, 1) := by decide +kernel
theorem dX12_loss_10 : decode cX12_loss 10 = .ok (.imul, 1) := by decide +kernel
theorem dX12_loss_11 : decode cX12_loss 11 = .ok (.iadd, 1) := by decide +kernel
theorem dX12_loss_12 : decode cX12_loss 12 = .ok (.iload_n 3, 1) := by decide +kernel
theorem dX12_loss_13 : decode cX12_loss 13 = .ok (.iadd, 1) := by decide +kernel
theorem dX12_loss_14 : decode cX12_loss 14 = .ok (.iaload, 1) := by decide +kernel
theorem dX12_loss_15 : decode cX12_loss 15 = .ok (.istore 4, 2) := by decide +kernel
theorem dX12_loss_17 : decode cX12_loss 17 = .ok (.iload 4, 2) := by decide +kernel
theorem dX12_loss_19 : decode cX12_loss 19 = .ok (.iconst (-1), 1) := by decide +kernel
theorem dX12_loss_20 : decode cX12_loss 20 = .ok (.if_icmp .eq 6, 3) := by decide +kernel
theorem dX12_loss_23 : decode cX12_loss 23 = .ok (.iload 4, 2) := by decide +kernel
theorem dX12_loss_25 : decode cX12_loss 25 = .ok (.ireturn, 1) := by decide +kernel
theorem dX12_loss_26 : decode cX12_loss 26 = .ok (.aload_n 0, 1) := by decide +kernel
theorem dX12_loss_27 : decode cX12_loss 27 = .ok (.getfield 35, 3) := by decide +kernel
theorem dX12_loss_30 : decode cX12_loss 30 = .ok (.bipush 63, 2) := by decide +kernel
theorem dX12_loss_32 : decode cX12_loss 32 = .ok (.iconst 3, 1) := by decide +kernel
theorem dX12_loss_33 : decode cX12_loss 33 = .ok (.iload_n 2, 1) := by decide +kernel
theorem dX12_loss_34 : decode cX12_loss 34 = .ok (.imul, 1) := by decide +kernel
theorem dX12_loss_35 : decode cX12_loss 35 = .ok (.iadd, 1) := by decide +kernel
theorem dX12_loss_36 : decode cX12_loss 36 = .ok (.iload_n 3, 1) := by decide +kernel
theorem dX12_loss_37 : decode cX12_loss 37 = .ok (.iadd, 1) := by decide +kernel
theorem dX12_loss_38 : decode cX12_loss 38 = .ok (.iaload, 1) := by decide +kernel
theorem dX12_loss_39 : decode cX12_loss 39 = .ok (.istore 5, 2) := by decide +kernel
theorem dX12_loss_41 : decode cX12_loss 41 = .ok (.iload 5, 2) := by decide +kernel
theorem dX12_loss_43 : decode cX12_loss 43 = .ok (.iconst (-1), 1) := by decide +kernel
theorem dX12_loss_44 : decode cX12_loss 44 = .ok (.if_icmp .eq 8, 3) := by decide +kernel
theorem dX12_loss_47 : decode cX12_loss 47 = .ok (.iload 5, 2) := by decide +kernel
theorem dX12_loss_49 : decode cX12_loss 49 = .ok (.goto 13, 3) := by decide +kernel
theorem dX12_loss_52 : decode cX12_loss 52 = .ok (.iload_n 2, 1) := by decide +kernel
theorem dX12_loss_53 : decode cX12_loss 53 = .ok (.iload_n 3, 1) := by decide +kernel
theorem dX12_loss_54 : decode cX12_loss 54 = .ok (.if_icmp .ne 7, 3) := by decide +kernel
theorem dX12_loss_57 : decode cX12_loss 57 = .ok (.iconst 0, 1) := by decide +kernel
theorem dX12_loss_58 : decode cX12_loss 58 = .ok (.goto 4, 3) := by decide +kernel
theorem dX12_loss_61 : decode cX12_loss 61 = .ok (.iconst 1, 1) := by decide +kernel
theorem dX12_loss_62 : decode cX12_loss 62 = .ok (.ireturn, 1) := by decide +kernel
theorem dX12_lost_0 : decode cX12_lost 0 = .ok (.aload_n 0, 1) := by decide +kernel
theorem dX12_lost_1 : decode cX12_lost 1 = .ok (.iconst 0, 1) := by decide +kernel
theorem dX12_lost_2 : decode cX12_lost 2 = .ok (.putfield 149, 3) := by decide +kernel
theorem dX12_lost_5 : decode cX12_lost 5 = .ok (.aload_n 0, 1) := by decide +kernel
theorem dX12_lost_6 : decode cX12_lost 6 = .ok (.getfield 306, 3) := by decide +kernel
theorem dX12_lost_9 : decode cX12_lost 9 = .ok (.ifCond .ne 7, 3) := by decide +kernel
theorem dX12_lost_12 : decode cX12_lost 12 = .ok (.lconst 0, 1) := by decide +kernel
theorem dX12_lost_13 : decode cX12_lost 13 = .ok (.goto 8, 3) := by decide +kernel
theorem dX12_lost_16 : decode cX12_lost 16 = .ok (.aload_n 0, 1) := by decide +kernel
theorem dX12_lost_17 : decode cX12_lost 17 = .ok (.iconst 0, 1) := by decide +kernel
theorem dX12_lost_18 : decode cX12_lost 18 = .ok (.invokevirtual 362, 3) := by decide +kernel
theorem dX12_lost_21 : decode cX12_lost 21 = .ok (.lreturn, 1) := by decide +kernel
theorem dX12_lostBy_0 : decode cX12_lostBy 0 = .ok (.lconst 0, 1) := by decide +kernel
theorem dX12_lostBy_1 : decode cX12_lostBy 1 = .ok (.lstore_n 2, 1) := by decide +kernel
theorem dX12_lostBy_2 : decode cX12_lostBy 2 = .ok (.iconst 0, 1) := by decide +kernel
theorem dX12_lostBy_3 : decode cX12_lostBy 3 = .ok (.istore 4, 2) := by decide +kernel
theorem dX12_lostBy_5 : decode cX12_lostBy 5 = .ok (.iload 4, 2) := by decide +kernel
theorem dX12_lostBy_7 : decode cX12_lostBy 7 = .ok (.aload_n 0, 1) := by decide +kernel
theorem dX12_lostBy_8 : decode cX12_lostBy 8 = .ok (.getfield 309, 3) := by decide +kernel
theorem dX12_lostBy_11 : decode cX12_lostBy 11 = .ok (.if_icmp .ge 63, 3) := by decide +kernel
theorem dX12_lostBy_14 : decode cX12_lostBy 14 = .ok (.aload_n 0, 1) := by decide +kernel
theorem dX12_lostBy_15 : decode cX12_lostBy 15 = .ok (.iload 4, 2) := by decide +kernel
theorem dX12_lostBy_17 : decode cX12_lostBy 17 = .ok (.iload_n 1, 1) := by decide +kernel
theorem dX12_lostBy_18 : decode cX12_lostBy 18 = .ok (.invokevirtual 355, 3) := by decide +kernel
theorem dX12_lostBy_21 : decode cX12_lostBy 21 = .ok (.istore 5, 2) := by decide +kernel
theorem dX12_lostBy_23 : decode cX12_lostBy 23 = .ok (.iconst 0, 1) := by decide +kernel
theorem dX12_lostBy_24 : decode cX12_lostBy 24 = .ok (.istore 6, 2) := by decide +kernel
theorem dX12_lostBy_26 : decode cX12_lostBy 26 = .ok (.iload 6, 2) := by decide +kernel
theorem dX12_lostBy_28 : decode cX12_lostBy 28 = .ok (.aload_n 0, 1) := by decide +kernel
theorem dX12_lostBy_29 : decode cX12_lostBy 29 = .ok (.getfield 303, 3) := by decide +kernel
theorem dX12_lostBy_32 : decode cX12_lostBy 32 = .ok (.if_icmp .ge 36, 3) := by decide +kernel
theorem dX12_lostBy_35 : decode cX12_lostBy 35 = .ok (.lload_n 2, 1) := by decide +kernel
theorem dX12_lostBy_36 : decode cX12_lostBy 36 = .ok (.aload_n 0, 1) := by decide +kernel
theorem dX12_lostBy_37 : decode cX12_lostBy 37 = .ok (.getfield 65, 3) := by decide +kernel
theorem dX12_lostBy_40 : decode cX12_lostBy 40 = .ok (.iconst 3, 1) := by decide +kernel
theorem dX12_lostBy_41 : decode cX12_lostBy 41 = .ok (.iload 4, 2) := by decide +kernel
theorem dX12_lostBy_43 : decode cX12_lostBy 43 = .ok (.imul, 1) := by decide +kernel
theorem dX12_lostBy_44 : decode cX12_lostBy 44 = .ok (.iload 6, 2) := by decide +kernel
theorem dX12_lostBy_46 : decode cX12_lostBy 46 = .ok (.iadd, 1) := by decide +kernel
theorem dX12_lostBy_47 : decode cX12_lostBy 47 = .ok (.laload, 1) := by decide +kernel
theorem dX12_lostBy_48 : decode cX12_lostBy 48 = .ok (.aload_n 0, 1) := by decide +kernel
theorem dX12_lostBy_49 : decode cX12_lostBy 49 = .ok (.bipush 7, 2) := by decide +kernel
theorem dX12_lostBy_51 : decode cX12_lostBy 51 = .ok (.iload 6, 2) := by decide +kernel
theorem dX12_lostBy_53 : decode cX12_lostBy 53 = .ok (.iload 5, 2) := by decide +kernel
theorem dX12_lostBy_55 : decode cX12_lostBy 55 = .ok (.invokevirtual 334, 3) := by decide +kernel
theorem dX12_lostBy_58 : decode cX12_lostBy 58 = .ok (.i2l, 1) := by decide +kernel
theorem dX12_lostBy_59 : decode cX12_lostBy 59 = .ok (.lmul, 1) := by decide +kernel
theorem dX12_lostBy_60 : decode cX12_lostBy 60 = .ok (.ladd, 1) := by decide +kernel
theorem dX12_lostBy_61 : decode cX12_lostBy 61 = .ok (.lstore_n 2, 1) := by decide +kernel
theorem dX12_lostBy_62 : decode cX12_lostBy 62 = .ok (.iinc 6 1, 3) := by decide +kernel
theorem dX12_lostBy_65 : decode cX12_lostBy 65 = .ok (.goto (-39), 3) := by decide +kernel
theorem dX12_lostBy_68 : decode cX12_lostBy 68 = .ok (.iinc 4 1, 3) := by decide +kernel
theorem dX12_lostBy_71 : decode cX12_lostBy 71 = .ok (.goto (-66), 3) := by decide +kernel
theorem dX12_lostBy_74 : decode cX12_lostBy 74 = .ok (.lload_n 2, 1) := by decide +kernel
theorem dX12_lostBy_75 : decode cX12_lostBy 75 = .ok (.lreturn, 1) := by decide +kernel
theorem dX12_lostByNeed_0 : decode cX12_lostByNeed 0 = .ok (.lconst 0, 1) := by decide +kernel
theorem dX12_lostByNeed_1 : decode cX12_lostByNeed 1 = .ok (.lstore 5, 2) := by decide +kernel
theorem dX12_lostByNeed_3 : decode cX12_lostByNeed 3 = .ok (.iconst 0, 1) := by decide +kernel
theorem dX12_lostByNeed_4 : decode cX12_lostByNeed 4 = .ok (.istore 7, 2) := by decide +kernel
theorem dX12_lostByNeed_6 : decode cX12_lostByNeed 6 = .ok (.iload 7, 2) := by decide +kernel
theorem dX12_lostByNeed_8 : decode cX12_lostByNeed 8 = .ok (.iload 4, 2) := by decide +kernel
theorem dX12_lostByNeed_10 : decode cX12_lostByNeed 10 = .ok (.if_icmp .gt 35, 3) := by decide +kernel
theorem dX12_lostByNeed_13 : decode cX12_lostByNeed 13 = .ok (.lload 5, 2) := by decide +kernel
theorem dX12_lostByNeed_15 : decode cX12_lostByNeed 15 = .ok (.aload_n 0, 1) := by decide +kernel
theorem dX12_lostByNeed_16 : decode cX12_lostByNeed 16 = .ok (.getfield 125, 3) := by decide +kernel
theorem dX12_lostByNeed_19 : decode cX12_lostByNeed 19 = .ok (.iconst 3, 1) := by decide +kernel
theorem dX12_lostByNeed_20 : decode cX12_lostByNeed 20 = .ok (.iload 7, 2) := by decide +kernel
theorem dX12_lostByNeed_22 : decode cX12_lostByNeed 22 = .ok (.imul, 1) := by decide +kernel
theorem dX12_lostByNeed_23 : decode cX12_lostByNeed 23 = .ok (.iload 7, 2) := by decide +kernel
theorem dX12_lostByNeed_25 : decode cX12_lostByNeed 25 = .ok (.iload_n 1, 1) := by decide +kernel
theorem dX12_lostByNeed_26 : decode cX12_lostByNeed 26 = .ok (.if_icmp .lt 7, 3) := by decide +kernel
theorem dX12_lostByNeed_29 : decode cX12_lostByNeed 29 = .ok (.iload_n 2, 1) := by decide +kernel
theorem dX12_lostByNeed_30 : decode cX12_lostByNeed 30 = .ok (.goto 4, 3) := by decide +kernel
theorem dX12_lostByNeed_33 : decode cX12_lostByNeed 33 = .ok (.iload_n 3, 1) := by decide +kernel
theorem dX12_lostByNeed_34 : decode cX12_lostByNeed 34 = .ok (.iadd, 1) := by decide +kernel
theorem dX12_lostByNeed_35 : decode cX12_lostByNeed 35 = .ok (.laload, 1) := by decide +kernel
theorem dX12_lostByNeed_36 : decode cX12_lostByNeed 36 = .ok (.ladd, 1) := by decide +kernel
theorem dX12_lostByNeed_37 : decode cX12_lostByNeed 37 = .ok (.lstore 5, 2) := by decide +kernel
theorem dX12_lostByNeed_39 : decode cX12_lostByNeed 39 = .ok (.iinc 7 1, 3) := by decide +kernel
theorem dX12_lostByNeed_42 : decode cX12_lostByNeed 42 = .ok (.goto (-36), 3) := by decide +kernel
theorem dX12_lostByNeed_45 : decode cX12_lostByNeed 45 = .ok (.lload 5, 2) := by decide +kernel
theorem dX12_lostByNeed_47 : decode cX12_lostByNeed 47 = .ok (.lreturn, 1) := by decide +kernel
theorem dX12_lostByWord_0 : decode cX12_lostByWord 0 = .ok (.lconst 0, 1) := by decide +kernel
theorem dX12_lostByWord_1 : decode cX12_lostByWord 1 = .ok (.lstore 5, 2) := by decide +kernel
theorem dX12_lostByWord_3 : decode cX12_lostByWord 3 = .ok (.iconst 0, 1) := by decide +kernel
theorem dX12_lostByWord_4 : decode cX12_lostByWord 4 = .ok (.istore 7, 2) := by decide +kernel
theorem dX12_lostByWord_6 : decode cX12_lostByWord 6 = .ok (.iload 7, 2) := by decide +kernel
theorem dX12_lostByWord_8 : decode cX12_lostByWord 8 = .ok (.aload_n 0, 1) := by decide +kernel
theorem dX12_lostByWord_9 : decode cX12_lostByWord 9 = .ok (.getfield 29, 3) := by decide +kernel
theorem dX12_lostByWord_12 : decode cX12_lostByWord 12 = .ok (.iload_n 3, 1) := by decide +kernel
theorem dX12_lostByWord_13 : decode cX12_lostByWord 13 = .ok (.iaload, 1) := by decide +kernel
theorem dX12_lostByWord_14 : decode cX12_lostByWord 14 = .ok (.if_icmp .ge 64, 3) := by decide +kernel
theorem dX12_lostByWord_17 : decode cX12_lostByWord 17 = .ok (.iconst 0, 1) := by decide +kernel
theorem dX12_lostByWord_18 : decode cX12_lostByWord 18 = .ok (.istore 8, 2) := by decide +kernel
theorem dX12_lostByWord_20 : decode cX12_lostByWord 20 = .ok (.iload 8, 2) := by decide +kernel
theorem dX12_lostByWord_22 : decode cX12_lostByWord 22 = .ok (.aload_n 0, 1) := by decide +kernel
theorem dX12_lostByWord_23 : decode cX12_lostByWord 23 = .ok (.getfield 303, 3) := by decide +kernel
theorem dX12_lostByWord_26 : decode cX12_lostByWord 26 = .ok (.if_icmp .ge 46, 3) := by decide +kernel
theorem dX12_lostByWord_29 : decode cX12_lostByWord 29 = .ok (.lload 5, 2) := by decide +kernel
theorem dX12_lostByWord_31 : decode cX12_lostByWord 31 = .ok (.aload_n 0, 1) := by decide +kernel
theorem dX12_lostByWord_32 : decode cX12_lostByWord 32 = .ok (.iload_n 1, 1) := by decide +kernel
theorem dX12_lostByWord_33 : decode cX12_lostByWord 33 = .ok (.iload_n 2, 1) := by decide +kernel
theorem dX12_lostByWord_34 : decode cX12_lostByWord 34 = .ok (.iload_n 3, 1) := by decide +kernel
theorem dX12_lostByWord_35 : decode cX12_lostByWord 35 = .ok (.iload 7, 2) := by decide +kernel
theorem dX12_lostByWord_37 : decode cX12_lostByWord 37 = .ok (.iload 8, 2) := by decide +kernel
theorem dX12_lostByWord_39 : decode cX12_lostByWord 39 = .ok (.invokevirtual 464, 3) := by decide +kernel
theorem dX12_lostByWord_42 : decode cX12_lostByWord 42 = .ok (.aload_n 0, 1) := by decide +kernel
theorem dX12_lostByWord_43 : decode cX12_lostByWord 43 = .ok (.iload_n 1, 1) := by decide +kernel
theorem dX12_lostByWord_44 : decode cX12_lostByWord 44 = .ok (.iload 8, 2) := by decide +kernel
theorem dX12_lostByWord_46 : decode cX12_lostByWord 46 = .ok (.aload_n 0, 1) := by decide +kernel
theorem dX12_lostByWord_47 : decode cX12_lostByWord 47 = .ok (.getfield 140, 3) := by decide +kernel
theorem dX12_lostByWord_50 : decode cX12_lostByWord 50 = .ok (.iconst 3, 1) := by decide +kernel
theorem dX12_lostByWord_51 : decode cX12_lostByWord 51 = .ok (.iload 7, 2) := by decide +kernel
theorem dX12_lostByWord_53 : decode cX12_lostByWord 53 = .ok (.imul, 1) := by decide +kernel
theorem dX12_lostByWord_54 : decode cX12_lostByWord 54 = .ok (.iload 4, 2) := by decide +kernel
theorem dX12_lostByWord_56 : decode cX12_lostByWord 56 = .ok (.iadd, 1) := by decide +kernel
theorem dX12_lostByWord_57 : decode cX12_lostByWord 57 = .ok (.iaload, 1) := by decide +kernel
theorem dX12_lostByWord_58 : decode cX12_lostByWord 58 = .ok (.invokevirtual 334, 3) := by decide +kernel
theorem dX12_lostByWord_61 : decode cX12_lostByWord 61 = .ok (.i2l, 1) := by decide +kernel
theorem dX12_lostByWord_62 : decode cX12_lostByWord 62 = .ok (.lmul, 1) := by decide +kernel
theorem dX12_lostByWord_63 : decode cX12_lostByWord 63 = .ok (.ladd, 1) := by decide +kernel
theorem dX12_lostByWord_64 : decode cX12_lostByWord 64 = .ok (.lstore 5, 2) := by decide +kernel
theorem dX12_lostByWord_66 : decode cX12_lostByWord 66 = .ok (.iinc 8 1, 3) := by decide +kernel
theorem dX12_lostByWord_69 : decode cX12_lostByWord 69 = .ok (.goto (-49), 3) := by decide +kernel
theorem dX12_lostByWord_72 : decode cX12_lostByWord 72 = .ok (.iinc 7 1, 3) := by decide +kernel
theorem dX12_lostByWord_75 : decode cX12_lostByWord 75 = .ok (.goto (-69), 3) := by decide +kernel
theorem dX12_lostByWord_78 : decode cX12_lostByWord 78 = .ok (.lload 5, 2) := by decide +kernel
theorem dX12_lostByWord_80 : decode cX12_lostByWord 80 = .ok (.lreturn, 1) := by decide +kernel
theorem dX12_lostInTurns_0 : decode cX12_lostInTurns 0 = .ok (.lconst 0, 1) := by decide +kernel
theorem dX12_lostInTurns_1 : decode cX12_lostInTurns 1 = .ok (.lstore_n 1, 1) := by decide +kernel
theorem dX12_lostInTurns_2 : decode cX12_lostInTurns 2 = .ok (.iconst 0, 1) := by decide +kernel
theorem dX12_lostInTurns_3 : decode cX12_lostInTurns 3 = .ok (.istore_n 3, 1) := by decide +kernel
theorem dX12_lostInTurns_4 : decode cX12_lostInTurns 4 = .ok (.iload_n 3, 1) := by decide +kernel
theorem dX12_lostInTurns_5 : decode cX12_lostInTurns 5 = .ok (.aload_n 0, 1) := by decide +kernel
theorem dX12_lostInTurns_6 : decode cX12_lostInTurns 6 = .ok (.getfield 309, 3) := by decide +kernel
theorem dX12_lostInTurns_9 : decode cX12_lostInTurns 9 = .ok (.if_icmp .ge 22, 3) := by decide +kernel
theorem dX12_lostInTurns_12 : decode cX12_lostInTurns 12 = .ok (.lload_n 1, 1) := by decide +kernel
theorem dX12_lostInTurns_13 : decode cX12_lostInTurns 13 = .ok (.aload_n 0, 1) := by decide +kernel
theorem dX12_lostInTurns_14 : decode cX12_lostInTurns 14 = .ok (.iload_n 3, 1) := by decide +kernel
theorem dX12_lostInTurns_15 : decode cX12_lostInTurns 15 = .ok (.aload_n 0, 1) := by decide +kernel
theorem dX12_lostInTurns_16 : decode cX12_lostInTurns 16 = .ok (.iload_n 3, 1) := by decide +kernel
theorem dX12_lostInTurns_17 : decode cX12_lostInTurns 17 = .ok (.invokevirtual 402, 3) := by decide +kernel
theorem dX12_lostInTurns_20 : decode cX12_lostInTurns 20 = .ok (.invokevirtual 365, 3) := by decide +kernel
theorem dX12_lostInTurns_23 : decode cX12_lostInTurns 23 = .ok (.ladd, 1) := by decide +kernel
theorem dX12_lostInTurns_24 : decode cX12_lostInTurns 24 = .ok (.lstore_n 1, 1) := by decide +kernel
theorem dX12_lostInTurns_25 : decode cX12_lostInTurns 25 = .ok (.iinc 3 1, 3) := by decide +kernel
theorem dX12_lostInTurns_28 : decode cX12_lostInTurns 28 = .ok (.goto (-24), 3) := by decide +kernel
theorem dX12_lostInTurns_31 : decode cX12_lostInTurns 31 = .ok (.lload_n 1, 1) := by decide +kernel
theorem dX12_lostInTurns_32 : decode cX12_lostInTurns 32 = .ok (.lreturn, 1) := by decide +kernel
