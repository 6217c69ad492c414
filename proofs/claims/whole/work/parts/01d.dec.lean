theorem dX12_weighed_0 : decode cX12_weighed 0 = .ok (.aload_n 0, 1) := by decide +kernel
theorem dX12_weighed_1 : decode cX12_weighed 1 = .ok (.iconst 0, 1) := by decide +kernel
theorem dX12_weighed_2 : decode cX12_weighed 2 = .ok (.putfield 149, 3) := by decide +kernel
theorem dX12_weighed_5 : decode cX12_weighed 5 = .ok (.aload_n 0, 1) := by decide +kernel
theorem dX12_weighed_6 : decode cX12_weighed 6 = .ok (.getfield 306, 3) := by decide +kernel
theorem dX12_weighed_9 : decode cX12_weighed 9 = .ok (.ifCond .eq 11, 3) := by decide +kernel
theorem dX12_weighed_12 : decode cX12_weighed 12 = .ok (.aload_n 0, 1) := by decide +kernel
theorem dX12_weighed_13 : decode cX12_weighed 13 = .ok (.getfield 306, 3) := by decide +kernel
theorem dX12_weighed_16 : decode cX12_weighed 16 = .ok (.iconst 5, 1) := by decide +kernel
theorem dX12_weighed_17 : decode cX12_weighed 17 = .ok (.if_icmp .le 7, 3) := by decide +kernel
theorem dX12_weighed_20 : decode cX12_weighed 20 = .ok (.ldc2_w 128, 3) := by decide +kernel
theorem dX12_weighed_23 : decode cX12_weighed 23 = .ok (.lreturn, 1) := by decide +kernel
theorem dX12_weighed_24 : decode cX12_weighed 24 = .ok (.aload_n 0, 1) := by decide +kernel
theorem dX12_weighed_25 : decode cX12_weighed 25 = .ok (.invokevirtual 441, 3) := by decide +kernel
theorem dX12_weighed_28 : decode cX12_weighed 28 = .ok (.ldc2_w 429, 3) := by decide +kernel
theorem dX12_weighed_31 : decode cX12_weighed 31 = .ok (.lstore_n 1, 1) := by decide +kernel
theorem dX12_weighed_32 : decode cX12_weighed 32 = .ok (.iconst 0, 1) := by decide +kernel
theorem dX12_weighed_33 : decode cX12_weighed 33 = .ok (.istore_n 3, 1) := by decide +kernel
theorem dX12_weighed_34 : decode cX12_weighed 34 = .ok (.iload_n 3, 1) := by decide +kernel
theorem dX12_weighed_35 : decode cX12_weighed 35 = .ok (.iconst 1, 1) := by decide +kernel
theorem dX12_weighed_36 : decode cX12_weighed 36 = .ok (.iconst 2, 1) := by decide +kernel
theorem dX12_weighed_37 : decode cX12_weighed 37 = .ok (.aload_n 0, 1) := by decide +kernel
theorem dX12_weighed_38 : decode cX12_weighed 38 = .ok (.getfield 306, 3) := by decide +kernel
theorem dX12_weighed_41 : decode cX12_weighed 41 = .ok (.imul, 1) := by decide +kernel
theorem dX12_weighed_42 : decode cX12_weighed 42 = .ok (.ishl, 1) := by decide +kernel
theorem dX12_weighed_43 : decode cX12_weighed 43 = .ok (.if_icmp .ge 274, 3) := by decide +kernel
theorem dX12_weighed_46 : decode cX12_weighed 46 = .ok (.iconst 0, 1) := by decide +kernel
theorem dX12_weighed_47 : decode cX12_weighed 47 = .ok (.istore 4, 2) := by decide +kernel
theorem dX12_weighed_49 : decode cX12_weighed 49 = .ok (.iload 4, 2) := by decide +kernel
theorem dX12_weighed_51 : decode cX12_weighed 51 = .ok (.aload_n 0, 1) := by decide +kernel
theorem dX12_weighed_52 : decode cX12_weighed 52 = .ok (.getfield 306, 3) := by decide +kernel
theorem dX12_weighed_55 : decode cX12_weighed 55 = .ok (.if_icmp .ge 31, 3) := by decide +kernel
theorem dX12_weighed_58 : decode cX12_weighed 58 = .ok (.aload_n 0, 1) := by decide +kernel
theorem dX12_weighed_59 : decode cX12_weighed 59 = .ok (.getfield 134, 3) := by decide +kernel
theorem dX12_weighed_62 : decode cX12_weighed 62 = .ok (.iload 4, 2) := by decide +kernel
theorem dX12_weighed_64 : decode cX12_weighed 64 = .ok (.iload_n 3, 1) := by decide +kernel
theorem dX12_weighed_65 : decode cX12_weighed 65 = .ok (.iconst 2, 1) := by decide +kernel
theorem dX12_weighed_66 : decode cX12_weighed 66 = .ok (.aload_n 0, 1) := by decide +kernel
theorem dX12_weighed_67 : decode cX12_weighed 67 = .ok (.getfield 306, 3) := by decide +kernel
theorem dX12_weighed_70 : decode cX12_weighed 70 = .ok (.iconst 1, 1) := by decide +kernel
theorem dX12_weighed_71 : decode cX12_weighed 71 = .ok (.isub, 1) := by decide +kernel
theorem dX12_weighed_72 : decode cX12_weighed 72 = .ok (.iload 4, 2) := by decide +kernel
theorem dX12_weighed_74 : decode cX12_weighed 74 = .ok (.isub, 1) := by decide +kernel
theorem dX12_weighed_75 : decode cX12_weighed 75 = .ok (.imul, 1) := by decide +kernel
theorem dX12_weighed_76 : decode cX12_weighed 76 = .ok (.ishr, 1) := by decide +kernel
theorem dX12_weighed_77 : decode cX12_weighed 77 = .ok (.iconst 3, 1) := by decide +kernel
theorem dX12_weighed_78 : decode cX12_weighed 78 = .ok (.iand, 1) := by decide +kernel
theorem dX12_weighed_79 : decode cX12_weighed 79 = .ok (.iastore, 1) := by decide +kernel
theorem dX12_weighed_80 : decode cX12_weighed 80 = .ok (.iinc 4 1, 3) := by decide +kernel
theorem dX12_weighed_83 : decode cX12_weighed 83 = .ok (.goto (-34), 3) := by decide +kernel
theorem dX12_weighed_86 : decode cX12_weighed 86 = .ok (.ldc2_w 429, 3) := by decide +kernel
theorem dX12_weighed_89 : decode cX12_weighed 89 = .ok (.lstore 4, 2) := by decide +kernel
theorem dX12_weighed_91 : decode cX12_weighed 91 = .ok (.iconst (-1), 1) := by decide +kernel
theorem dX12_weighed_92 : decode cX12_weighed 92 = .ok (.istore 6, 2) := by decide +kernel
theorem dX12_weighed_94 : decode cX12_weighed 94 = .ok (.iconst 0, 1) := by decide +kernel
theorem dX12_weighed_95 : decode cX12_weighed 95 = .ok (.istore 7, 2) := by decide +kernel
theorem dX12_weighed_97 : decode cX12_weighed 97 = .ok (.iload 7, 2) := by decide +kernel
theorem dX12_weighed_99 : decode cX12_weighed 99 = .ok (.aload_n 0, 1) := by decide +kernel
theorem dX12_weighed_100 : decode cX12_weighed 100 = .ok (.getfield 303, 3) := by decide +kernel
theorem dX12_weighed_103 : decode cX12_weighed 103 = .ok (.if_icmp .ge 128, 3) := by decide +kernel
theorem dX12_weighed_106 : decode cX12_weighed 106 = .ok (.aload_n 0, 1) := by decide +kernel
theorem dX12_weighed_107 : decode cX12_weighed 107 = .ok (.iload 7, 2) := by decide +kernel
theorem dX12_weighed_109 : decode cX12_weighed 109 = .ok (.aload_n 0, 1) := by decide +kernel
theorem dX12_weighed_110 : decode cX12_weighed 110 = .ok (.getfield 134, 3) := by decide +kernel
theorem dX12_weighed_113 : decode cX12_weighed 113 = .ok (.bipush 15, 2) := by decide +kernel
theorem dX12_weighed_115 : decode cX12_weighed 115 = .ok (.invokevirtual 444, 3) := by decide +kernel
theorem dX12_weighed_118 : decode cX12_weighed 118 = .ok (.iconst 1, 1) := by decide +kernel
theorem dX12_weighed_119 : decode cX12_weighed 119 = .ok (.istore 8, 2) := by decide +kernel
theorem dX12_weighed_121 : decode cX12_weighed 121 = .ok (.iload 8, 2) := by decide +kernel
theorem dX12_weighed_123 : decode cX12_weighed 123 = .ok (.bipush 15, 2) := by decide +kernel
theorem dX12_weighed_125 : decode cX12_weighed 125 = .ok (.if_icmp .gt 100, 3) := by decide +kernel
theorem dX12_weighed_128 : decode cX12_weighed 128 = .ok (.iconst 0, 1) := by decide +kernel
theorem dX12_weighed_129 : decode cX12_weighed 129 = .ok (.istore 9, 2) := by decide +kernel
theorem dX12_weighed_131 : decode cX12_weighed 131 = .ok (.iload 9, 2) := by decide +kernel
theorem dX12_weighed_133 : decode cX12_weighed 133 = .ok (.aload_n 0, 1) := by decide +kernel
theorem dX12_weighed_134 : decode cX12_weighed 134 = .ok (.getfield 303, 3) := by decide +kernel
theorem dX12_weighed_137 : decode cX12_weighed 137 = .ok (.if_icmp .ge 82, 3) := by decide +kernel
theorem dX12_weighed_140 : decode cX12_weighed 140 = .ok (.iload 7, 2) := by decide +kernel
theorem dX12_weighed_142 : decode cX12_weighed 142 = .ok (.iload 9, 2) := by decide +kernel
theorem dX12_weighed_144 : decode cX12_weighed 144 = .ok (.if_icmp .ne 6, 3) := by decide +kernel
theorem dX12_weighed_147 : decode cX12_weighed 147 = .ok (.goto 66, 3) := by decide +kernel
theorem dX12_weighed_150 : decode cX12_weighed 150 = .ok (.aload_n 0, 1) := by decide +kernel
theorem dX12_weighed_151 : decode cX12_weighed 151 = .ok (.iload 8, 2) := by decide +kernel
theorem dX12_weighed_153 : decode cX12_weighed 153 = .ok (.iload 7, 2) := by decide +kernel
theorem dX12_weighed_155 : decode cX12_weighed 155 = .ok (.iload 9, 2) := by decide +kernel
theorem dX12_weighed_157 : decode cX12_weighed 157 = .ok (.bipush 15, 2) := by decide +kernel
theorem dX12_weighed_159 : decode cX12_weighed 159 = .ok (.invokevirtual 448, 3) := by decide +kernel
theorem dX12_weighed_162 : decode cX12_weighed 162 = .ok (.lstore 10, 2) := by decide +kernel
theorem dX12_weighed_164 : decode cX12_weighed 164 = .ok (.bipush 9, 2) := by decide +kernel
theorem dX12_weighed_166 : decode cX12_weighed 166 = .ok (.iload 8, 2) := by decide +kernel
theorem dX12_weighed_168 : decode cX12_weighed 168 = .ok (.imul, 1) := by decide +kernel
theorem dX12_weighed_169 : decode cX12_weighed 169 = .ok (.iconst 3, 1) := by decide +kernel
theorem dX12_weighed_170 : decode cX12_weighed 170 = .ok (.iload 7, 2) := by decide +kernel
theorem dX12_weighed_172 : decode cX12_weighed 172 = .ok (.imul, 1) := by decide +kernel
theorem dX12_weighed_173 : decode cX12_weighed 173 = .ok (.iadd, 1) := by decide +kernel
theorem dX12_weighed_174 : decode cX12_weighed 174 = .ok (.iload 9, 2) := by decide +kernel
theorem dX12_weighed_176 : decode cX12_weighed 176 = .ok (.iadd, 1) := by decide +kernel
theorem dX12_weighed_177 : decode cX12_weighed 177 = .ok (.istore 12, 2) := by decide +kernel
theorem dX12_weighed_179 : decode cX12_weighed 179 = .ok (.lload 10, 2) := by decide +kernel
theorem dX12_weighed_181 : decode cX12_weighed 181 = .ok (.lload 4, 2) := by decide +kernel
theorem dX12_weighed_183 : decode cX12_weighed 183 = .ok (.lcmp, 1) := by decide +kernel
theorem dX12_weighed_184 : decode cX12_weighed 184 = .ok (.ifCond .gt 29, 3) := by decide +kernel
theorem dX12_weighed_187 : decode cX12_weighed 187 = .ok (.lload 10, 2) := by decide +kernel
theorem dX12_weighed_189 : decode cX12_weighed 189 = .ok (.lload 4, 2) := by decide +kernel
theorem dX12_weighed_191 : decode cX12_weighed 191 = .ok (.lcmp, 1) := by decide +kernel
theorem dX12_weighed_192 : decode cX12_weighed 192 = .ok (.ifCond .ne 13, 3) := by decide +kernel
theorem dX12_weighed_195 : decode cX12_weighed 195 = .ok (.iload 12, 2) := by decide +kernel
theorem dX12_weighed_197 : decode cX12_weighed 197 = .ok (.iload 6, 2) := by decide +kernel
theorem dX12_weighed_199 : decode cX12_weighed 199 = .ok (.if_icmp .lt 6, 3) := by decide +kernel
theorem dX12_weighed_202 : decode cX12_weighed 202 = .ok (.goto 11, 3) := by decide +kernel
theorem dX12_weighed_205 : decode cX12_weighed 205 = .ok (.lload 10, 2) := by decide +kernel
theorem dX12_weighed_207 : decode cX12_weighed 207 = .ok (.lstore 4, 2) := by decide +kernel
theorem dX12_weighed_209 : decode cX12_weighed 209 = .ok (.iload 12, 2) := by decide +kernel
theorem dX12_weighed_211 : decode cX12_weighed 211 = .ok (.istore 6, 2) := by decide +kernel
theorem dX12_weighed_213 : decode cX12_weighed 213 = .ok (.iinc 9 1, 3) := by decide +kernel
theorem dX12_weighed_216 : decode cX12_weighed 216 = .ok (.goto (-85), 3) := by decide +kernel
theorem dX12_weighed_219 : decode cX12_weighed 219 = .ok (.iinc 8 1, 3) := by decide +kernel
theorem dX12_weighed_222 : decode cX12_weighed 222 = .ok (.goto (-101), 3) := by decide +kernel
theorem dX12_weighed_225 : decode cX12_weighed 225 = .ok (.iinc 7 1, 3) := by decide +kernel
theorem dX12_weighed_228 : decode cX12_weighed 228 = .ok (.goto (-131), 3) := by decide +kernel
theorem dX12_weighed_231 : decode cX12_weighed 231 = .ok (.lload 4, 2) := by decide +kernel
theorem dX12_weighed_233 : decode cX12_weighed 233 = .ok (.lload_n 1, 1) := by decide +kernel
theorem dX12_weighed_234 : decode cX12_weighed 234 = .ok (.lcmp, 1) := by decide +kernel
theorem dX12_weighed_235 : decode cX12_weighed 235 = .ok (.ifCond .lt 6, 3) := by decide +kernel
theorem dX12_weighed_238 : decode cX12_weighed 238 = .ok (.goto 73, 3) := by decide +kernel
theorem dX12_weighed_241 : decode cX12_weighed 241 = .ok (.lload 4, 2) := by decide +kernel
theorem dX12_weighed_243 : decode cX12_weighed 243 = .ok (.lstore_n 1, 1) := by decide +kernel
theorem dX12_weighed_244 : decode cX12_weighed 244 = .ok (.iconst 0, 1) := by decide +kernel
theorem dX12_weighed_245 : decode cX12_weighed 245 = .ok (.istore 7, 2) := by decide +kernel
theorem dX12_weighed_247 : decode cX12_weighed 247 = .ok (.iload 7, 2) := by decide +kernel
theorem dX12_weighed_249 : decode cX12_weighed 249 = .ok (.aload_n 0, 1) := by decide +kernel
theorem dX12_weighed_250 : decode cX12_weighed 250 = .ok (.getfield 306, 3) := by decide +kernel
theorem dX12_weighed_253 : decode cX12_weighed 253 = .ok (.if_icmp .ge 23, 3) := by decide +kernel
theorem dX12_weighed_256 : decode cX12_weighed 256 = .ok (.aload_n 0, 1) := by decide +kernel
theorem dX12_weighed_257 : decode cX12_weighed 257 = .ok (.getfield 137, 3) := by decide +kernel
theorem dX12_weighed_260 : decode cX12_weighed 260 = .ok (.iload 7, 2) := by decide +kernel
theorem dX12_weighed_262 : decode cX12_weighed 262 = .ok (.aload_n 0, 1) := by decide +kernel
theorem dX12_weighed_263 : decode cX12_weighed 263 = .ok (.getfield 134, 3) := by decide +kernel
theorem dX12_weighed_266 : decode cX12_weighed 266 = .ok (.iload 7, 2) := by decide +kernel
theorem dX12_weighed_268 : decode cX12_weighed 268 = .ok (.iaload, 1) := by decide +kernel
theorem dX12_weighed_269 : decode cX12_weighed 269 = .ok (.iastore, 1) := by decide +kernel
theorem dX12_weighed_270 : decode cX12_weighed 270 = .ok (.iinc 7 1, 3) := by decide +kernel
theorem dX12_weighed_273 : decode cX12_weighed 273 = .ok (.goto (-26), 3) := by decide +kernel
theorem dX12_weighed_276 : decode cX12_weighed 276 = .ok (.aload_n 0, 1) := by decide +kernel
theorem dX12_weighed_277 : decode cX12_weighed 277 = .ok (.getfield 137, 3) := by decide +kernel
theorem dX12_weighed_280 : decode cX12_weighed 280 = .ok (.iconst 5, 1) := by decide +kernel
theorem dX12_weighed_281 : decode cX12_weighed 281 = .ok (.iload 6, 2) := by decide +kernel
theorem dX12_weighed_283 : decode cX12_weighed 283 = .ok (.bipush 9, 2) := by decide +kernel
theorem dX12_weighed_285 : decode cX12_weighed 285 = .ok (.idiv, 1) := by decide +kernel
theorem dX12_weighed_286 : decode cX12_weighed 286 = .ok (.iastore, 1) := by decide +kernel
theorem dX12_weighed_287 : decode cX12_weighed 287 = .ok (.aload_n 0, 1) := by decide +kernel
theorem dX12_weighed_288 : decode cX12_weighed 288 = .ok (.getfield 137, 3) := by decide +kernel
theorem dX12_weighed_291 : decode cX12_weighed 291 = .ok (.bipush 6, 2) := by decide +kernel
theorem dX12_weighed_293 : decode cX12_weighed 293 = .ok (.iload 6, 2) := by decide +kernel
theorem dX12_weighed_295 : decode cX12_weighed 295 = .ok (.iconst 3, 1) := by decide +kernel
theorem dX12_weighed_296 : decode cX12_weighed 296 = .ok (.idiv, 1) := by decide +kernel
theorem dX12_weighed_297 : decode cX12_weighed 297 = .ok (.iconst 3, 1) := by decide +kernel
theorem dX12_weighed_298 : decode cX12_weighed 298 = .ok (.irem, 1) := by decide +kernel
theorem dX12_weighed_299 : decode cX12_weighed 299 = .ok (.iastore, 1) := by decide +kernel
theorem dX12_weighed_300 : decode cX12_weighed 300 = .ok (.aload_n 0, 1) := by decide +kernel
theorem dX12_weighed_301 : decode cX12_weighed 301 = .ok (.getfield 137, 3) := by decide +kernel
theorem dX12_weighed_304 : decode cX12_weighed 304 = .ok (.bipush 7, 2) := by decide +kernel
theorem dX12_weighed_306 : decode cX12_weighed 306 = .ok (.iload 6, 2) := by decide +kernel
theorem dX12_weighed_308 : decode cX12_weighed 308 = .ok (.iconst 3, 1) := by decide +kernel
theorem dX12_weighed_309 : decode cX12_weighed 309 = .ok (.irem, 1) := by decide +kernel
theorem dX12_weighed_310 : decode cX12_weighed 310 = .ok (.iastore, 1) := by decide +kernel
theorem dX12_weighed_311 : decode cX12_weighed 311 = .ok (.iinc 3 1, 3) := by decide +kernel
theorem dX12_weighed_314 : decode cX12_weighed 314 = .ok (.goto (-280), 3) := by decide +kernel
theorem dX12_weighed_317 : decode cX12_weighed 317 = .ok (.aload_n 0, 1) := by decide +kernel
theorem dX12_weighed_318 : decode cX12_weighed 318 = .ok (.aload_n 0, 1) := by decide +kernel
theorem dX12_weighed_319 : decode cX12_weighed 319 = .ok (.getfield 306, 3) := by decide +kernel
theorem dX12_weighed_322 : decode cX12_weighed 322 = .ok (.putfield 452, 3) := by decide +kernel
theorem dX12_weighed_325 : decode cX12_weighed 325 = .ok (.lload_n 1, 1) := by decide +kernel
theorem dX12_weighed_326 : decode cX12_weighed 326 = .ok (.lreturn, 1) := by decide +kernel
theorem dX12_weighedAt_0 : decode cX12_weighedAt 0 = .ok (.aload_n 0, 1) := by decide +kernel
theorem dX12_weighedAt_1 : decode cX12_weighedAt 1 = .ok (.iconst 0, 1) := by decide +kernel
theorem dX12_weighedAt_2 : decode cX12_weighedAt 2 = .ok (.putfield 149, 3) := by decide +kernel
theorem dX12_weighedAt_5 : decode cX12_weighedAt 5 = .ok (.aload_n 0, 1) := by decide +kernel
theorem dX12_weighedAt_6 : decode cX12_weighedAt 6 = .ok (.getfield 452, 3) := by decide +kernel
theorem dX12_weighedAt_9 : decode cX12_weighedAt 9 = .ok (.ifCond .le 34, 3) := by decide +kernel
theorem dX12_weighedAt_12 : decode cX12_weighedAt 12 = .ok (.iload_n 1, 1) := by decide +kernel
theorem dX12_weighedAt_13 : decode cX12_weighedAt 13 = .ok (.ifCond .lt 11, 3) := by decide +kernel
theorem dX12_weighedAt_16 : decode cX12_weighedAt 16 = .ok (.iload_n 1, 1) := by decide +kernel
theorem dX12_weighedAt_17 : decode cX12_weighedAt 17 = .ok (.aload_n 0, 1) := by decide +kernel
theorem dX12_weighedAt_18 : decode cX12_weighedAt 18 = .ok (.getfield 452, 3) := by decide +kernel
theorem dX12_weighedAt_21 : decode cX12_weighedAt 21 = .ok (.if_icmp .lt 13, 3) := by decide +kernel
theorem dX12_weighedAt_24 : decode cX12_weighedAt 24 = .ok (.iload_n 1, 1) := by decide +kernel
theorem dX12_weighedAt_25 : decode cX12_weighedAt 25 = .ok (.iconst 5, 1) := by decide +kernel
theorem dX12_weighedAt_26 : decode cX12_weighedAt 26 = .ok (.bipush 7, 2) := by decide +kernel
theorem dX12_weighedAt_28 : decode cX12_weighedAt 28 = .ok (.invokestatic 234, 3) := by decide +kernel
theorem dX12_weighedAt_31 : decode cX12_weighedAt 31 = .ok (.ifCond .eq 12, 3) := by decide +kernel
theorem dX12_weighedAt_34 : decode cX12_weighedAt 34 = .ok (.aload_n 0, 1) := by decide +kernel
theorem dX12_weighedAt_35 : decode cX12_weighedAt 35 = .ok (.getfield 137, 3) := by decide +kernel
theorem dX12_weighedAt_38 : decode cX12_weighedAt 38 = .ok (.iload_n 1, 1) := by decide +kernel
theorem dX12_weighedAt_39 : decode cX12_weighedAt 39 = .ok (.iaload, 1) := by decide +kernel
theorem dX12_weighedAt_40 : decode cX12_weighedAt 40 = .ok (.goto 4, 3) := by decide +kernel
theorem dX12_weighedAt_43 : decode cX12_weighedAt 43 = .ok (.iconst (-1), 1) := by decide +kernel
theorem dX12_weighedAt_44 : decode cX12_weighedAt 44 = .ok (.ireturn, 1) := by decide +kernel
theorem dX12_weightOf_0 : decode cX12_weightOf 0 = .ok (.aload_n 0, 1) := by decide +kernel
theorem dX12_weightOf_1 : decode cX12_weightOf 1 = .ok (.getfield 26, 3) := by decide +kernel
theorem dX12_weightOf_4 : decode cX12_weightOf 4 = .ok (.iload_n 3, 1) := by decide +kernel
theorem dX12_weightOf_5 : decode cX12_weightOf 5 = .ok (.iaload, 1) := by decide +kernel
theorem dX12_weightOf_6 : decode cX12_weightOf 6 = .ok (.i2l, 1) := by decide +kernel
theorem dX12_weightOf_7 : decode cX12_weightOf 7 = .ok (.aload_n 0, 1) := by decide +kernel
theorem dX12_weightOf_8 : decode cX12_weightOf 8 = .ok (.getfield 32, 3) := by decide +kernel
theorem dX12_weightOf_11 : decode cX12_weightOf 11 = .ok (.bipush 9, 2) := by decide +kernel
theorem dX12_weightOf_13 : decode cX12_weightOf 13 = .ok (.iload_n 1, 1) := by decide +kernel
theorem dX12_weightOf_14 : decode cX12_weightOf 14 = .ok (.imul, 1) := by decide +kernel
theorem dX12_weightOf_15 : decode cX12_weightOf 15 = .ok (.iconst 3, 1) := by decide +kernel
theorem dX12_weightOf_16 : decode cX12_weightOf 16 = .ok (.iload_n 2, 1) := by decide +kernel
theorem dX12_weightOf_17 : decode cX12_weightOf 17 = .ok (.imul, 1) := by decide +kernel
theorem dX12_weightOf_18 : decode cX12_weightOf 18 = .ok (.iadd, 1) := by decide +kernel
theorem dX12_weightOf_19 : decode cX12_weightOf 19 = .ok (.iload_n 3, 1) := by decide +kernel
theorem dX12_weightOf_20 : decode cX12_weightOf 20 = .ok (.iadd, 1) := by decide +kernel
theorem dX12_weightOf_21 : decode cX12_weightOf 21 = .ok (.iaload, 1) := by decide +kernel
theorem dX12_weightOf_22 : decode cX12_weightOf 22 = .ok (.i2l, 1) := by decide +kernel
theorem dX12_weightOf_23 : decode cX12_weightOf 23 = .ok (.lmul, 1) := by decide +kernel
theorem dX12_weightOf_24 : decode cX12_weightOf 24 = .ok (.lreturn, 1) := by decide +kernel
theorem dX12_wordOf_0 : decode cX12_wordOf 0 = .ok (.iload_n 2, 1) := by decide +kernel
theorem dX12_wordOf_1 : decode cX12_wordOf 1 = .ok (.ifCond .ne 5, 3) := by decide +kernel
theorem dX12_wordOf_4 : decode cX12_wordOf 4 = .ok (.iconst 0, 1) := by decide +kernel
theorem dX12_wordOf_5 : decode cX12_wordOf 5 = .ok (.ireturn, 1) := by decide +kernel
theorem dX12_wordOf_6 : decode cX12_wordOf 6 = .ok (.iload_n 1, 1) := by decide +kernel
theorem dX12_wordOf_7 : decode cX12_wordOf 7 = .ok (.iconst 2, 1) := by decide +kernel
theorem dX12_wordOf_8 : decode cX12_wordOf 8 = .ok (.if_icmp .eq 8, 3) := by decide +kernel
theorem dX12_wordOf_11 : decode cX12_wordOf 11 = .ok (.iload_n 2, 1) := by decide +kernel
theorem dX12_wordOf_12 : decode cX12_wordOf 12 = .ok (.iconst 4, 1) := by decide +kernel
theorem dX12_wordOf_13 : decode cX12_wordOf 13 = .ok (.if_icmp .ne 5, 3) := by decide +kernel
theorem dX12_wordOf_16 : decode cX12_wordOf 16 = .ok (.iload_n 0, 1) := by decide +kernel
theorem dX12_wordOf_17 : decode cX12_wordOf 17 = .ok (.ireturn, 1) := by decide +kernel
theorem dX12_wordOf_18 : decode cX12_wordOf 18 = .ok (.iload_n 2, 1) := by decide +kernel
theorem dX12_wordOf_19 : decode cX12_wordOf 19 = .ok (.iconst 1, 1) := by decide +kernel
theorem dX12_wordOf_20 : decode cX12_wordOf 20 = .ok (.if_icmp .ne 14, 3) := by decide +kernel
theorem dX12_wordOf_23 : decode cX12_wordOf 23 = .ok (.iload_n 0, 1) := by decide +kernel
theorem dX12_wordOf_24 : decode cX12_wordOf 24 = .ok (.iconst 2, 1) := by decide +kernel
theorem dX12_wordOf_25 : decode cX12_wordOf 25 = .ok (.if_icmp .ne 7, 3) := by decide +kernel
theorem dX12_wordOf_28 : decode cX12_wordOf 28 = .ok (.iconst 1, 1) := by decide +kernel
theorem dX12_wordOf_29 : decode cX12_wordOf 29 = .ok (.goto 4, 3) := by decide +kernel
theorem dX12_wordOf_32 : decode cX12_wordOf 32 = .ok (.iconst 0, 1) := by decide +kernel
theorem dX12_wordOf_33 : decode cX12_wordOf 33 = .ok (.ireturn, 1) := by decide +kernel
theorem dX12_wordOf_34 : decode cX12_wordOf 34 = .ok (.iload_n 2, 1) := by decide +kernel
theorem dX12_wordOf_35 : decode cX12_wordOf 35 = .ok (.iconst 2, 1) := by decide +kernel
theorem dX12_wordOf_36 : decode cX12_wordOf 36 = .ok (.if_icmp .ne 14, 3) := by decide +kernel
theorem dX12_wordOf_39 : decode cX12_wordOf 39 = .ok (.iload_n 0, 1) := by decide +kernel
theorem dX12_wordOf_40 : decode cX12_wordOf 40 = .ok (.iconst 1, 1) := by decide +kernel
theorem dX12_wordOf_41 : decode cX12_wordOf 41 = .ok (.if_icmp .ne 7, 3) := by decide +kernel
theorem dX12_wordOf_44 : decode cX12_wordOf 44 = .ok (.iconst 1, 1) := by decide +kernel
theorem dX12_wordOf_45 : decode cX12_wordOf 45 = .ok (.goto 4, 3) := by decide +kernel
theorem dX12_wordOf_48 : decode cX12_wordOf 48 = .ok (.iconst 0, 1) := by decide +kernel
theorem dX12_wordOf_49 : decode cX12_wordOf 49 = .ok (.ireturn, 1) := by decide +kernel
theorem dX12_wordOf_50 : decode cX12_wordOf 50 = .ok (.iload_n 0, 1) := by decide +kernel
theorem dX12_wordOf_51 : decode cX12_wordOf 51 = .ok (.ifCond .ne 7, 3) := by decide +kernel
theorem dX12_wordOf_54 : decode cX12_wordOf 54 = .ok (.iconst 0, 1) := by decide +kernel
theorem dX12_wordOf_55 : decode cX12_wordOf 55 = .ok (.goto 4, 3) := by decide +kernel
theorem dX12_wordOf_58 : decode cX12_wordOf 58 = .ok (.iconst 1, 1) := by decide +kernel
theorem dX12_wordOf_59 : decode cX12_wordOf 59 = .ok (.ireturn, 1) := by decide +kernel
theorem dX1_addVote_0 : decode cX1_addVote 0 = .ok (.iload_n 3, 1) := by decide +kernel
theorem dX1_addVote_1 : decode cX1_addVote 1 = .ok (.ifCond .lt 26, 3) := by decide +kernel
theorem dX1_addVote_4 : decode cX1_addVote 4 = .ok (.iload_n 3, 1) := by decide +kernel
theorem dX1_addVote_5 : decode cX1_addVote 5 = .ok (.aload_n 0, 1) := by decide +kernel
theorem dX1_addVote_6 : decode cX1_addVote 6 = .ok (.getfield 43, 3) := by decide +kernel
theorem dX1_addVote_9 : decode cX1_addVote 9 = .ok (.if_icmp .ge 18, 3) := by decide +kernel
theorem dX1_addVote_12 : decode cX1_addVote 12 = .ok (.aload_n 1, 1) := by decide +kernel
theorem dX1_addVote_13 : decode cX1_addVote 13 = .ok (.iload_n 3, 1) := by decide +kernel
theorem dX1_addVote_14 : decode cX1_addVote 14 = .ok (.dup2, 1) := by decide +kernel
theorem dX1_addVote_15 : decode cX1_addVote 15 = .ok (.iaload, 1) := by decide +kernel
theorem dX1_addVote_16 : decode cX1_addVote 16 = .ok (.aload_n 0, 1) := by decide +kernel
theorem dX1_addVote_17 : decode cX1_addVote 17 = .ok (.getfield 28, 3) := by decide +kernel
theorem dX1_addVote_20 : decode cX1_addVote 20 = .ok (.iload_n 2, 1) := by decide +kernel
theorem dX1_addVote_21 : decode cX1_addVote 21 = .ok (.aaload, 1) := by decide +kernel
theorem dX1_addVote_22 : decode cX1_addVote 22 = .ok (.getfield 135, 3) := by decide +kernel
theorem dX1_addVote_25 : decode cX1_addVote 25 = .ok (.iadd, 1) := by decide +kernel
theorem dX1_addVote_26 : decode cX1_addVote 26 = .ok (.iastore, 1) := by decide +kernel
theorem dX1_addVote_27 : decode cX1_addVote 27 = .ok (.return_, 1) := by decide +kernel
theorem dX1_begin_0 : decode cX1_begin 0 = .ok (.aload_n 0, 1) := by decide +kernel
theorem dX1_begin_1 : decode cX1_begin 1 = .ok (.iconst 0, 1) := by decide +kernel
theorem dX1_begin_2 : decode cX1_begin 2 = .ok (.putfield 43, 3) := by decide +kernel
theorem dX1_begin_5 : decode cX1_begin 5 = .ok (.aload_n 0, 1) := by decide +kernel
theorem dX1_begin_6 : decode cX1_begin 6 = .ok (.iconst 0, 1) := by decide +kernel
theorem dX1_begin_7 : decode cX1_begin 7 = .ok (.putfield 46, 3) := by decide +kernel
theorem dX1_begin_10 : decode cX1_begin 10 = .ok (.aload_n 0, 1) := by decide +kernel
theorem dX1_begin_11 : decode cX1_begin 11 = .ok (.iconst 0, 1) := by decide +kernel
theorem dX1_begin_12 : decode cX1_begin 12 = .ok (.putfield 49, 3) := by decide +kernel
theorem dX1_begin_15 : decode cX1_begin 15 = .ok (.aload_n 0, 1) := by decide +kernel
theorem dX1_begin_16 : decode cX1_begin 16 = .ok (.iconst (-1), 1) := by decide +kernel
theorem dX1_begin_17 : decode cX1_begin 17 = .ok (.putfield 9, 3) := by decide +kernel
theorem dX1_begin_20 : decode cX1_begin 20 = .ok (.aload_n 0, 1) := by decide +kernel
theorem dX1_begin_21 : decode cX1_begin 21 = .ok (.getfield 22, 3) := by decide +kernel
theorem dX1_begin_24 : decode cX1_begin 24 = .ok (.invokevirtual 52, 3) := by decide +kernel
theorem dX1_begin_27 : decode cX1_begin 27 = .ok (.iconst 0, 1) := by decide +kernel
theorem dX1_begin_28 : decode cX1_begin 28 = .ok (.istore_n 1, 1) := by decide +kernel
theorem dX1_begin_29 : decode cX1_begin 29 = .ok (.iload_n 1, 1) := by decide +kernel
theorem dX1_begin_30 : decode cX1_begin 30 = .ok (.iconst 3, 1) := by decide +kernel
theorem dX1_begin_31 : decode cX1_begin 31 = .ok (.if_icmp .ge 16, 3) := by decide +kernel
theorem dX1_begin_34 : decode cX1_begin 34 = .ok (.aload_n 0, 1) := by decide +kernel
theorem dX1_begin_35 : decode cX1_begin 35 = .ok (.getfield 15, 3) := by decide +kernel
theorem dX1_begin_38 : decode cX1_begin 38 = .ok (.iload_n 1, 1) := by decide +kernel
theorem dX1_begin_39 : decode cX1_begin 39 = .ok (.iconst 0, 1) := by decide +kernel
theorem dX1_begin_40 : decode cX1_begin 40 = .ok (.iastore, 1) := by decide +kernel
theorem dX1_begin_41 : decode cX1_begin 41 = .ok (.iinc 1 1, 3) := by decide +kernel
theorem dX1_begin_44 : decode cX1_begin 44 = .ok (.goto (-15), 3) := by decide +kernel
theorem dX1_begin_47 : decode cX1_begin 47 = .ok (.return_, 1) := by decide +kernel
theorem dX1_clearTally_0 : decode cX1_clearTally 0 = .ok (.iconst 0, 1) := by decide +kernel
theorem dX1_clearTally_1 : decode cX1_clearTally 1 = .ok (.istore_n 1, 1) := by decide +kernel
theorem dX1_clearTally_2 : decode cX1_clearTally 2 = .ok (.iload_n 1, 1) := by decide +kernel
theorem dX1_clearTally_3 : decode cX1_clearTally 3 = .ok (.iconst 3, 1) := by decide +kernel
theorem dX1_clearTally_4 : decode cX1_clearTally 4 = .ok (.if_icmp .ge 16, 3) := by decide +kernel
theorem dX1_clearTally_7 : decode cX1_clearTally 7 = .ok (.aload_n 0, 1) := by decide +kernel
theorem dX1_clearTally_8 : decode cX1_clearTally 8 = .ok (.getfield 36, 3) := by decide +kernel
theorem dX1_clearTally_11 : decode cX1_clearTally 11 = .ok (.iload_n 1, 1) := by decide +kernel
theorem dX1_clearTally_12 : decode cX1_clearTally 12 = .ok (.iconst 0, 1) := by decide +kernel
theorem dX1_clearTally_13 : decode cX1_clearTally 13 = .ok (.iastore, 1) := by decide +kernel
theorem dX1_clearTally_14 : decode cX1_clearTally 14 = .ok (.iinc 1 1, 3) := by decide +kernel
theorem dX1_clearTally_17 : decode cX1_clearTally 17 = .ok (.goto (-15), 3) := by decide +kernel
theorem dX1_clearTally_20 : decode cX1_clearTally 20 = .ok (.return_, 1) := by decide +kernel
theorem dX1_decides_0 : decode cX1_decides 0 = .ok (.aload_n 0, 1) := by decide +kernel
theorem dX1_decides_1 : decode cX1_decides 1 = .ok (.getfield 49, 3) := by decide +kernel
theorem dX1_decides_4 : decode cX1_decides 4 = .ok (.ifCond .le 28, 3) := by decide +kernel
theorem dX1_decides_7 : decode cX1_decides 7 = .ok (.aload_n 1, 1) := by decide +kernel
theorem dX1_decides_8 : decode cX1_decides 8 = .ok (.aload_n 0, 1) := by decide +kernel
theorem dX1_decides_9 : decode cX1_decides 9 = .ok (.getfield 138, 3) := by decide +kernel
theorem dX1_decides_12 : decode cX1_decides 12 = .ok (.iaload, 1) := by decide +kernel
theorem dX1_decides_13 : decode cX1_decides 13 = .ok (.aload_n 0, 1) := by decide +kernel
theorem dX1_decides_14 : decode cX1_decides 14 = .ok (.getfield 49, 3) := by decide +kernel
theorem dX1_decides_17 : decode cX1_decides 17 = .ok (.if_icmp .lt 10, 3) := by decide +kernel
theorem dX1_decides_20 : decode cX1_decides 20 = .ok (.aload_n 0, 1) := by decide +kernel
theorem dX1_decides_21 : decode cX1_decides 21 = .ok (.getfield 138, 3) := by decide +kernel
theorem dX1_decides_24 : decode cX1_decides 24 = .ok (.goto 7, 3) := by decide +kernel
theorem dX1_decides_27 : decode cX1_decides 27 = .ok (.aload_n 0, 1) := by decide +kernel
theorem dX1_decides_28 : decode cX1_decides 28 = .ok (.getfield 141, 3) := by decide +kernel
theorem dX1_decides_31 : decode cX1_decides 31 = .ok (.ireturn, 1) := by decide +kernel
theorem dX1_decides_32 : decode cX1_decides 32 = .ok (.iconst 0, 1) := by decide +kernel
theorem dX1_decides_33 : decode cX1_decides 33 = .ok (.istore_n 3, 1) := by decide +kernel
theorem dX1_decides_34 : decode cX1_decides 34 = .ok (.iconst 1, 1) := by decide +kernel
theorem dX1_decides_35 : decode cX1_decides 35 = .ok (.istore 4, 2) := by decide +kernel
theorem dX1_decides_37 : decode cX1_decides 37 = .ok (.iload 4, 2) := by decide +kernel
theorem dX1_decides_39 : decode cX1_decides 39 = .ok (.aload_n 0, 1) := by decide +kernel
theorem dX1_decides_40 : decode cX1_decides 40 = .ok (.getfield 43, 3) := by decide +kernel
theorem dX1_decides_43 : decode cX1_decides 43 = .ok (.if_icmp .ge 22, 3) := by decide +kernel
theorem dX1_decides_46 : decode cX1_decides 46 = .ok (.aload_n 1, 1) := by decide +kernel
theorem dX1_decides_47 : decode cX1_decides 47 = .ok (.iload 4, 2) := by decide +kernel
theorem dX1_decides_49 : decode cX1_decides 49 = .ok (.iaload, 1) := by decide +kernel
theorem dX1_decides_50 : decode cX1_decides 50 = .ok (.aload_n 1, 1) := by decide +kernel
theorem dX1_decides_51 : decode cX1_decides 51 = .ok (.iload_n 3, 1) := by decide +kernel
theorem dX1_decides_52 : decode cX1_decides 52 = .ok (.iaload, 1) := by decide +kernel
theorem dX1_decides_53 : decode cX1_decides 53 = .ok (.if_icmp .le 6, 3) := by decide +kernel
theorem dX1_decides_56 : decode cX1_decides 56 = .ok (.iload 4, 2) := by decide +kernel
theorem dX1_decides_58 : decode cX1_decides 58 = .ok (.istore_n 3, 1) := by decide +kernel
theorem dX1_decides_59 : decode cX1_decides 59 = .ok (.iinc 4 1, 3) := by decide +kernel
theorem dX1_decides_62 : decode cX1_decides 62 = .ok (.goto (-25), 3) := by decide +kernel
theorem dX1_decides_65 : decode cX1_decides 65 = .ok (.iload_n 2, 1) := by decide +kernel
theorem dX1_decides_66 : decode cX1_decides 66 = .ok (.ifCond .lt 15, 3) := by decide +kernel
theorem dX1_decides_69 : decode cX1_decides 69 = .ok (.iload_n 2, 1) := by decide +kernel
theorem dX1_decides_70 : decode cX1_decides 70 = .ok (.aload_n 0, 1) := by decide +kernel
theorem dX1_decides_71 : decode cX1_decides 71 = .ok (.getfield 43, 3) := by decide +kernel
theorem dX1_decides_74 : decode cX1_decides 74 = .ok (.if_icmp .ge 7, 3) := by decide +kernel
theorem dX1_decides_77 : decode cX1_decides 77 = .ok (.iconst 1, 1) := by decide +kernel
theorem dX1_decides_78 : decode cX1_decides 78 = .ok (.goto 4, 3) := by decide +kernel
theorem dX1_decides_81 : decode cX1_decides 81 = .ok (.iconst 0, 1) := by decide +kernel
theorem dX1_decides_82 : decode cX1_decides 82 = .ok (.istore 4, 2) := by decide +kernel
theorem dX1_decides_84 : decode cX1_decides 84 = .ok (.iload 4, 2) := by decide +kernel
theorem dX1_decides_86 : decode cX1_decides 86 = .ok (.ifCond .eq 16, 3) := by decide +kernel
theorem dX1_decides_89 : decode cX1_decides 89 = .ok (.aload_n 1, 1) := by decide +kernel
theorem dX1_decides_90 : decode cX1_decides 90 = .ok (.iload_n 2, 1) := by decide +kernel
theorem dX1_decides_91 : decode cX1_decides 91 = .ok (.iaload, 1) := by decide +kernel
theorem dX1_decides_92 : decode cX1_decides 92 = .ok (.aload_n 1, 1) := by decide +kernel
theorem dX1_decides_93 : decode cX1_decides 93 = .ok (.iload_n 3, 1) := by decide +kernel
theorem dX1_decides_94 : decode cX1_decides 94 = .ok (.iaload, 1) := by decide +kernel
theorem dX1_decides_95 : decode cX1_decides 95 = .ok (.if_icmp .ne 7, 3) := by decide +kernel
theorem dX1_decides_98 : decode cX1_decides 98 = .ok (.iload_n 2, 1) := by decide +kernel
theorem dX1_decides_99 : decode cX1_decides 99 = .ok (.goto 4, 3) := by decide +kernel
theorem dX1_decides_102 : decode cX1_decides 102 = .ok (.iload_n 3, 1) := by decide +kernel
theorem dX1_decides_103 : decode cX1_decides 103 = .ok (.ireturn, 1) := by decide +kernel
theorem dX1_decidesWithSigns_0 : decode cX1_decidesWithSigns 0 = .ok (.aload_n 0, 1) := by decide +kernel
theorem dX1_decidesWithSigns_1 : decode cX1_decidesWithSigns 1 = .ok (.invokevirtual 124, 3) := by decide +kernel
theorem dX1_decidesWithSigns_4 : decode cX1_decidesWithSigns 4 = .ok (.iconst 0, 1) := by decide +kernel
theorem dX1_decidesWithSigns_5 : decode cX1_decidesWithSigns 5 = .ok (.istore_n 2, 1) := by decide +kernel
theorem dX1_decidesWithSigns_6 : decode cX1_decidesWithSigns 6 = .ok (.iload_n 2, 1) := by decide +kernel
theorem dX1_decidesWithSigns_7 : decode cX1_decidesWithSigns 7 = .ok (.aload_n 0, 1) := by decide +kernel
theorem dX1_decidesWithSigns_8 : decode cX1_decidesWithSigns 8 = .ok (.getfield 46, 3) := by decide +kernel
theorem dX1_decidesWithSigns_11 : decode cX1_decidesWithSigns 11 = .ok (.if_icmp .ge 30, 3) := by decide +kernel
theorem dX1_decidesWithSigns_14 : decode cX1_decidesWithSigns 14 = .ok (.aload_n 0, 1) := by decide +kernel
theorem dX1_decidesWithSigns_15 : decode cX1_decidesWithSigns 15 = .ok (.aload_n 0, 1) := by decide +kernel
theorem dX1_decidesWithSigns_16 : decode cX1_decidesWithSigns 16 = .ok (.getfield 36, 3) := by decide +kernel
theorem dX1_decidesWithSigns_19 : decode cX1_decidesWithSigns 19 = .ok (.iload_n 2, 1) := by decide +kernel
theorem dX1_decidesWithSigns_20 : decode cX1_decidesWithSigns 20 = .ok (.aload_n 0, 1) := by decide +kernel
theorem dX1_decidesWithSigns_21 : decode cX1_decidesWithSigns 21 = .ok (.getfield 33, 3) := by decide +kernel
theorem dX1_decidesWithSigns_24 : decode cX1_decidesWithSigns 24 = .ok (.iload_n 2, 1) := by decide +kernel
theorem dX1_decidesWithSigns_25 : decode cX1_decidesWithSigns 25 = .ok (.iconst 3, 1) := by decide +kernel
theorem dX1_decidesWithSigns_26 : decode cX1_decidesWithSigns 26 = .ok (.imul, 1) := by decide +kernel
theorem dX1_decidesWithSigns_27 : decode cX1_decidesWithSigns 27 = .ok (.aload_n 1, 1) := by decide +kernel
theorem dX1_decidesWithSigns_28 : decode cX1_decidesWithSigns 28 = .ok (.iload_n 2, 1) := by decide +kernel
theorem dX1_decidesWithSigns_29 : decode cX1_decidesWithSigns 29 = .ok (.iaload, 1) := by decide +kernel
theorem dX1_decidesWithSigns_30 : decode cX1_decidesWithSigns 30 = .ok (.iadd, 1) := by decide +kernel
theorem dX1_decidesWithSigns_31 : decode cX1_decidesWithSigns 31 = .ok (.iaload, 1) := by decide +kernel
theorem dX1_decidesWithSigns_32 : decode cX1_decidesWithSigns 32 = .ok (.invokevirtual 127, 3) := by decide +kernel
theorem dX1_decidesWithSigns_35 : decode cX1_decidesWithSigns 35 = .ok (.iinc 2 1, 3) := by decide +kernel
theorem dX1_decidesWithSigns_38 : decode cX1_decidesWithSigns 38 = .ok (.goto (-32), 3) := by decide +kernel
theorem dX1_decidesWithSigns_41 : decode cX1_decidesWithSigns 41 = .ok (.aload_n 0, 1) := by decide +kernel
theorem dX1_decidesWithSigns_42 : decode cX1_decidesWithSigns 42 = .ok (.getfield 9, 3) := by decide +kernel
theorem dX1_decidesWithSigns_45 : decode cX1_decidesWithSigns 45 = .ok (.iconst (-1), 1) := by decide +kernel
theorem dX1_decidesWithSigns_46 : decode cX1_decidesWithSigns 46 = .ok (.if_icmp .ne 8, 3) := by decide +kernel
theorem dX1_decidesWithSigns_49 : decode cX1_decidesWithSigns 49 = .ok (.bipush 9, 2) := by decide +kernel
theorem dX1_decidesWithSigns_51 : decode cX1_decidesWithSigns 51 = .ok (.goto 21, 3) := by decide +kernel
theorem dX1_decidesWithSigns_54 : decode cX1_decidesWithSigns 54 = .ok (.aload_n 0, 1) := by decide +kernel
theorem dX1_decidesWithSigns_55 : decode cX1_decidesWithSigns 55 = .ok (.getfield 33, 3) := by decide +kernel
theorem dX1_decidesWithSigns_58 : decode cX1_decidesWithSigns 58 = .ok (.aload_n 0, 1) := by decide +kernel
theorem dX1_decidesWithSigns_59 : decode cX1_decidesWithSigns 59 = .ok (.getfield 9, 3) := by decide +kernel
theorem dX1_decidesWithSigns_62 : decode cX1_decidesWithSigns 62 = .ok (.iconst 3, 1) := by decide +kernel
theorem dX1_decidesWithSigns_63 : decode cX1_decidesWithSigns 63 = .ok (.imul, 1) := by decide +kernel
theorem dX1_decidesWithSigns_64 : decode cX1_decidesWithSigns 64 = .ok (.aload_n 1, 1) := by decide +kernel
theorem dX1_decidesWithSigns_65 : decode cX1_decidesWithSigns 65 = .ok (.aload_n 0, 1) := by decide +kernel
theorem dX1_decidesWithSigns_66 : decode cX1_decidesWithSigns 66 = .ok (.getfield 9, 3) := by decide +kernel
theorem dX1_decidesWithSigns_69 : decode cX1_decidesWithSigns 69 = .ok (.iaload, 1) := by decide +kernel
theorem dX1_decidesWithSigns_70 : decode cX1_decidesWithSigns 70 = .ok (.iadd, 1) := by decide +kernel
theorem dX1_decidesWithSigns_71 : decode cX1_decidesWithSigns 71 = .ok (.iaload, 1) := by decide +kernel
theorem dX1_decidesWithSigns_72 : decode cX1_decidesWithSigns 72 = .ok (.istore_n 2, 1) := by decide +kernel
theorem dX1_decidesWithSigns_73 : decode cX1_decidesWithSigns 73 = .ok (.aload_n 0, 1) := by decide +kernel
theorem dX1_decidesWithSigns_74 : decode cX1_decidesWithSigns 74 = .ok (.aload_n 0, 1) := by decide +kernel
theorem dX1_decidesWithSigns_75 : decode cX1_decidesWithSigns 75 = .ok (.getfield 36, 3) := by decide +kernel
theorem dX1_decidesWithSigns_78 : decode cX1_decidesWithSigns 78 = .ok (.iload_n 2, 1) := by decide +kernel
theorem dX1_decidesWithSigns_79 : decode cX1_decidesWithSigns 79 = .ok (.invokevirtual 131, 3) := by decide +kernel
theorem dX1_decidesWithSigns_82 : decode cX1_decidesWithSigns 82 = .ok (.ireturn, 1) := by decide +kernel
theorem dX1_finish_0 : decode cX1_finish 0 = .ok (.iconst 0, 1) := by decide +kernel
theorem dX1_finish_1 : decode cX1_finish 1 = .ok (.istore_n 1, 1) := by decide +kernel
theorem dX1_finish_2 : decode cX1_finish 2 = .ok (.iload_n 1, 1) := by decide +kernel
theorem dX1_finish_3 : decode cX1_finish 3 = .ok (.aload_n 0, 1) := by decide +kernel
theorem dX1_finish_4 : decode cX1_finish 4 = .ok (.getfield 46, 3) := by decide +kernel
theorem dX1_finish_7 : decode cX1_finish 7 = .ok (.if_icmp .ge 74, 3) := by decide +kernel
theorem dX1_finish_10 : decode cX1_finish 10 = .ok (.aload_n 0, 1) := by decide +kernel
theorem dX1_finish_11 : decode cX1_finish 11 = .ok (.getfield 28, 3) := by decide +kernel
theorem dX1_finish_14 : decode cX1_finish 14 = .ok (.iload_n 1, 1) := by decide +kernel
theorem dX1_finish_15 : decode cX1_finish 15 = .ok (.aaload, 1) := by decide +kernel
theorem dX1_finish_16 : decode cX1_finish 16 = .ok (.aload_n 0, 1) := by decide +kernel
theorem dX1_finish_17 : decode cX1_finish 17 = .ok (.getfield 22, 3) := by decide +kernel
theorem dX1_finish_20 : decode cX1_finish 20 = .ok (.invokevirtual 55, 3) := by decide +kernel
theorem dX1_finish_23 : decode cX1_finish 23 = .ok (.iconst 0, 1) := by decide +kernel
theorem dX1_finish_24 : decode cX1_finish 24 = .ok (.istore_n 2, 1) := by decide +kernel
theorem dX1_finish_25 : decode cX1_finish 25 = .ok (.iload_n 2, 1) := by decide +kernel
theorem dX1_finish_26 : decode cX1_finish 26 = .ok (.iconst 3, 1) := by decide +kernel
theorem dX1_finish_27 : decode cX1_finish 27 = .ok (.if_icmp .ge 48, 3) := by decide +kernel
theorem dX1_finish_30 : decode cX1_finish 30 = .ok (.aload_n 0, 1) := by decide +kernel
theorem dX1_finish_31 : decode cX1_finish 31 = .ok (.getfield 33, 3) := by decide +kernel
theorem dX1_finish_34 : decode cX1_finish 34 = .ok (.iload_n 1, 1) := by decide +kernel
theorem dX1_finish_35 : decode cX1_finish 35 = .ok (.iconst 3, 1) := by decide +kernel
theorem dX1_finish_36 : decode cX1_finish 36 = .ok (.imul, 1) := by decide +kernel
theorem dX1_finish_37 : decode cX1_finish 37 = .ok (.iload_n 2, 1) := by decide +kernel
theorem dX1_finish_38 : decode cX1_finish 38 = .ok (.iadd, 1) := by decide +kernel
theorem dX1_finish_39 : decode cX1_finish 39 = .ok (.iload_n 2, 1) := by decide +kernel
theorem dX1_finish_40 : decode cX1_finish 40 = .ok (.aload_n 0, 1) := by decide +kernel
theorem dX1_finish_41 : decode cX1_finish 41 = .ok (.getfield 28, 3) := by decide +kernel
theorem dX1_finish_44 : decode cX1_finish 44 = .ok (.iload_n 1, 1) := by decide +kernel
theorem dX1_finish_45 : decode cX1_finish 45 = .ok (.aaload, 1) := by decide +kernel
theorem dX1_finish_46 : decode cX1_finish 46 = .ok (.getfield 59, 3) := by decide +kernel
theorem dX1_finish_49 : decode cX1_finish 49 = .ok (.if_icmp .ge 17, 3) := by decide +kernel
theorem dX1_finish_52 : decode cX1_finish 52 = .ok (.aload_n 0, 1) := by decide +kernel
theorem dX1_finish_53 : decode cX1_finish 53 = .ok (.aload_n 0, 1) := by decide +kernel
theorem dX1_finish_54 : decode cX1_finish 54 = .ok (.getfield 28, 3) := by decide +kernel
theorem dX1_finish_57 : decode cX1_finish 57 = .ok (.iload_n 1, 1) := by decide +kernel
theorem dX1_finish_58 : decode cX1_finish 58 = .ok (.aaload, 1) := by decide +kernel
theorem dX1_finish_59 : decode cX1_finish 59 = .ok (.iload_n 2, 1) := by decide +kernel
theorem dX1_finish_60 : decode cX1_finish 60 = .ok (.invokevirtual 62, 3) := by decide +kernel
theorem dX1_finish_63 : decode cX1_finish 63 = .ok (.goto 5, 3) := by decide +kernel
theorem dX1_finish_66 : decode cX1_finish 66 = .ok (.bipush 9, 2) := by decide +kernel
theorem dX1_finish_68 : decode cX1_finish 68 = .ok (.iastore, 1) := by decide +kernel
theorem dX1_finish_69 : decode cX1_finish 69 = .ok (.iinc 2 1, 3) := by decide +kernel
theorem dX1_finish_72 : decode cX1_finish 72 = .ok (.goto (-47), 3) := by decide +kernel
theorem dX1_finish_75 : decode cX1_finish 75 = .ok (.iinc 1 1, 3) := by decide +kernel
theorem dX1_finish_78 : decode cX1_finish 78 = .ok (.goto (-76), 3) := by decide +kernel
theorem dX1_finish_81 : decode cX1_finish 81 = .ok (.return_, 1) := by decide +kernel
theorem dX1_hasOrder_0 : decode cX1_hasOrder 0 = .ok (.aload_n 0, 1) := by decide +kernel
theorem dX1_hasOrder_1 : decode cX1_hasOrder 1 = .ok (.invokevirtual 70, 3) := by decide +kernel
theorem dX1_hasOrder_4 : decode cX1_hasOrder 4 = .ok (.ifCond .ne 14, 3) := by decide +kernel
theorem dX1_hasOrder_7 : decode cX1_hasOrder 7 = .ok (.aload_n 1, 1) := by decide +kernel
theorem dX1_hasOrder_8 : decode cX1_hasOrder 8 = .ok (.getfield 74, 3) := by decide +kernel
theorem dX1_hasOrder_11 : decode cX1_hasOrder 11 = .ok (.aload_n 0, 1) := by decide +kernel
theorem dX1_hasOrder_12 : decode cX1_hasOrder 12 = .ok (.getfield 46, 3) := by decide +kernel
theorem dX1_hasOrder_15 : decode cX1_hasOrder 15 = .ok (.if_icmp .eq 5, 3) := by decide +kernel
theorem dX1_hasOrder_18 : decode cX1_hasOrder 18 = .ok (.iconst 0, 1) := by decide +kernel
theorem dX1_hasOrder_19 : decode cX1_hasOrder 19 = .ok (.ireturn, 1) := by decide +kernel
theorem dX1_hasOrder_20 : decode cX1_hasOrder 20 = .ok (.iconst 0, 1) := by decide +kernel
theorem dX1_hasOrder_21 : decode cX1_hasOrder 21 = .ok (.istore_n 2, 1) := by decide +kernel
theorem dX1_hasOrder_22 : decode cX1_hasOrder 22 = .ok (.iconst 0, 1) := by decide +kernel
theorem dX1_hasOrder_23 : decode cX1_hasOrder 23 = .ok (.istore_n 3, 1) := by decide +kernel
theorem dX1_hasOrder_24 : decode cX1_hasOrder 24 = .ok (.iload_n 3, 1) := by decide +kernel
theorem dX1_hasOrder_25 : decode cX1_hasOrder 25 = .ok (.aload_n 0, 1) := by decide +kernel
theorem dX1_hasOrder_26 : decode cX1_hasOrder 26 = .ok (.getfield 46, 3) := by decide +kernel
theorem dX1_hasOrder_29 : decode cX1_hasOrder 29 = .ok (.if_icmp .ge 45, 3) := by decide +kernel
theorem dX1_hasOrder_32 : decode cX1_hasOrder 32 = .ok (.aload_n 1, 1) := by decide +kernel
theorem dX1_hasOrder_33 : decode cX1_hasOrder 33 = .ok (.getfield 79, 3) := by decide +kernel
theorem dX1_hasOrder_36 : decode cX1_hasOrder 36 = .ok (.iload_n 3, 1) := by decide +kernel
theorem dX1_hasOrder_37 : decode cX1_hasOrder 37 = .ok (.iaload, 1) := by decide +kernel
theorem dX1_hasOrder_38 : decode cX1_hasOrder 38 = .ok (.istore 4, 2) := by decide +kernel
theorem dX1_hasOrder_40 : decode cX1_hasOrder 40 = .ok (.aload_n 0, 1) := by decide +kernel
theorem dX1_hasOrder_41 : decode cX1_hasOrder 41 = .ok (.iload 4, 2) := by decide +kernel
theorem dX1_hasOrder_43 : decode cX1_hasOrder 43 = .ok (.invokevirtual 66, 3) := by decide +kernel
theorem dX1_hasOrder_46 : decode cX1_hasOrder 46 = .ok (.ifCond .eq 13, 3) := by decide +kernel
theorem dX1_hasOrder_49 : decode cX1_hasOrder 49 = .ok (.iload_n 2, 1) := by decide +kernel
theorem dX1_hasOrder_50 : decode cX1_hasOrder 50 = .ok (.iload 4, 2) := by decide +kernel
theorem dX1_hasOrder_52 : decode cX1_hasOrder 52 = .ok (.ishr, 1) := by decide +kernel
theorem dX1_hasOrder_53 : decode cX1_hasOrder 53 = .ok (.iconst 1, 1) := by decide +kernel
theorem dX1_hasOrder_54 : decode cX1_hasOrder 54 = .ok (.iand, 1) := by decide +kernel
theorem dX1_hasOrder_55 : decode cX1_hasOrder 55 = .ok (.iconst 1, 1) := by decide +kernel
theorem dX1_hasOrder_56 : decode cX1_hasOrder 56 = .ok (.if_icmp .ne 5, 3) := by decide +kernel
theorem dX1_hasOrder_59 : decode cX1_hasOrder 59 = .ok (.iconst 0, 1) := by decide +kernel
theorem dX1_hasOrder_60 : decode cX1_hasOrder 60 = .ok (.ireturn, 1) := by decide +kernel
theorem dX1_hasOrder_61 : decode cX1_hasOrder 61 = .ok (.iload_n 2, 1) := by decide +kernel
theorem dX1_hasOrder_62 : decode cX1_hasOrder 62 = .ok (.iconst 1, 1) := by decide +kernel
theorem dX1_hasOrder_63 : decode cX1_hasOrder 63 = .ok (.iload 4, 2) := by decide +kernel
theorem dX1_hasOrder_65 : decode cX1_hasOrder 65 = .ok (.ishl, 1) := by decide +kernel
theorem dX1_hasOrder_66 : decode cX1_hasOrder 66 = .ok (.ior, 1) := by decide +kernel
theorem dX1_hasOrder_67 : decode cX1_hasOrder 67 = .ok (.istore_n 2, 1) := by decide +kernel
theorem dX1_hasOrder_68 : decode cX1_hasOrder 68 = .ok (.iinc 3 1, 3) := by decide +kernel
theorem dX1_hasOrder_71 : decode cX1_hasOrder 71 = .ok (.goto (-47), 3) := by decide +kernel
theorem dX1_hasOrder_74 : decode cX1_hasOrder 74 = .ok (.iconst 1, 1) := by decide +kernel
theorem dX1_hasOrder_75 : decode cX1_hasOrder 75 = .ok (.ireturn, 1) := by decide +kernel
theorem dX1_hasSign_0 : decode cX1_hasSign 0 = .ok (.aload_n 0, 1) := by decide +kernel
theorem dX1_hasSign_1 : decode cX1_hasSign 1 = .ok (.iload_n 1, 1) := by decide +kernel
theorem dX1_hasSign_2 : decode cX1_hasSign 2 = .ok (.invokevirtual 66, 3) := by decide +kernel
theorem dX1_hasSign_5 : decode cX1_hasSign 5 = .ok (.ifCond .eq 24, 3) := by decide +kernel
theorem dX1_hasSign_8 : decode cX1_hasSign 8 = .ok (.iload_n 2, 1) := by decide +kernel
theorem dX1_hasSign_9 : decode cX1_hasSign 9 = .ok (.ifCond .lt 20, 3) := by decide +kernel
theorem dX1_hasSign_12 : decode cX1_hasSign 12 = .ok (.iload_n 2, 1) := by decide +kernel
theorem dX1_hasSign_13 : decode cX1_hasSign 13 = .ok (.aload_n 0, 1) := by decide +kernel
theorem dX1_hasSign_14 : decode cX1_hasSign 14 = .ok (.getfield 28, 3) := by decide +kernel
theorem dX1_hasSign_17 : decode cX1_hasSign 17 = .ok (.iload_n 1, 1) := by decide +kernel
theorem dX1_hasSign_18 : decode cX1_hasSign 18 = .ok (.aaload, 1) := by decide +kernel
theorem dX1_hasSign_19 : decode cX1_hasSign 19 = .ok (.getfield 59, 3) := by decide +kernel
theorem dX1_hasSign_22 : decode cX1_hasSign 22 = .ok (.if_icmp .ge 7, 3) := by decide +kernel
theorem dX1_hasSign_25 : decode cX1_hasSign 25 = .ok (.iconst 1, 1) := by decide +kernel
theorem dX1_hasSign_26 : decode cX1_hasSign 26 = .ok (.goto 4, 3) := by decide +kernel
theorem dX1_hasSign_29 : decode cX1_hasSign 29 = .ok (.iconst 0, 1) := by decide +kernel
theorem dX1_hasSign_30 : decode cX1_hasSign 30 = .ok (.ireturn, 1) := by decide +kernel
theorem dX1_hasSigns_0 : decode cX1_hasSigns 0 = .ok (.aload_n 0, 1) := by decide +kernel
theorem dX1_hasSigns_1 : decode cX1_hasSigns 1 = .ok (.invokevirtual 70, 3) := by decide +kernel
theorem dX1_hasSigns_4 : decode cX1_hasSigns 4 = .ok (.ifCond .ne 14, 3) := by decide +kernel
theorem dX1_hasSigns_7 : decode cX1_hasSigns 7 = .ok (.aload_n 1, 1) := by decide +kernel
theorem dX1_hasSigns_8 : decode cX1_hasSigns 8 = .ok (.getfield 74, 3) := by decide +kernel
theorem dX1_hasSigns_11 : decode cX1_hasSigns 11 = .ok (.aload_n 0, 1) := by decide +kernel
theorem dX1_hasSigns_12 : decode cX1_hasSigns 12 = .ok (.getfield 46, 3) := by decide +kernel
theorem dX1_hasSigns_15 : decode cX1_hasSigns 15 = .ok (.if_icmp .eq 5, 3) := by decide +kernel
theorem dX1_hasSigns_18 : decode cX1_hasSigns 18 = .ok (.iconst 0, 1) := by decide +kernel
theorem dX1_hasSigns_19 : decode cX1_hasSigns 19 = .ok (.ireturn, 1) := by decide +kernel
theorem dX1_hasSigns_20 : decode cX1_hasSigns 20 = .ok (.iconst 0, 1) := by decide +kernel
theorem dX1_hasSigns_21 : decode cX1_hasSigns 21 = .ok (.istore_n 2, 1) := by decide +kernel
theorem dX1_hasSigns_22 : decode cX1_hasSigns 22 = .ok (.iload_n 2, 1) := by decide +kernel
theorem dX1_hasSigns_23 : decode cX1_hasSigns 23 = .ok (.aload_n 0, 1) := by decide +kernel
theorem dX1_hasSigns_24 : decode cX1_hasSigns 24 = .ok (.getfield 46, 3) := by decide +kernel
theorem dX1_hasSigns_27 : decode cX1_hasSigns 27 = .ok (.if_icmp .ge 25, 3) := by decide +kernel
theorem dX1_hasSigns_30 : decode cX1_hasSigns 30 = .ok (.aload_n 0, 1) := by decide +kernel
theorem dX1_hasSigns_31 : decode cX1_hasSigns 31 = .ok (.iload_n 2, 1) := by decide +kernel
theorem dX1_hasSigns_32 : decode cX1_hasSigns 32 = .ok (.aload_n 1, 1) := by decide +kernel
theorem dX1_hasSigns_33 : decode cX1_hasSigns 33 = .ok (.getfield 79, 3) := by decide +kernel
theorem dX1_hasSigns_36 : decode cX1_hasSigns 36 = .ok (.iload_n 2, 1) := by decide +kernel
theorem dX1_hasSigns_37 : decode cX1_hasSigns 37 = .ok (.iaload, 1) := by decide +kernel
theorem dX1_hasSigns_38 : decode cX1_hasSigns 38 = .ok (.invokevirtual 82, 3) := by decide +kernel
theorem dX1_hasSigns_41 : decode cX1_hasSigns 41 = .ok (.ifCond .ne 5, 3) := by decide +kernel
theorem dX1_hasSigns_44 : decode cX1_hasSigns 44 = .ok (.iconst 0, 1) := by decide +kernel
theorem dX1_hasSigns_45 : decode cX1_hasSigns 45 = .ok (.ireturn, 1) := by decide +kernel
theorem dX1_hasSigns_46 : decode cX1_hasSigns 46 = .ok (.iinc 2 1, 3) := by decide +kernel
theorem dX1_hasSigns_49 : decode cX1_hasSigns 49 = .ok (.goto (-27), 3) := by decide +kernel
theorem dX1_hasSigns_52 : decode cX1_hasSigns 52 = .ok (.iconst 1, 1) := by decide +kernel
theorem dX1_hasSigns_53 : decode cX1_hasSigns 53 = .ok (.ireturn, 1) := by decide +kernel
theorem dX1_hasTruth_0 : decode cX1_hasTruth 0 = .ok (.iload_n 1, 1) := by decide +kernel
theorem dX1_hasTruth_1 : decode cX1_hasTruth 1 = .ok (.ifCond .lt 15, 3) := by decide +kernel
theorem dX1_hasTruth_4 : decode cX1_hasTruth 4 = .ok (.iload_n 1, 1) := by decide +kernel
theorem dX1_hasTruth_5 : decode cX1_hasTruth 5 = .ok (.aload_n 0, 1) := by decide +kernel
theorem dX1_hasTruth_6 : decode cX1_hasTruth 6 = .ok (.getfield 43, 3) := by decide +kernel
theorem dX1_hasTruth_9 : decode cX1_hasTruth 9 = .ok (.if_icmp .ge 7, 3) := by decide +kernel
theorem dX1_hasTruth_12 : decode cX1_hasTruth 12 = .ok (.iconst 1, 1) := by decide +kernel
theorem dX1_hasTruth_13 : decode cX1_hasTruth 13 = .ok (.goto 4, 3) := by decide +kernel
theorem dX1_hasTruth_16 : decode cX1_hasTruth 16 = .ok (.iconst 0, 1) := by decide +kernel
theorem dX1_hasTruth_17 : decode cX1_hasTruth 17 = .ok (.ireturn, 1) := by decide +kernel
theorem dX1_hasVoter_0 : decode cX1_hasVoter 0 = .ok (.iload_n 1, 1) := by decide +kernel
theorem dX1_hasVoter_1 : decode cX1_hasVoter 1 = .ok (.ifCond .lt 15, 3) := by decide +kernel
theorem dX1_hasVoter_4 : decode cX1_hasVoter 4 = .ok (.iload_n 1, 1) := by decide +kernel
theorem dX1_hasVoter_5 : decode cX1_hasVoter 5 = .ok (.aload_n 0, 1) := by decide +kernel
theorem dX1_hasVoter_6 : decode cX1_hasVoter 6 = .ok (.getfield 46, 3) := by decide +kernel
theorem dX1_hasVoter_9 : decode cX1_hasVoter 9 = .ok (.if_icmp .ge 7, 3) := by decide +kernel
theorem dX1_hasVoter_12 : decode cX1_hasVoter 12 = .ok (.iconst 1, 1) := by decide +kernel
theorem dX1_hasVoter_13 : decode cX1_hasVoter 13 = .ok (.goto 4, 3) := by decide +kernel
theorem dX1_hasVoter_16 : decode cX1_hasVoter 16 = .ok (.iconst 0, 1) := by decide +kernel
theorem dX1_hasVoter_17 : decode cX1_hasVoter 17 = .ok (.ireturn, 1) := by decide +kernel
theorem dX1_hasVotes_0 : decode cX1_hasVotes 0 = .ok (.aload_n 0, 1) := by decide +kernel
theorem dX1_hasVotes_1 : decode cX1_hasVotes 1 = .ok (.invokevirtual 70, 3) := by decide +kernel
theorem dX1_hasVotes_4 : decode cX1_hasVotes 4 = .ok (.ifCond .ne 14, 3) := by decide +kernel
theorem dX1_hasVotes_7 : decode cX1_hasVotes 7 = .ok (.aload_n 1, 1) := by decide +kernel
theorem dX1_hasVotes_8 : decode cX1_hasVotes 8 = .ok (.getfield 74, 3) := by decide +kernel
theorem dX1_hasVotes_11 : decode cX1_hasVotes 11 = .ok (.aload_n 0, 1) := by decide +kernel
theorem dX1_hasVotes_12 : decode cX1_hasVotes 12 = .ok (.getfield 46, 3) := by decide +kernel
theorem dX1_hasVotes_15 : decode cX1_hasVotes 15 = .ok (.if_icmp .eq 5, 3) := by decide +kernel
theorem dX1_hasVotes_18 : decode cX1_hasVotes 18 = .ok (.iconst 0, 1) := by decide +kernel
theorem dX1_hasVotes_19 : decode cX1_hasVotes 19 = .ok (.ireturn, 1) := by decide +kernel
theorem dX1_hasVotes_20 : decode cX1_hasVotes 20 = .ok (.iconst 0, 1) := by decide +kernel
theorem dX1_hasVotes_21 : decode cX1_hasVotes 21 = .ok (.istore_n 2, 1) := by decide +kernel
theorem dX1_hasVotes_22 : decode cX1_hasVotes 22 = .ok (.iload_n 2, 1) := by decide +kernel
theorem dX1_hasVotes_23 : decode cX1_hasVotes 23 = .ok (.aload_n 0, 1) := by decide +kernel
theorem dX1_hasVotes_24 : decode cX1_hasVotes 24 = .ok (.getfield 46, 3) := by decide +kernel
theorem dX1_hasVotes_27 : decode cX1_hasVotes 27 = .ok (.if_icmp .ge 35, 3) := by decide +kernel
theorem dX1_hasVotes_30 : decode cX1_hasVotes 30 = .ok (.aload_n 0, 1) := by decide +kernel
theorem dX1_hasVotes_31 : decode cX1_hasVotes 31 = .ok (.aload_n 1, 1) := by decide +kernel
theorem dX1_hasVotes_32 : decode cX1_hasVotes 32 = .ok (.getfield 79, 3) := by decide +kernel
theorem dX1_hasVotes_35 : decode cX1_hasVotes 35 = .ok (.iload_n 2, 1) := by decide +kernel
theorem dX1_hasVotes_36 : decode cX1_hasVotes 36 = .ok (.iaload, 1) := by decide +kernel
theorem dX1_hasVotes_37 : decode cX1_hasVotes 37 = .ok (.invokevirtual 86, 3) := by decide +kernel
theorem dX1_hasVotes_40 : decode cX1_hasVotes 40 = .ok (.ifCond .ne 16, 3) := by decide +kernel
theorem dX1_hasVotes_43 : decode cX1_hasVotes 43 = .ok (.aload_n 1, 1) := by decide +kernel
theorem dX1_hasVotes_44 : decode cX1_hasVotes 44 = .ok (.getfield 79, 3) := by decide +kernel
theorem dX1_hasVotes_47 : decode cX1_hasVotes 47 = .ok (.iload_n 2, 1) := by decide +kernel
theorem dX1_hasVotes_48 : decode cX1_hasVotes 48 = .ok (.iaload, 1) := by decide +kernel
theorem dX1_hasVotes_49 : decode cX1_hasVotes 49 = .ok (.bipush 9, 2) := by decide +kernel
theorem dX1_hasVotes_51 : decode cX1_hasVotes 51 = .ok (.if_icmp .eq 5, 3) := by decide +kernel
theorem dX1_hasVotes_54 : decode cX1_hasVotes 54 = .ok (.iconst 0, 1) := by decide +kernel
theorem dX1_hasVotes_55 : decode cX1_hasVotes 55 = .ok (.ireturn, 1) := by decide +kernel
theorem dX1_hasVotes_56 : decode cX1_hasVotes 56 = .ok (.iinc 2 1, 3) := by decide +kernel
theorem dX1_hasVotes_59 : decode cX1_hasVotes 59 = .ok (.goto (-37), 3) := by decide +kernel
theorem dX1_hasVotes_62 : decode cX1_hasVotes 62 = .ok (.iconst 1, 1) := by decide +kernel
theorem dX1_hasVotes_63 : decode cX1_hasVotes 63 = .ok (.ireturn, 1) := by decide +kernel
theorem dX1_honestVote_0 : decode cX1_honestVote 0 = .ok (.iconst 0, 1) := by decide +kernel
theorem dX1_honestVote_1 : decode cX1_honestVote 1 = .ok (.istore_n 3, 1) := by decide +kernel
theorem dX1_honestVote_2 : decode cX1_honestVote 2 = .ok (.iload_n 3, 1) := by decide +kernel
theorem dX1_honestVote_3 : decode cX1_honestVote 3 = .ok (.iconst 3, 1) := by decide +kernel
theorem dX1_honestVote_4 : decode cX1_honestVote 4 = .ok (.if_icmp .ge 33, 3) := by decide +kernel
theorem dX1_honestVote_7 : decode cX1_honestVote 7 = .ok (.aload_n 0, 1) := by decide +kernel
theorem dX1_honestVote_8 : decode cX1_honestVote 8 = .ok (.getfield 39, 3) := by decide +kernel
theorem dX1_honestVote_11 : decode cX1_honestVote 11 = .ok (.iload_n 3, 1) := by decide +kernel
theorem dX1_honestVote_12 : decode cX1_honestVote 12 = .ok (.aload_n 0, 1) := by decide +kernel
theorem dX1_honestVote_13 : decode cX1_honestVote 13 = .ok (.getfield 15, 3) := by decide +kernel
theorem dX1_honestVote_16 : decode cX1_honestVote 16 = .ok (.iload_n 3, 1) := by decide +kernel
theorem dX1_honestVote_17 : decode cX1_honestVote 17 = .ok (.iaload, 1) := by decide +kernel
theorem dX1_honestVote_18 : decode cX1_honestVote 18 = .ok (.aload_n 1, 1) := by decide +kernel
theorem dX1_honestVote_19 : decode cX1_honestVote 19 = .ok (.getfield 105, 3) := by decide +kernel
theorem dX1_honestVote_22 : decode cX1_honestVote 22 = .ok (.iload_n 3, 1) := by decide +kernel
theorem dX1_honestVote_23 : decode cX1_honestVote 23 = .ok (.iconst 3, 1) := by decide +kernel
theorem dX1_honestVote_24 : decode cX1_honestVote 24 = .ok (.imul, 1) := by decide +kernel
theorem dX1_honestVote_25 : decode cX1_honestVote 25 = .ok (.iload_n 2, 1) := by decide +kernel
theorem dX1_honestVote_26 : decode cX1_honestVote 26 = .ok (.iadd, 1) := by decide +kernel
theorem dX1_honestVote_27 : decode cX1_honestVote 27 = .ok (.iaload, 1) := by decide +kernel
theorem dX1_honestVote_28 : decode cX1_honestVote 28 = .ok (.imul, 1) := by decide +kernel
theorem dX1_honestVote_29 : decode cX1_honestVote 29 = .ok (.i2l, 1) := by decide +kernel
theorem dX1_honestVote_30 : decode cX1_honestVote 30 = .ok (.lastore, 1) := by decide +kernel
theorem dX1_honestVote_31 : decode cX1_honestVote 31 = .ok (.iinc 3 1, 3) := by decide +kernel
theorem dX1_honestVote_34 : decode cX1_honestVote 34 = .ok (.goto (-32), 3) := by decide +kernel
theorem dX1_honestVote_37 : decode cX1_honestVote 37 = .ok (.aload_n 1, 1) := by decide +kernel
theorem dX1_honestVote_38 : decode cX1_honestVote 38 = .ok (.getfield 108, 3) := by decide +kernel
theorem dX1_honestVote_41 : decode cX1_honestVote 41 = .ok (.aload_n 0, 1) := by decide +kernel
theorem dX1_honestVote_42 : decode cX1_honestVote 42 = .ok (.getfield 43, 3) := by decide +kernel
theorem dX1_honestVote_45 : decode cX1_honestVote 45 = .ok (.aload_n 0, 1) := by decide +kernel
theorem dX1_honestVote_46 : decode cX1_honestVote 46 = .ok (.getfield 39, 3) := by decide +kernel
theorem dX1_honestVote_49 : decode cX1_honestVote 49 = .ok (.iconst 0, 1) := by decide +kernel
theorem dX1_honestVote_50 : decode cX1_honestVote 50 = .ok (.invokevirtual 111, 3) := by decide +kernel
theorem dX1_honestVote_53 : decode cX1_honestVote 53 = .ok (.ireturn, 1) := by decide +kernel
theorem dX1_init_0 : decode cX1_init 0 = .ok (.aload_n 0, 1) := by decide +kernel
theorem dX1_init_1 : decode cX1_init 1 = .ok (.invokespecial 3, 3) := by decide +kernel
theorem dX1_init_4 : decode cX1_init 4 = .ok (.aload_n 0, 1) := by decide +kernel
theorem dX1_init_5 : decode cX1_init 5 = .ok (.iconst (-1), 1) := by decide +kernel
theorem dX1_init_6 : decode cX1_init 6 = .ok (.putfield 9, 3) := by decide +kernel
theorem dX1_init_9 : decode cX1_init 9 = .ok (.aload_n 0, 1) := by decide +kernel
theorem dX1_init_10 : decode cX1_init 10 = .ok (.iconst 3, 1) := by decide +kernel
theorem dX1_init_11 : decode cX1_init 11 = .ok (.newarray .int, 2) := by decide +kernel
theorem dX1_init_13 : decode cX1_init 13 = .ok (.putfield 15, 3) := by decide +kernel
theorem dX1_init_16 : decode cX1_init 16 = .ok (.aload_n 0, 1) := by decide +kernel
theorem dX1_init_17 : decode cX1_init 17 = .ok (.new 19, 3) := by decide +kernel
theorem dX1_init_20 : decode cX1_init 20 = .ok (.dup, 1) := by decide +kernel
theorem dX1_init_21 : decode cX1_init 21 = .ok (.invokespecial 21, 3) := by decide +kernel
theorem dX1_init_24 : decode cX1_init 24 = .ok (.putfield 22, 3) := by decide +kernel
theorem dX1_init_27 : decode cX1_init 27 = .ok (.aload_n 0, 1) := by decide +kernel
theorem dX1_init_28 : decode cX1_init 28 = .ok (.bipush 7, 2) := by decide +kernel
theorem dX1_init_30 : decode cX1_init 30 = .ok (.anewarray 26, 3) := by decide +kernel
theorem dX1_init_33 : decode cX1_init 33 = .ok (.putfield 28, 3) := by decide +kernel
theorem dX1_init_36 : decode cX1_init 36 = .ok (.iconst 0, 1) := by decide +kernel
theorem dX1_init_37 : decode cX1_init 37 = .ok (.istore_n 1, 1) := by decide +kernel
theorem dX1_init_38 : decode cX1_init 38 = .ok (.iload_n 1, 1) := by decide +kernel
theorem dX1_init_39 : decode cX1_init 39 = .ok (.bipush 7, 2) := by decide +kernel
theorem dX1_init_41 : decode cX1_init 41 = .ok (.if_icmp .ge 22, 3) := by decide +kernel
theorem dX1_init_44 : decode cX1_init 44 = .ok (.aload_n 0, 1) := by decide +kernel
theorem dX1_init_45 : decode cX1_init 45 = .ok (.getfield 28, 3) := by decide +kernel
theorem dX1_init_48 : decode cX1_init 48 = .ok (.iload_n 1, 1) := by decide +kernel
theorem dX1_init_49 : decode cX1_init 49 = .ok (.new 26, 3) := by decide +kernel
theorem dX1_init_52 : decode cX1_init 52 = .ok (.dup, 1) := by decide +kernel
theorem dX1_init_53 : decode cX1_init 53 = .ok (.invokespecial 32, 3) := by decide +kernel
theorem dX1_init_56 : decode cX1_init 56 = .ok (.aastore, 1) := by decide +kernel
theorem dX1_init_57 : decode cX1_init 57 = .ok (.iinc 1 1, 3) := by decide +kernel
theorem dX1_init_60 : decode cX1_init 60 = .ok (.goto (-22), 3) := by decide +kernel
theorem dX1_init_63 : decode cX1_init 63 = .ok (.aload_n 0, 1) := by decide +kernel
theorem dX1_init_64 : decode cX1_init 64 = .ok (.bipush 21, 2) := by decide +kernel
theorem dX1_init_66 : decode cX1_init 66 = .ok (.newarray .int, 2) := by decide +kernel
theorem dX1_init_68 : decode cX1_init 68 = .ok (.putfield 33, 3) := by decide +kernel
theorem dX1_init_71 : decode cX1_init 71 = .ok (.aload_n 0, 1) := by decide +kernel
theorem dX1_init_72 : decode cX1_init 72 = .ok (.iconst 3, 1) := by decide +kernel
theorem dX1_init_73 : decode cX1_init 73 = .ok (.newarray .int, 2) := by decide +kernel
theorem dX1_init_75 : decode cX1_init 75 = .ok (.putfield 36, 3) := by decide +kernel
theorem dX1_init_78 : decode cX1_init 78 = .ok (.aload_n 0, 1) := by decide +kernel
theorem dX1_init_79 : decode cX1_init 79 = .ok (.iconst 3, 1) := by decide +kernel
theorem dX1_init_80 : decode cX1_init 80 = .ok (.newarray .long, 2) := by decide +kernel
theorem dX1_init_82 : decode cX1_init 82 = .ok (.putfield 39, 3) := by decide +kernel
theorem dX1_init_85 : decode cX1_init 85 = .ok (.return_, 1) := by decide +kernel
theorem dX1_isEmpty_0 : decode cX1_isEmpty 0 = .ok (.aload_n 0, 1) := by decide +kernel
theorem dX1_isEmpty_1 : decode cX1_isEmpty 1 = .ok (.getfield 46, 3) := by decide +kernel
theorem dX1_isEmpty_4 : decode cX1_isEmpty 4 = .ok (.ifCond .ne 7, 3) := by decide +kernel
theorem dX1_isEmpty_7 : decode cX1_isEmpty 7 = .ok (.iconst 1, 1) := by decide +kernel
theorem dX1_isEmpty_8 : decode cX1_isEmpty 8 = .ok (.goto 4, 3) := by decide +kernel
theorem dX1_isEmpty_11 : decode cX1_isEmpty 11 = .ok (.iconst 0, 1) := by decide +kernel
theorem dX1_isEmpty_12 : decode cX1_isEmpty 12 = .ok (.ireturn, 1) := by decide +kernel
theorem dX1_knownBy_0 : decode cX1_knownBy 0 = .ok (.iconst 0, 1) := by decide +kernel
theorem dX1_knownBy_1 : decode cX1_knownBy 1 = .ok (.istore_n 2, 1) := by decide +kernel
theorem dX1_knownBy_2 : decode cX1_knownBy 2 = .ok (.iload_n 2, 1) := by decide +kernel
theorem dX1_knownBy_3 : decode cX1_knownBy 3 = .ok (.iconst 3, 1) := by decide +kernel
theorem dX1_knownBy_4 : decode cX1_knownBy 4 = .ok (.if_icmp .ge 21, 3) := by decide +kernel
theorem dX1_knownBy_7 : decode cX1_knownBy 7 = .ok (.aload_n 0, 1) := by decide +kernel
theorem dX1_knownBy_8 : decode cX1_knownBy 8 = .ok (.getfield 39, 3) := by decide +kernel
theorem dX1_knownBy_11 : decode cX1_knownBy 11 = .ok (.iload_n 2, 1) := by decide +kernel
theorem dX1_knownBy_12 : decode cX1_knownBy 12 = .ok (.aload_n 0, 1) := by decide +kernel
theorem dX1_knownBy_13 : decode cX1_knownBy 13 = .ok (.iload_n 2, 1) := by decide +kernel
theorem dX1_knownBy_14 : decode cX1_knownBy 14 = .ok (.aload_n 1, 1) := by decide +kernel
theorem dX1_knownBy_15 : decode cX1_knownBy 15 = .ok (.invokevirtual 120, 3) := by decide +kernel
theorem dX1_knownBy_18 : decode cX1_knownBy 18 = .ok (.lastore, 1) := by decide +kernel
theorem dX1_knownBy_19 : decode cX1_knownBy 19 = .ok (.iinc 2 1, 3) := by decide +kernel
theorem dX1_knownBy_22 : decode cX1_knownBy 22 = .ok (.goto (-20), 3) := by decide +kernel
theorem dX1_knownBy_25 : decode cX1_knownBy 25 = .ok (.aload_n 0, 1) := by decide +kernel
theorem dX1_knownBy_26 : decode cX1_knownBy 26 = .ok (.getfield 22, 3) := by decide +kernel
theorem dX1_knownBy_29 : decode cX1_knownBy 29 = .ok (.aload_n 0, 1) := by decide +kernel
theorem dX1_knownBy_30 : decode cX1_knownBy 30 = .ok (.getfield 43, 3) := by decide +kernel
theorem dX1_knownBy_33 : decode cX1_knownBy 33 = .ok (.aload_n 0, 1) := by decide +kernel
theorem dX1_knownBy_34 : decode cX1_knownBy 34 = .ok (.getfield 39, 3) := by decide +kernel
theorem dX1_knownBy_37 : decode cX1_knownBy 37 = .ok (.iconst 0, 1) := by decide +kernel
theorem dX1_knownBy_38 : decode cX1_knownBy 38 = .ok (.invokevirtual 111, 3) := by decide +kernel
theorem dX1_knownBy_41 : decode cX1_knownBy 41 = .ok (.ireturn, 1) := by decide +kernel
theorem dX1_partsOf_0 : decode cX1_partsOf 0 = .ok (.aload_n 0, 1) := by decide +kernel
theorem dX1_partsOf_1 : decode cX1_partsOf 1 = .ok (.getfield 15, 3) := by decide +kernel
theorem dX1_partsOf_4 : decode cX1_partsOf 4 = .ok (.iload_n 1, 1) := by decide +kernel
theorem dX1_partsOf_5 : decode cX1_partsOf 5 = .ok (.iaload, 1) := by decide +kernel
theorem dX1_partsOf_6 : decode cX1_partsOf 6 = .ok (.i2l, 1) := by decide +kernel
theorem dX1_partsOf_7 : decode cX1_partsOf 7 = .ok (.lstore_n 3, 1) := by decide +kernel
theorem dX1_partsOf_8 : decode cX1_partsOf 8 = .ok (.iconst 0, 1) := by decide +kernel
theorem dX1_partsOf_9 : decode cX1_partsOf 9 = .ok (.istore 5, 2) := by decide +kernel
theorem dX1_partsOf_11 : decode cX1_partsOf 11 = .ok (.iload 5, 2) := by decide +kernel
theorem dX1_partsOf_13 : decode cX1_partsOf 13 = .ok (.aload_n 0, 1) := by decide +kernel
theorem dX1_partsOf_14 : decode cX1_partsOf 14 = .ok (.getfield 46, 3) := by decide +kernel
theorem dX1_partsOf_17 : decode cX1_partsOf 17 = .ok (.if_icmp .ge 32, 3) := by decide +kernel
theorem dX1_partsOf_20 : decode cX1_partsOf 20 = .ok (.lload_n 3, 1) := by decide +kernel
theorem dX1_partsOf_21 : decode cX1_partsOf 21 = .ok (.aload_n 0, 1) := by decide +kernel
theorem dX1_partsOf_22 : decode cX1_partsOf 22 = .ok (.getfield 28, 3) := by decide +kernel
theorem dX1_partsOf_25 : decode cX1_partsOf 25 = .ok (.iload 5, 2) := by decide +kernel
theorem dX1_partsOf_27 : decode cX1_partsOf 27 = .ok (.aaload, 1) := by decide +kernel
theorem dX1_partsOf_28 : decode cX1_partsOf 28 = .ok (.getfield 105, 3) := by decide +kernel
theorem dX1_partsOf_31 : decode cX1_partsOf 31 = .ok (.iload_n 1, 1) := by decide +kernel
theorem dX1_partsOf_32 : decode cX1_partsOf 32 = .ok (.iconst 3, 1) := by decide +kernel
theorem dX1_partsOf_33 : decode cX1_partsOf 33 = .ok (.imul, 1) := by decide +kernel
theorem dX1_partsOf_34 : decode cX1_partsOf 34 = .ok (.aload_n 2, 1) := by decide +kernel
theorem dX1_partsOf_35 : decode cX1_partsOf 35 = .ok (.iload 5, 2) := by decide +kernel
theorem dX1_partsOf_37 : decode cX1_partsOf 37 = .ok (.iaload, 1) := by decide +kernel
theorem dX1_partsOf_38 : decode cX1_partsOf 38 = .ok (.iadd, 1) := by decide +kernel
theorem dX1_partsOf_39 : decode cX1_partsOf 39 = .ok (.iaload, 1) := by decide +kernel
theorem dX1_partsOf_40 : decode cX1_partsOf 40 = .ok (.i2l, 1) := by decide +kernel
theorem dX1_partsOf_41 : decode cX1_partsOf 41 = .ok (.lmul, 1) := by decide +kernel
theorem dX1_partsOf_42 : decode cX1_partsOf 42 = .ok (.lstore_n 3, 1) := by decide +kernel
theorem dX1_partsOf_43 : decode cX1_partsOf 43 = .ok (.iinc 5 1, 3) := by decide +kernel
theorem dX1_partsOf_46 : decode cX1_partsOf 46 = .ok (.goto (-35), 3) := by decide +kernel
theorem dX1_partsOf_49 : decode cX1_partsOf 49 = .ok (.lload_n 3, 1) := by decide +kernel
theorem dX1_partsOf_50 : decode cX1_partsOf 50 = .ok (.lreturn, 1) := by decide +kernel
theorem dX1_shyVote_0 : decode cX1_shyVote 0 = .ok (.aload_n 0, 1) := by decide +kernel
theorem dX1_shyVote_1 : decode cX1_shyVote 1 = .ok (.aload_n 1, 1) := by decide +kernel
theorem dX1_shyVote_2 : decode cX1_shyVote 2 = .ok (.iload_n 2, 1) := by decide +kernel
theorem dX1_shyVote_3 : decode cX1_shyVote 3 = .ok (.invokevirtual 102, 3) := by decide +kernel
theorem dX1_shyVote_6 : decode cX1_shyVote 6 = .ok (.istore_n 3, 1) := by decide +kernel
theorem dX1_shyVote_7 : decode cX1_shyVote 7 = .ok (.aload_n 0, 1) := by decide +kernel
theorem dX1_shyVote_8 : decode cX1_shyVote 8 = .ok (.getfield 39, 3) := by decide +kernel
theorem dX1_shyVote_11 : decode cX1_shyVote 11 = .ok (.iconst 0, 1) := by decide +kernel
theorem dX1_shyVote_12 : decode cX1_shyVote 12 = .ok (.laload, 1) := by decide +kernel
theorem dX1_shyVote_13 : decode cX1_shyVote 13 = .ok (.aload_n 0, 1) := by decide +kernel
theorem dX1_shyVote_14 : decode cX1_shyVote 14 = .ok (.getfield 39, 3) := by decide +kernel
theorem dX1_shyVote_17 : decode cX1_shyVote 17 = .ok (.iconst 1, 1) := by decide +kernel
theorem dX1_shyVote_18 : decode cX1_shyVote 18 = .ok (.laload, 1) := by decide +kernel
theorem dX1_shyVote_19 : decode cX1_shyVote 19 = .ok (.ladd, 1) := by decide +kernel
theorem dX1_shyVote_20 : decode cX1_shyVote 20 = .ok (.aload_n 0, 1) := by decide +kernel
theorem dX1_shyVote_21 : decode cX1_shyVote 21 = .ok (.getfield 39, 3) := by decide +kernel
theorem dX1_shyVote_24 : decode cX1_shyVote 24 = .ok (.iconst 2, 1) := by decide +kernel
theorem dX1_shyVote_25 : decode cX1_shyVote 25 = .ok (.laload, 1) := by decide +kernel
theorem dX1_shyVote_26 : decode cX1_shyVote 26 = .ok (.ladd, 1) := by decide +kernel
theorem dX1_shyVote_27 : decode cX1_shyVote 27 = .ok (.lstore 4, 2) := by decide +kernel
theorem dX1_shyVote_29 : decode cX1_shyVote 29 = .ok (.aload_n 0, 1) := by decide +kernel
theorem dX1_shyVote_30 : decode cX1_shyVote 30 = .ok (.getfield 39, 3) := by decide +kernel
theorem dX1_shyVote_33 : decode cX1_shyVote 33 = .ok (.iload_n 3, 1) := by decide +kernel
theorem dX1_shyVote_34 : decode cX1_shyVote 34 = .ok (.laload, 1) := by decide +kernel
theorem dX1_shyVote_35 : decode cX1_shyVote 35 = .ok (.ldc2_w 115, 3) := by decide +kernel
theorem dX1_shyVote_38 : decode cX1_shyVote 38 = .ok (.lmul, 1) := by decide +kernel
theorem dX1_shyVote_39 : decode cX1_shyVote 39 = .ok (.aload_n 1, 1) := by decide +kernel
theorem dX1_shyVote_40 : decode cX1_shyVote 40 = .ok (.getfield 117, 3) := by decide +kernel
theorem dX1_shyVote_43 : decode cX1_shyVote 43 = .ok (.i2l, 1) := by decide +kernel
theorem dX1_shyVote_44 : decode cX1_shyVote 44 = .ok (.lload 4, 2) := by decide +kernel
theorem dX1_shyVote_46 : decode cX1_shyVote 46 = .ok (.lmul, 1) := by decide +kernel
theorem dX1_shyVote_47 : decode cX1_shyVote 47 = .ok (.lcmp, 1) := by decide +kernel
theorem dX1_shyVote_48 : decode cX1_shyVote 48 = .ok (.ifCond .lt 7, 3) := by decide +kernel
theorem dX1_shyVote_51 : decode cX1_shyVote 51 = .ok (.iload_n 3, 1) := by decide +kernel
theorem dX1_shyVote_52 : decode cX1_shyVote 52 = .ok (.goto 5, 3) := by decide +kernel
theorem dX1_shyVote_55 : decode cX1_shyVote 55 = .ok (.bipush 9, 2) := by decide +kernel
theorem dX1_shyVote_57 : decode cX1_shyVote 57 = .ok (.ireturn, 1) := by decide +kernel
theorem dX1_signsInAll_0 : decode cX1_signsInAll 0 = .ok (.iconst 0, 1) := by decide +kernel
theorem dX1_signsInAll_1 : decode cX1_signsInAll 1 = .ok (.istore_n 1, 1) := by decide +kernel
theorem dX1_signsInAll_2 : decode cX1_signsInAll 2 = .ok (.iconst 0, 1) := by decide +kernel
theorem dX1_signsInAll_3 : decode cX1_signsInAll 3 = .ok (.istore_n 2, 1) := by decide +kernel
theorem dX1_signsInAll_4 : decode cX1_signsInAll 4 = .ok (.iload_n 2, 1) := by decide +kernel
theorem dX1_signsInAll_5 : decode cX1_signsInAll 5 = .ok (.aload_n 0, 1) := by decide +kernel
theorem dX1_signsInAll_6 : decode cX1_signsInAll 6 = .ok (.getfield 46, 3) := by decide +kernel
theorem dX1_signsInAll_9 : decode cX1_signsInAll 9 = .ok (.if_icmp .ge 21, 3) := by decide +kernel
theorem dX1_signsInAll_12 : decode cX1_signsInAll 12 = .ok (.iload_n 1, 1) := by decide +kernel
theorem dX1_signsInAll_13 : decode cX1_signsInAll 13 = .ok (.aload_n 0, 1) := by decide +kernel
theorem dX1_signsInAll_14 : decode cX1_signsInAll 14 = .ok (.getfield 28, 3) := by decide +kernel
theorem dX1_signsInAll_17 : decode cX1_signsInAll 17 = .ok (.iload_n 2, 1) := by decide +kernel
theorem dX1_signsInAll_18 : decode cX1_signsInAll 18 = .ok (.aaload, 1) := by decide +kernel
theorem dX1_signsInAll_19 : decode cX1_signsInAll 19 = .ok (.getfield 59, 3) := by decide +kernel
theorem dX1_signsInAll_22 : decode cX1_signsInAll 22 = .ok (.iadd, 1) := by decide +kernel
theorem dX1_signsInAll_23 : decode cX1_signsInAll 23 = .ok (.istore_n 1, 1) := by decide +kernel
theorem dX1_signsInAll_24 : decode cX1_signsInAll 24 = .ok (.iinc 2 1, 3) := by decide +kernel
theorem dX1_signsInAll_27 : decode cX1_signsInAll 27 = .ok (.goto (-23), 3) := by decide +kernel
theorem dX1_signsInAll_30 : decode cX1_signsInAll 30 = .ok (.iload_n 1, 1) := by decide +kernel
theorem dX1_signsInAll_31 : decode cX1_signsInAll 31 = .ok (.ireturn, 1) := by decide +kernel
theorem dX1_voteOf_0 : decode cX1_voteOf 0 = .ok (.aload_n 1, 1) := by decide +kernel
theorem dX1_voteOf_1 : decode cX1_voteOf 1 = .ok (.getfield 89, 3) := by decide +kernel
theorem dX1_voteOf_4 : decode cX1_voteOf 4 = .ok (.tableswitch 52 1 3 #[28, 38, 45], 28) := by decide +kernel
theorem dX1_voteOf_32 : decode cX1_voteOf 32 = .ok (.aload_n 1, 1) := by decide +kernel
theorem dX1_voteOf_33 : decode cX1_voteOf 33 = .ok (.aload_n 0, 1) := by decide +kernel
theorem dX1_voteOf_34 : decode cX1_voteOf 34 = .ok (.getfield 43, 3) := by decide +kernel
theorem dX1_voteOf_37 : decode cX1_voteOf 37 = .ok (.iload_n 2, 1) := by decide +kernel
theorem dX1_voteOf_38 : decode cX1_voteOf 38 = .ok (.invokevirtual 92, 3) := by decide +kernel
theorem dX1_voteOf_41 : decode cX1_voteOf 41 = .ok (.ireturn, 1) := by decide +kernel
theorem dX1_voteOf_42 : decode cX1_voteOf 42 = .ok (.aload_n 0, 1) := by decide +kernel
theorem dX1_voteOf_43 : decode cX1_voteOf 43 = .ok (.aload_n 1, 1) := by decide +kernel
theorem dX1_voteOf_44 : decode cX1_voteOf 44 = .ok (.iload_n 2, 1) := by decide +kernel
theorem dX1_voteOf_45 : decode cX1_voteOf 45 = .ok (.invokevirtual 96, 3) := by decide +kernel
theorem dX1_voteOf_48 : decode cX1_voteOf 48 = .ok (.ireturn, 1) := by decide +kernel
theorem dX1_voteOf_49 : decode cX1_voteOf 49 = .ok (.aload_n 1, 1) := by decide +kernel
theorem dX1_voteOf_50 : decode cX1_voteOf 50 = .ok (.getfield 99, 3) := by decide +kernel
theorem dX1_voteOf_53 : decode cX1_voteOf 53 = .ok (.iload_n 2, 1) := by decide +kernel
theorem dX1_voteOf_54 : decode cX1_voteOf 54 = .ok (.iaload, 1) := by decide +kernel
theorem dX1_voteOf_55 : decode cX1_voteOf 55 = .ok (.ireturn, 1) := by decide +kernel
theorem dX1_voteOf_56 : decode cX1_voteOf 56 = .ok (.aload_n 0, 1) := by decide +kernel
theorem dX1_voteOf_57 : decode cX1_voteOf 57 = .ok (.aload_n 1, 1) := by decide +kernel
theorem dX1_voteOf_58 : decode cX1_voteOf 58 = .ok (.iload_n 2, 1) := by decide +kernel
theorem dX1_voteOf_59 : decode cX1_voteOf 59 = .ok (.invokevirtual 102, 3) := by decide +kernel
theorem dX1_voteOf_62 : decode cX1_voteOf 62 = .ok (.ireturn, 1) := by decide +kernel
theorem dX2_fail_0 : decode cX2_fail 0 = .ok (.aload_n 0, 1) := by decide +kernel
theorem dX2_fail_1 : decode cX2_fail 1 = .ok (.iload_n 1, 1) := by decide +kernel
theorem dX2_fail_2 : decode cX2_fail 2 = .ok (.putfield 39, 3) := by decide +kernel
theorem dX2_fail_5 : decode cX2_fail 5 = .ok (.iconst 0, 1) := by decide +kernel
theorem dX2_fail_6 : decode cX2_fail 6 = .ok (.ireturn, 1) := by decide +kernel
theorem dX2_init_0 : decode cX2_init 0 = .ok (.aload_n 0, 1) := by decide +kernel
theorem dX2_init_1 : decode cX2_init 1 = .ok (.invokespecial 3, 3) := by decide +kernel
theorem dX2_init_4 : decode cX2_init 4 = .ok (.aload_n 0, 1) := by decide +kernel
theorem dX2_init_5 : decode cX2_init 5 = .ok (.aload_n 1, 1) := by decide +kernel
theorem dX2_init_6 : decode cX2_init 6 = .ok (.putfield 9, 3) := by decide +kernel
theorem dX2_init_9 : decode cX2_init 9 = .ok (.aload_n 0, 1) := by decide +kernel
theorem dX2_init_10 : decode cX2_init 10 = .ok (.aload_n 2, 1) := by decide +kernel
theorem dX2_init_11 : decode cX2_init 11 = .ok (.putfield 15, 3) := by decide +kernel
theorem dX2_init_14 : decode cX2_init 14 = .ok (.aload_n 0, 1) := by decide +kernel
theorem dX2_init_15 : decode cX2_init 15 = .ok (.iconst 3, 1) := by decide +kernel
theorem dX2_init_16 : decode cX2_init 16 = .ok (.newarray .long, 2) := by decide +kernel
theorem dX2_init_18 : decode cX2_init 18 = .ok (.putfield 19, 3) := by decide +kernel
theorem dX2_init_21 : decode cX2_init 21 = .ok (.aload_n 0, 1) := by decide +kernel
theorem dX2_init_22 : decode cX2_init 22 = .ok (.bipush 7, 2) := by decide +kernel
theorem dX2_init_24 : decode cX2_init 24 = .ok (.newarray .long, 2) := by decide +kernel
theorem dX2_init_26 : decode cX2_init 26 = .ok (.putfield 23, 3) := by decide +kernel
theorem dX2_init_29 : decode cX2_init 29 = .ok (.return_, 1) := by decide +kernel
theorem dX2_isBlank_0 : decode cX2_isBlank 0 = .ok (.iload_n 0, 1) := by decide +kernel
theorem dX2_isBlank_1 : decode cX2_isBlank 1 = .ok (.bipush 32, 2) := by decide +kernel
theorem dX2_isBlank_3 : decode cX2_isBlank 3 = .ok (.if_icmp .eq 9, 3) := by decide +kernel
theorem dX2_isBlank_6 : decode cX2_isBlank 6 = .ok (.iload_n 0, 1) := by decide +kernel
theorem dX2_isBlank_7 : decode cX2_isBlank 7 = .ok (.bipush 10, 2) := by decide +kernel
theorem dX2_isBlank_9 : decode cX2_isBlank 9 = .ok (.if_icmp .ne 7, 3) := by decide +kernel
theorem dX2_isBlank_12 : decode cX2_isBlank 12 = .ok (.iconst 1, 1) := by decide +kernel
theorem dX2_isBlank_13 : decode cX2_isBlank 13 = .ok (.goto 4, 3) := by decide +kernel
theorem dX2_isBlank_16 : decode cX2_isBlank 16 = .ok (.iconst 0, 1) := by decide +kernel
theorem dX2_isBlank_17 : decode cX2_isBlank 17 = .ok (.ireturn, 1) := by decide +kernel
theorem dX2_isName_0 : decode cX2_isName 0 = .ok (.aload_n 0, 1) := by decide +kernel
theorem dX2_isName_1 : decode cX2_isName 1 = .ok (.getfield 45, 3) := by decide +kernel
theorem dX2_isName_4 : decode cX2_isName 4 = .ok (.ifCond .ne 11, 3) := by decide +kernel
theorem dX2_isName_7 : decode cX2_isName 7 = .ok (.aload_n 0, 1) := by decide +kernel
theorem dX2_isName_8 : decode cX2_isName 8 = .ok (.getfield 74, 3) := by decide +kernel
theorem dX2_isName_11 : decode cX2_isName 11 = .ok (.iconst (-1), 1) := by decide +kernel
theorem dX2_isName_12 : decode cX2_isName 12 = .ok (.if_icmp .eq 9, 3) := by decide +kernel
theorem dX2_isName_15 : decode cX2_isName 15 = .ok (.aload_n 0, 1) := by decide +kernel
theorem dX2_isName_16 : decode cX2_isName 16 = .ok (.iconst 1, 1) := by decide +kernel
theorem dX2_isName_17 : decode cX2_isName 17 = .ok (.invokevirtual 60, 3) := by decide +kernel
theorem dX2_isName_20 : decode cX2_isName 20 = .ok (.ireturn, 1) := by decide +kernel
theorem dX2_isName_21 : decode cX2_isName 21 = .ok (.iconst 1, 1) := by decide +kernel
theorem dX2_isName_22 : decode cX2_isName 22 = .ok (.istore_n 2, 1) := by decide +kernel
theorem dX2_isName_23 : decode cX2_isName 23 = .ok (.aload_n 0, 1) := by decide +kernel
theorem dX2_isName_24 : decode cX2_isName 24 = .ok (.iconst (-1), 1) := by decide +kernel
theorem dX2_isName_25 : decode cX2_isName 25 = .ok (.putfield 171, 3) := by decide +kernel
theorem dX2_isName_28 : decode cX2_isName 28 = .ok (.iconst 0, 1) := by decide +kernel
theorem dX2_isName_29 : decode cX2_isName 29 = .ok (.istore_n 3, 1) := by decide +kernel
theorem dX2_isName_30 : decode cX2_isName 30 = .ok (.iload_n 3, 1) := by decide +kernel
theorem dX2_isName_31 : decode cX2_isName 31 = .ok (.aload_n 0, 1) := by decide +kernel
theorem dX2_isName_32 : decode cX2_isName 32 = .ok (.getfield 15, 3) := by decide +kernel
theorem dX2_isName_35 : decode cX2_isName 35 = .ok (.getfield 120, 3) := by decide +kernel
theorem dX2_isName_38 : decode cX2_isName 38 = .ok (.if_icmp .ge 30, 3) := by decide +kernel
theorem dX2_isName_41 : decode cX2_isName 41 = .ok (.aload_n 0, 1) := by decide +kernel
theorem dX2_isName_42 : decode cX2_isName 42 = .ok (.getfield 19, 3) := by decide +kernel
theorem dX2_isName_45 : decode cX2_isName 45 = .ok (.iload_n 3, 1) := by decide +kernel
theorem dX2_isName_46 : decode cX2_isName 46 = .ok (.laload, 1) := by decide +kernel
theorem dX2_isName_47 : decode cX2_isName 47 = .ok (.aload_n 0, 1) := by decide +kernel
theorem dX2_isName_48 : decode cX2_isName 48 = .ok (.getfield 86, 3) := by decide +kernel
theorem dX2_isName_51 : decode cX2_isName 51 = .ok (.lcmp, 1) := by decide +kernel
theorem dX2_isName_52 : decode cX2_isName 52 = .ok (.ifCond .ne 10, 3) := by decide +kernel
theorem dX2_isName_55 : decode cX2_isName 55 = .ok (.aload_n 0, 1) := by decide +kernel
theorem dX2_isName_56 : decode cX2_isName 56 = .ok (.iload_n 3, 1) := by decide +kernel
theorem dX2_isName_57 : decode cX2_isName 57 = .ok (.putfield 171, 3) := by decide +kernel
theorem dX2_isName_60 : decode cX2_isName 60 = .ok (.iconst 2, 1) := by decide +kernel
theorem dX2_isName_61 : decode cX2_isName 61 = .ok (.istore_n 2, 1) := by decide +kernel
theorem dX2_isName_62 : decode cX2_isName 62 = .ok (.iinc 3 1, 3) := by decide +kernel
theorem dX2_isName_65 : decode cX2_isName 65 = .ok (.goto (-35), 3) := by decide +kernel
theorem dX2_isName_68 : decode cX2_isName 68 = .ok (.aload_n 0, 1) := by decide +kernel
theorem dX2_isName_69 : decode cX2_isName 69 = .ok (.iconst (-1), 1) := by decide +kernel
theorem dX2_isName_70 : decode cX2_isName 70 = .ok (.putfield 166, 3) := by decide +kernel
theorem dX2_isName_73 : decode cX2_isName 73 = .ok (.iconst 0, 1) := by decide +kernel
theorem dX2_isName_74 : decode cX2_isName 74 = .ok (.istore_n 3, 1) := by decide +kernel
theorem dX2_isName_75 : decode cX2_isName 75 = .ok (.iload_n 3, 1) := by decide +kernel
theorem dX2_isName_76 : decode cX2_isName 76 = .ok (.aload_n 0, 1) := by decide +kernel
theorem dX2_isName_77 : decode cX2_isName 77 = .ok (.getfield 15, 3) := by decide +kernel
theorem dX2_isName_80 : decode cX2_isName 80 = .ok (.getfield 136, 3) := by decide +kernel
theorem dX2_isName_83 : decode cX2_isName 83 = .ok (.if_icmp .ge 30, 3) := by decide +kernel
theorem dX2_isName_86 : decode cX2_isName 86 = .ok (.aload_n 0, 1) := by decide +kernel
theorem dX2_isName_87 : decode cX2_isName 87 = .ok (.getfield 23, 3) := by decide +kernel
theorem dX2_isName_90 : decode cX2_isName 90 = .ok (.iload_n 3, 1) := by decide +kernel
theorem dX2_isName_91 : decode cX2_isName 91 = .ok (.laload, 1) := by decide +kernel
theorem dX2_isName_92 : decode cX2_isName 92 = .ok (.aload_n 0, 1) := by decide +kernel
theorem dX2_isName_93 : decode cX2_isName 93 = .ok (.getfield 86, 3) := by decide +kernel
theorem dX2_isName_96 : decode cX2_isName 96 = .ok (.lcmp, 1) := by decide +kernel
theorem dX2_isName_97 : decode cX2_isName 97 = .ok (.ifCond .ne 10, 3) := by decide +kernel
theorem dX2_isName_100 : decode cX2_isName 100 = .ok (.aload_n 0, 1) := by decide +kernel
theorem dX2_isName_101 : decode cX2_isName 101 = .ok (.iload_n 3, 1) := by decide +kernel
theorem dX2_isName_102 : decode cX2_isName 102 = .ok (.putfield 166, 3) := by decide +kernel
theorem dX2_isName_105 : decode cX2_isName 105 = .ok (.iconst 4, 1) := by decide +kernel
theorem dX2_isName_106 : decode cX2_isName 106 = .ok (.istore_n 2, 1) := by decide +kernel
theorem dX2_isName_107 : decode cX2_isName 107 = .ok (.iinc 3 1, 3) := by decide +kernel
theorem dX2_isName_110 : decode cX2_isName 110 = .ok (.goto (-35), 3) := by decide +kernel
theorem dX2_isName_113 : decode cX2_isName 113 = .ok (.iload_n 1, 1) := by decide +kernel
theorem dX2_isName_114 : decode cX2_isName 114 = .ok (.iload_n 2, 1) := by decide +kernel
theorem dX2_isName_115 : decode cX2_isName 115 = .ok (.iand, 1) := by decide +kernel
theorem dX2_isName_116 : decode cX2_isName 116 = .ok (.ifCond .ne 11, 3) := by decide +kernel
theorem dX2_isName_119 : decode cX2_isName 119 = .ok (.aload_n 0, 1) := by decide +kernel
theorem dX2_isName_120 : decode cX2_isName 120 = .ok (.iconst 3, 1) := by decide +kernel
theorem dX2_isName_121 : decode cX2_isName 121 = .ok (.invokevirtual 60, 3) := by decide +kernel
theorem dX2_isName_124 : decode cX2_isName 124 = .ok (.ifCond .eq 7, 3) := by decide +kernel
theorem dX2_isName_127 : decode cX2_isName 127 = .ok (.iconst 1, 1) := by decide +kernel
theorem dX2_isName_128 : decode cX2_isName 128 = .ok (.goto 4, 3) := by decide +kernel
theorem dX2_isName_131 : decode cX2_isName 131 = .ok (.iconst 0, 1) := by decide +kernel
theorem dX2_isName_132 : decode cX2_isName 132 = .ok (.ireturn, 1) := by decide +kernel
theorem dX2_next_0 : decode cX2_next 0 = .ok (.aload_n 0, 1) := by decide +kernel
theorem dX2_next_1 : decode cX2_next 1 = .ok (.getfield 35, 3) := by decide +kernel
theorem dX2_next_4 : decode cX2_next 4 = .ok (.istore_n 1, 1) := by decide +kernel
theorem dX2_next_5 : decode cX2_next 5 = .ok (.iload_n 1, 1) := by decide +kernel
theorem dX2_next_6 : decode cX2_next 6 = .ok (.aload_n 0, 1) := by decide +kernel
theorem dX2_next_7 : decode cX2_next 7 = .ok (.getfield 9, 3) := by decide +kernel
theorem dX2_next_10 : decode cX2_next 10 = .ok (.getfield 55, 3) := by decide +kernel
theorem dX2_next_13 : decode cX2_next 13 = .ok (.if_icmp .ge 24, 3) := by decide +kernel
theorem dX2_next_16 : decode cX2_next 16 = .ok (.aload_n 0, 1) := by decide +kernel
theorem dX2_next_17 : decode cX2_next 17 = .ok (.getfield 9, 3) := by decide +kernel
theorem dX2_next_20 : decode cX2_next 20 = .ok (.getfield 67, 3) := by decide +kernel
theorem dX2_next_23 : decode cX2_next 23 = .ok (.iload_n 1, 1) := by decide +kernel
theorem dX2_next_24 : decode cX2_next 24 = .ok (.iaload, 1) := by decide +kernel
theorem dX2_next_25 : decode cX2_next 25 = .ok (.invokestatic 71, 3) := by decide +kernel
theorem dX2_next_28 : decode cX2_next 28 = .ok (.ifCond .eq 9, 3) := by decide +kernel
theorem dX2_next_31 : decode cX2_next 31 = .ok (.iinc 1 1, 3) := by decide +kernel
theorem dX2_next_34 : decode cX2_next 34 = .ok (.goto (-29), 3) := by decide +kernel
theorem dX2_next_37 : decode cX2_next 37 = .ok (.aload_n 0, 1) := by decide +kernel
theorem dX2_next_38 : decode cX2_next 38 = .ok (.iconst (-1), 1) := by decide +kernel
theorem dX2_next_39 : decode cX2_next 39 = .ok (.putfield 74, 3) := by decide +kernel
theorem dX2_next_42 : decode cX2_next 42 = .ok (.iload_n 1, 1) := by decide +kernel
theorem dX2_next_43 : decode cX2_next 43 = .ok (.aload_n 0, 1) := by decide +kernel
theorem dX2_next_44 : decode cX2_next 44 = .ok (.getfield 9, 3) := by decide +kernel
theorem dX2_next_47 : decode cX2_next 47 = .ok (.getfield 55, 3) := by decide +kernel
theorem dX2_next_50 : decode cX2_next 50 = .ok (.if_icmp .ge 10, 3) := by decide +kernel
theorem dX2_next_53 : decode cX2_next 53 = .ok (.iload_n 1, 1) := by decide +kernel
theorem dX2_next_54 : decode cX2_next 54 = .ok (.sipush 700, 3) := by decide +kernel
theorem dX2_next_57 : decode cX2_next 57 = .ok (.if_icmp .lt 33, 3) := by decide +kernel
theorem dX2_next_60 : decode cX2_next 60 = .ok (.aload_n 0, 1) := by decide +kernel
theorem dX2_next_61 : decode cX2_next 61 = .ok (.iconst 3, 1) := by decide +kernel
theorem dX2_next_62 : decode cX2_next 62 = .ok (.putfield 45, 3) := by decide +kernel
theorem dX2_next_65 : decode cX2_next 65 = .ok (.aload_n 0, 1) := by decide +kernel
theorem dX2_next_66 : decode cX2_next 66 = .ok (.aload_n 0, 1) := by decide +kernel
theorem dX2_next_67 : decode cX2_next 67 = .ok (.getfield 9, 3) := by decide +kernel
theorem dX2_next_70 : decode cX2_next 70 = .ok (.getfield 55, 3) := by decide +kernel
theorem dX2_next_73 : decode cX2_next 73 = .ok (.sipush 700, 3) := by decide +kernel
theorem dX2_next_76 : decode cX2_next 76 = .ok (.invokestatic 77, 3) := by decide +kernel
theorem dX2_next_79 : decode cX2_next 79 = .ok (.putfield 64, 3) := by decide +kernel
theorem dX2_next_82 : decode cX2_next 82 = .ok (.aload_n 0, 1) := by decide +kernel
theorem dX2_next_83 : decode cX2_next 83 = .ok (.iload_n 1, 1) := by decide +kernel
theorem dX2_next_84 : decode cX2_next 84 = .ok (.putfield 35, 3) := by decide +kernel
theorem dX2_next_87 : decode cX2_next 87 = .ok (.goto 46, 3) := by decide +kernel
theorem dX2_next_90 : decode cX2_next 90 = .ok (.aload_n 0, 1) := by decide +kernel
theorem dX2_next_91 : decode cX2_next 91 = .ok (.getfield 9, 3) := by decide +kernel
theorem dX2_next_94 : decode cX2_next 94 = .ok (.getfield 67, 3) := by decide +kernel
theorem dX2_next_97 : decode cX2_next 97 = .ok (.iload_n 1, 1) := by decide +kernel
theorem dX2_next_98 : decode cX2_next 98 = .ok (.iaload, 1) := by decide +kernel
theorem dX2_next_99 : decode cX2_next 99 = .ok (.bipush 59, 2) := by decide +kernel
theorem dX2_next_101 : decode cX2_next 101 = .ok (.if_icmp .ne 23, 3) := by decide +kernel
theorem dX2_next_104 : decode cX2_next 104 = .ok (.aload_n 0, 1) := by decide +kernel
theorem dX2_next_105 : decode cX2_next 105 = .ok (.iconst 2, 1) := by decide +kernel
theorem dX2_next_106 : decode cX2_next 106 = .ok (.putfield 45, 3) := by decide +kernel
theorem dX2_next_109 : decode cX2_next 109 = .ok (.aload_n 0, 1) := by decide +kernel
theorem dX2_next_110 : decode cX2_next 110 = .ok (.iload_n 1, 1) := by decide +kernel
theorem dX2_next_111 : decode cX2_next 111 = .ok (.putfield 64, 3) := by decide +kernel
theorem dX2_next_114 : decode cX2_next 114 = .ok (.aload_n 0, 1) := by decide +kernel
theorem dX2_next_115 : decode cX2_next 115 = .ok (.iload_n 1, 1) := by decide +kernel
theorem dX2_next_116 : decode cX2_next 116 = .ok (.iconst 1, 1) := by decide +kernel
theorem dX2_next_117 : decode cX2_next 117 = .ok (.iadd, 1) := by decide +kernel
theorem dX2_next_118 : decode cX2_next 118 = .ok (.putfield 35, 3) := by decide +kernel
theorem dX2_next_121 : decode cX2_next 121 = .ok (.goto 12, 3) := by decide +kernel
theorem dX2_next_124 : decode cX2_next 124 = .ok (.aload_n 0, 1) := by decide +kernel
theorem dX2_next_125 : decode cX2_next 125 = .ok (.iload_n 1, 1) := by decide +kernel
theorem dX2_next_126 : decode cX2_next 126 = .ok (.putfield 64, 3) := by decide +kernel
theorem dX2_next_129 : decode cX2_next 129 = .ok (.aload_n 0, 1) := by decide +kernel
theorem dX2_next_130 : decode cX2_next 130 = .ok (.invokevirtual 83, 3) := by decide +kernel
theorem dX2_next_133 : decode cX2_next 133 = .ok (.return_, 1) := by decide +kernel
theorem dX2_nextRun_0 : decode cX2_nextRun 0 = .ok (.iconst 0, 1) := by decide +kernel
theorem dX2_nextRun_1 : decode cX2_nextRun 1 = .ok (.istore_n 1, 1) := by decide +kernel
theorem dX2_nextRun_2 : decode cX2_nextRun 2 = .ok (.iconst 0, 1) := by decide +kernel
theorem dX2_nextRun_3 : decode cX2_nextRun 3 = .ok (.istore_n 2, 1) := by decide +kernel
theorem dX2_nextRun_4 : decode cX2_nextRun 4 = .ok (.aload_n 0, 1) := by decide +kernel
theorem dX2_nextRun_5 : decode cX2_nextRun 5 = .ok (.lconst 0, 1) := by decide +kernel
theorem dX2_nextRun_6 : decode cX2_nextRun 6 = .ok (.putfield 86, 3) := by decide +kernel
theorem dX2_nextRun_9 : decode cX2_nextRun 9 = .ok (.aload_n 0, 1) := by decide +kernel
theorem dX2_nextRun_10 : decode cX2_nextRun 10 = .ok (.iconst 0, 1) := by decide +kernel
theorem dX2_nextRun_11 : decode cX2_nextRun 11 = .ok (.putfield 90, 3) := by decide +kernel
theorem dX2_nextRun_14 : decode cX2_nextRun 14 = .ok (.aload_n 0, 1) := by decide +kernel
theorem dX2_nextRun_15 : decode cX2_nextRun 15 = .ok (.aload_n 0, 1) := by decide +kernel
theorem dX2_nextRun_16 : decode cX2_nextRun 16 = .ok (.getfield 64, 3) := by decide +kernel
theorem dX2_nextRun_19 : decode cX2_nextRun 19 = .ok (.putfield 35, 3) := by decide +kernel
theorem dX2_nextRun_22 : decode cX2_nextRun 22 = .ok (.aload_n 0, 1) := by decide +kernel
theorem dX2_nextRun_23 : decode cX2_nextRun 23 = .ok (.getfield 35, 3) := by decide +kernel
theorem dX2_nextRun_26 : decode cX2_nextRun 26 = .ok (.aload_n 0, 1) := by decide +kernel
theorem dX2_nextRun_27 : decode cX2_nextRun 27 = .ok (.getfield 9, 3) := by decide +kernel
theorem dX2_nextRun_30 : decode cX2_nextRun 30 = .ok (.getfield 55, 3) := by decide +kernel
theorem dX2_nextRun_33 : decode cX2_nextRun 33 = .ok (.if_icmp .ge 92, 3) := by decide +kernel
theorem dX2_nextRun_36 : decode cX2_nextRun 36 = .ok (.aload_n 0, 1) := by decide +kernel
theorem dX2_nextRun_37 : decode cX2_nextRun 37 = .ok (.getfield 9, 3) := by decide +kernel
theorem dX2_nextRun_40 : decode cX2_nextRun 40 = .ok (.getfield 67, 3) := by decide +kernel
theorem dX2_nextRun_43 : decode cX2_nextRun 43 = .ok (.aload_n 0, 1) := by decide +kernel
theorem dX2_nextRun_44 : decode cX2_nextRun 44 = .ok (.getfield 35, 3) := by decide +kernel
theorem dX2_nextRun_47 : decode cX2_nextRun 47 = .ok (.iaload, 1) := by decide +kernel
theorem dX2_nextRun_48 : decode cX2_nextRun 48 = .ok (.istore_n 3, 1) := by decide +kernel
theorem dX2_nextRun_49 : decode cX2_nextRun 49 = .ok (.iload_n 3, 1) := by decide +kernel
theorem dX2_nextRun_50 : decode cX2_nextRun 50 = .ok (.bipush 48, 2) := by decide +kernel
theorem dX2_nextRun_52 : decode cX2_nextRun 52 = .ok (.if_icmp .lt 31, 3) := by decide +kernel
theorem dX2_nextRun_55 : decode cX2_nextRun 55 = .ok (.iload_n 3, 1) := by decide +kernel
theorem dX2_nextRun_56 : decode cX2_nextRun 56 = .ok (.bipush 57, 2) := by decide +kernel
theorem dX2_nextRun_58 : decode cX2_nextRun 58 = .ok (.if_icmp .gt 25, 3) := by decide +kernel
theorem dX2_nextRun_61 : decode cX2_nextRun 61 = .ok (.iinc 2 1, 3) := by decide +kernel
theorem dX2_nextRun_64 : decode cX2_nextRun 64 = .ok (.aload_n 0, 1) := by decide +kernel
theorem dX2_nextRun_65 : decode cX2_nextRun 65 = .ok (.aload_n 0, 1) := by decide +kernel
theorem dX2_nextRun_66 : decode cX2_nextRun 66 = .ok (.getfield 90, 3) := by decide +kernel
theorem dX2_nextRun_69 : decode cX2_nextRun 69 = .ok (.bipush 10, 2) := by decide +kernel
theorem dX2_nextRun_71 : decode cX2_nextRun 71 = .ok (.imul, 1) := by decide +kernel
theorem dX2_nextRun_72 : decode cX2_nextRun 72 = .ok (.iload_n 3, 1) := by decide +kernel
theorem dX2_nextRun_73 : decode cX2_nextRun 73 = .ok (.iadd, 1) := by decide +kernel
theorem dX2_nextRun_74 : decode cX2_nextRun 74 = .ok (.bipush 48, 2) := by decide +kernel
theorem dX2_nextRun_76 : decode cX2_nextRun 76 = .ok (.isub, 1) := by decide +kernel
theorem dX2_nextRun_77 : decode cX2_nextRun 77 = .ok (.putfield 90, 3) := by decide +kernel
theorem dX2_nextRun_80 : decode cX2_nextRun 80 = .ok (.goto 32, 3) := by decide +kernel
theorem dX2_nextRun_83 : decode cX2_nextRun 83 = .ok (.iload_n 3, 1) := by decide +kernel
theorem dX2_nextRun_84 : decode cX2_nextRun 84 = .ok (.bipush 97, 2) := by decide +kernel
theorem dX2_nextRun_86 : decode cX2_nextRun 86 = .ok (.if_icmp .lt 39, 3) := by decide +kernel
theorem dX2_nextRun_89 : decode cX2_nextRun 89 = .ok (.iload_n 3, 1) := by decide +kernel
theorem dX2_nextRun_90 : decode cX2_nextRun 90 = .ok (.bipush 122, 2) := by decide +kernel
theorem dX2_nextRun_92 : decode cX2_nextRun 92 = .ok (.if_icmp .gt 33, 3) := by decide +kernel
theorem dX2_nextRun_95 : decode cX2_nextRun 95 = .ok (.iinc 1 1, 3) := by decide +kernel
theorem dX2_nextRun_98 : decode cX2_nextRun 98 = .ok (.aload_n 0, 1) := by decide +kernel
theorem dX2_nextRun_99 : decode cX2_nextRun 99 = .ok (.aload_n 0, 1) := by decide +kernel
theorem dX2_nextRun_100 : decode cX2_nextRun 100 = .ok (.getfield 86, 3) := by decide +kernel
theorem dX2_nextRun_103 : decode cX2_nextRun 103 = .ok (.bipush 8, 2) := by decide +kernel
theorem dX2_nextRun_105 : decode cX2_nextRun 105 = .ok (.lshl, 1) := by decide +kernel
theorem dX2_nextRun_106 : decode cX2_nextRun 106 = .ok (.iload_n 3, 1) := by decide +kernel
theorem dX2_nextRun_107 : decode cX2_nextRun 107 = .ok (.i2l, 1) := by decide +kernel
theorem dX2_nextRun_108 : decode cX2_nextRun 108 = .ok (.lor, 1) := by decide +kernel
theorem dX2_nextRun_109 : decode cX2_nextRun 109 = .ok (.putfield 86, 3) := by decide +kernel
theorem dX2_nextRun_112 : decode cX2_nextRun 112 = .ok (.aload_n 0, 1) := by decide +kernel
theorem dX2_nextRun_113 : decode cX2_nextRun 113 = .ok (.dup, 1) := by decide +kernel
theorem dX2_nextRun_114 : decode cX2_nextRun 114 = .ok (.getfield 35, 3) := by decide +kernel
theorem dX2_nextRun_117 : decode cX2_nextRun 117 = .ok (.iconst 1, 1) := by decide +kernel
theorem dX2_nextRun_118 : decode cX2_nextRun 118 = .ok (.iadd, 1) := by decide +kernel
theorem dX2_nextRun_119 : decode cX2_nextRun 119 = .ok (.putfield 35, 3) := by decide +kernel
theorem dX2_nextRun_122 : decode cX2_nextRun 122 = .ok (.goto (-100), 3) := by decide +kernel
theorem dX2_nextRun_125 : decode cX2_nextRun 125 = .ok (.aload_n 0, 1) := by decide +kernel
theorem dX2_nextRun_126 : decode cX2_nextRun 126 = .ok (.iconst 4, 1) := by decide +kernel
theorem dX2_nextRun_127 : decode cX2_nextRun 127 = .ok (.putfield 45, 3) := by decide +kernel
theorem dX2_nextRun_130 : decode cX2_nextRun 130 = .ok (.iload_n 2, 1) := by decide +kernel
theorem dX2_nextRun_131 : decode cX2_nextRun 131 = .ok (.ifCond .ne 63, 3) := by decide +kernel
theorem dX2_nextRun_134 : decode cX2_nextRun 134 = .ok (.iload_n 1, 1) := by decide +kernel
theorem dX2_nextRun_135 : decode cX2_nextRun 135 = .ok (.iconst 1, 1) := by decide +kernel
theorem dX2_nextRun_136 : decode cX2_nextRun 136 = .ok (.if_icmp .lt 58, 3) := by decide +kernel
theorem dX2_nextRun_139 : decode cX2_nextRun 139 = .ok (.iload_n 1, 1) := by decide +kernel
theorem dX2_nextRun_140 : decode cX2_nextRun 140 = .ok (.bipush 6, 2) := by decide +kernel
theorem dX2_nextRun_142 : decode cX2_nextRun 142 = .ok (.if_icmp .gt 52, 3) := by decide +kernel
theorem dX2_nextRun_145 : decode cX2_nextRun 145 = .ok (.aload_n 0, 1) := by decide +kernel
theorem dX2_nextRun_146 : decode cX2_nextRun 146 = .ok (.iconst 0, 1) := by decide +kernel
theorem dX2_nextRun_147 : decode cX2_nextRun 147 = .ok (.putfield 45, 3) := by decide +kernel
theorem dX2_nextRun_150 : decode cX2_nextRun 150 = .ok (.iconst 0, 1) := by decide +kernel
theorem dX2_nextRun_151 : decode cX2_nextRun 151 = .ok (.istore_n 3, 1) := by decide +kernel
theorem dX2_nextRun_152 : decode cX2_nextRun 152 = .ok (.iload_n 3, 1) := by decide +kernel
theorem dX2_nextRun_153 : decode cX2_nextRun 153 = .ok (.getstatic 93, 3) := by decide +kernel
theorem dX2_nextRun_156 : decode cX2_nextRun 156 = .ok (.arraylength, 1) := by decide +kernel
theorem dX2_nextRun_157 : decode cX2_nextRun 157 = .ok (.if_icmp .ge 34, 3) := by decide +kernel
theorem dX2_nextRun_160 : decode cX2_nextRun 160 = .ok (.aload_n 0, 1) := by decide +kernel
theorem dX2_nextRun_161 : decode cX2_nextRun 161 = .ok (.getstatic 93, 3) := by decide +kernel
theorem dX2_nextRun_164 : decode cX2_nextRun 164 = .ok (.iload_n 3, 1) := by decide +kernel
theorem dX2_nextRun_165 : decode cX2_nextRun 165 = .ok (.laload, 1) := by decide +kernel
theorem dX2_nextRun_166 : decode cX2_nextRun 166 = .ok (.aload_n 0, 1) := by decide +kernel
theorem dX2_nextRun_167 : decode cX2_nextRun 167 = .ok (.getfield 86, 3) := by decide +kernel
theorem dX2_nextRun_170 : decode cX2_nextRun 170 = .ok (.lcmp, 1) := by decide +kernel
theorem dX2_nextRun_171 : decode cX2_nextRun 171 = .ok (.ifCond .ne 7, 3) := by decide +kernel
theorem dX2_nextRun_174 : decode cX2_nextRun 174 = .ok (.iload_n 3, 1) := by decide +kernel
theorem dX2_nextRun_175 : decode cX2_nextRun 175 = .ok (.goto 7, 3) := by decide +kernel
theorem dX2_nextRun_178 : decode cX2_nextRun 178 = .ok (.aload_n 0, 1) := by decide +kernel
theorem dX2_nextRun_179 : decode cX2_nextRun 179 = .ok (.getfield 74, 3) := by decide +kernel
theorem dX2_nextRun_182 : decode cX2_nextRun 182 = .ok (.putfield 74, 3) := by decide +kernel
theorem dX2_nextRun_185 : decode cX2_nextRun 185 = .ok (.iinc 3 1, 3) := by decide +kernel
theorem dX2_nextRun_188 : decode cX2_nextRun 188 = .ok (.goto (-36), 3) := by decide +kernel
theorem dX2_nextRun_191 : decode cX2_nextRun 191 = .ok (.goto 22, 3) := by decide +kernel
theorem dX2_nextRun_194 : decode cX2_nextRun 194 = .ok (.iload_n 1, 1) := by decide +kernel
theorem dX2_nextRun_195 : decode cX2_nextRun 195 = .ok (.ifCond .ne 18, 3) := by decide +kernel
theorem dX2_nextRun_198 : decode cX2_nextRun 198 = .ok (.iload_n 2, 1) := by decide +kernel
theorem dX2_nextRun_199 : decode cX2_nextRun 199 = .ok (.iconst 1, 1) := by decide +kernel
theorem dX2_nextRun_200 : decode cX2_nextRun 200 = .ok (.if_icmp .lt 13, 3) := by decide +kernel
theorem dX2_nextRun_203 : decode cX2_nextRun 203 = .ok (.iload_n 2, 1) := by decide +kernel
theorem dX2_nextRun_204 : decode cX2_nextRun 204 = .ok (.iconst 2, 1) := by decide +kernel
theorem dX2_nextRun_205 : decode cX2_nextRun 205 = .ok (.if_icmp .gt 8, 3) := by decide +kernel
theorem dX2_nextRun_208 : decode cX2_nextRun 208 = .ok (.aload_n 0, 1) := by decide +kernel
theorem dX2_nextRun_209 : decode cX2_nextRun 209 = .ok (.iconst 1, 1) := by decide +kernel
theorem dX2_nextRun_210 : decode cX2_nextRun 210 = .ok (.putfield 45, 3) := by decide +kernel
theorem dX2_nextRun_213 : decode cX2_nextRun 213 = .ok (.return_, 1) := by decide +kernel
theorem dX2_read_0 : decode cX2_read 0 = .ok (.aload_n 0, 1) := by decide +kernel
theorem dX2_read_1 : decode cX2_read 1 = .ok (.aload_n 1, 1) := by decide +kernel
theorem dX2_read_2 : decode cX2_read 2 = .ok (.putfield 15, 3) := by decide +kernel
theorem dX2_read_5 : decode cX2_read 5 = .ok (.aload_n 0, 1) := by decide +kernel
theorem dX2_read_6 : decode cX2_read 6 = .ok (.getfield 15, 3) := by decide +kernel
theorem dX2_read_9 : decode cX2_read 9 = .ok (.invokevirtual 26, 3) := by decide +kernel
theorem dX2_read_12 : decode cX2_read 12 = .ok (.aload_n 0, 1) := by decide +kernel
theorem dX2_read_13 : decode cX2_read 13 = .ok (.iconst 0, 1) := by decide +kernel
theorem dX2_read_14 : decode cX2_read 14 = .ok (.putfield 31, 3) := by decide +kernel
theorem dX2_read_17 : decode cX2_read 17 = .ok (.aload_n 0, 1) := by decide +kernel
theorem dX2_read_18 : decode cX2_read 18 = .ok (.iconst 0, 1) := by decide +kernel
theorem dX2_read_19 : decode cX2_read 19 = .ok (.putfield 35, 3) := by decide +kernel
theorem dX2_read_22 : decode cX2_read 22 = .ok (.aload_n 0, 1) := by decide +kernel
theorem dX2_read_23 : decode cX2_read 23 = .ok (.iconst 0, 1) := by decide +kernel
theorem dX2_read_24 : decode cX2_read 24 = .ok (.putfield 39, 3) := by decide +kernel
theorem dX2_read_27 : decode cX2_read 27 = .ok (.iconst 0, 1) := by decide +kernel
theorem dX2_read_28 : decode cX2_read 28 = .ok (.istore_n 2, 1) := by decide +kernel
theorem dX2_read_29 : decode cX2_read 29 = .ok (.aload_n 0, 1) := by decide +kernel
theorem dX2_read_30 : decode cX2_read 30 = .ok (.invokevirtual 42, 3) := by decide +kernel
theorem dX2_read_33 : decode cX2_read 33 = .ok (.iload_n 2, 1) := by decide +kernel
theorem dX2_read_34 : decode cX2_read 34 = .ok (.sipush 700, 3) := by decide +kernel
theorem dX2_read_37 : decode cX2_read 37 = .ok (.if_icmp .gt 28, 3) := by decide +kernel
theorem dX2_read_40 : decode cX2_read 40 = .ok (.aload_n 0, 1) := by decide +kernel
theorem dX2_read_41 : decode cX2_read 41 = .ok (.getfield 45, 3) := by decide +kernel
theorem dX2_read_44 : decode cX2_read 44 = .ok (.iconst 3, 1) := by decide +kernel
theorem dX2_read_45 : decode cX2_read 45 = .ok (.if_icmp .eq 20, 3) := by decide +kernel
theorem dX2_read_48 : decode cX2_read 48 = .ok (.aload_n 0, 1) := by decide +kernel
theorem dX2_read_49 : decode cX2_read 49 = .ok (.invokevirtual 48, 3) := by decide +kernel
theorem dX2_read_52 : decode cX2_read 52 = .ok (.ifCond .eq 13, 3) := by decide +kernel
theorem dX2_read_55 : decode cX2_read 55 = .ok (.iinc 2 1, 3) := by decide +kernel
theorem dX2_read_58 : decode cX2_read 58 = .ok (.aload_n 0, 1) := by decide +kernel
theorem dX2_read_59 : decode cX2_read 59 = .ok (.invokevirtual 42, 3) := by decide +kernel
theorem dX2_read_62 : decode cX2_read 62 = .ok (.goto (-29), 3) := by decide +kernel
theorem dX2_read_65 : decode cX2_read 65 = .ok (.aload_n 0, 1) := by decide +kernel
theorem dX2_read_66 : decode cX2_read 66 = .ok (.getfield 39, 3) := by decide +kernel
theorem dX2_read_69 : decode cX2_read 69 = .ok (.ifCond .ne 32, 3) := by decide +kernel
theorem dX2_read_72 : decode cX2_read 72 = .ok (.aload_n 0, 1) := by decide +kernel
theorem dX2_read_73 : decode cX2_read 73 = .ok (.getfield 15, 3) := by decide +kernel
theorem dX2_read_76 : decode cX2_read 76 = .ok (.invokevirtual 52, 3) := by decide +kernel
theorem dX2_read_79 : decode cX2_read 79 = .ok (.ifCond .ne 16, 3) := by decide +kernel
theorem dX2_read_82 : decode cX2_read 82 = .ok (.aload_n 0, 1) := by decide +kernel
theorem dX2_read_83 : decode cX2_read 83 = .ok (.getfield 9, 3) := by decide +kernel
theorem dX2_read_86 : decode cX2_read 86 = .ok (.getfield 55, 3) := by decide +kernel
theorem dX2_read_89 : decode cX2_read 89 = .ok (.sipush 700, 3) := by decide +kernel
theorem dX2_read_92 : decode cX2_read 92 = .ok (.if_icmp .le 9, 3) := by decide +kernel
theorem dX2_read_95 : decode cX2_read 95 = .ok (.aload_n 0, 1) := by decide +kernel
theorem dX2_read_96 : decode cX2_read 96 = .ok (.iconst 1, 1) := by decide +kernel
theorem dX2_read_97 : decode cX2_read 97 = .ok (.invokevirtual 60, 3) := by decide +kernel
theorem dX2_read_100 : decode cX2_read 100 = .ok (.pop, 1) := by decide +kernel
theorem dX2_read_101 : decode cX2_read 101 = .ok (.aload_n 0, 1) := by decide +kernel
theorem dX2_read_102 : decode cX2_read 102 = .ok (.getfield 39, 3) := by decide +kernel
theorem dX2_read_105 : decode cX2_read 105 = .ok (.ifCond .ne 7, 3) := by decide +kernel
theorem dX2_read_108 : decode cX2_read 108 = .ok (.iload_n 2, 1) := by decide +kernel
theorem dX2_read_109 : decode cX2_read 109 = .ok (.goto 9, 3) := by decide +kernel
theorem dX2_read_112 : decode cX2_read 112 = .ok (.iconst (-1), 1) := by decide +kernel
theorem dX2_read_113 : decode cX2_read 113 = .ok (.aload_n 0, 1) := by decide +kernel
theorem dX2_read_114 : decode cX2_read 114 = .ok (.getfield 64, 3) := by decide +kernel
theorem dX2_read_117 : decode cX2_read 117 = .ok (.isub, 1) := by decide +kernel
theorem dX2_read_118 : decode cX2_read 118 = .ok (.ireturn, 1) := by decide +kernel
theorem dX2_readLine_0 : decode cX2_readLine 0 = .ok (.aload_n 0, 1) := by decide +kernel
theorem dX2_readLine_1 : decode cX2_readLine 1 = .ok (.getfield 74, 3) := by decide +kernel
theorem dX2_readLine_4 : decode cX2_readLine 4 = .ok (.ifCond .lt 11, 3) := by decide +kernel
theorem dX2_readLine_7 : decode cX2_readLine 7 = .ok (.aload_n 0, 1) := by decide +kernel
theorem dX2_readLine_8 : decode cX2_readLine 8 = .ok (.getfield 74, 3) := by decide +kernel
theorem dX2_readLine_11 : decode cX2_readLine 11 = .ok (.iconst 5, 1) := by decide +kernel
theorem dX2_readLine_12 : decode cX2_readLine 12 = .ok (.if_icmp .le 9, 3) := by decide +kernel
theorem dX2_readLine_15 : decode cX2_readLine 15 = .ok (.aload_n 0, 1) := by decide +kernel
theorem dX2_readLine_16 : decode cX2_readLine 16 = .ok (.iconst 1, 1) := by decide +kernel
theorem dX2_readLine_17 : decode cX2_readLine 17 = .ok (.invokevirtual 60, 3) := by decide +kernel
theorem dX2_readLine_20 : decode cX2_readLine 20 = .ok (.ireturn, 1) := by decide +kernel
theorem dX2_readLine_21 : decode cX2_readLine 21 = .ok (.aload_n 0, 1) := by decide +kernel
theorem dX2_readLine_22 : decode cX2_readLine 22 = .ok (.getfield 74, 3) := by decide +kernel
theorem dX2_readLine_25 : decode cX2_readLine 25 = .ok (.ifCond .ne 8, 3) := by decide +kernel
theorem dX2_readLine_28 : decode cX2_readLine 28 = .ok (.aload_n 0, 1) := by decide +kernel
theorem dX2_readLine_29 : decode cX2_readLine 29 = .ok (.invokevirtual 96, 3) := by decide +kernel
theorem dX2_readLine_32 : decode cX2_readLine 32 = .ok (.ireturn, 1) := by decide +kernel
theorem dX2_readLine_33 : decode cX2_readLine 33 = .ok (.aload_n 0, 1) := by decide +kernel
theorem dX2_readLine_34 : decode cX2_readLine 34 = .ok (.getfield 31, 3) := by decide +kernel
theorem dX2_readLine_37 : decode cX2_readLine 37 = .ok (.ifCond .ne 16, 3) := by decide +kernel
theorem dX2_readLine_40 : decode cX2_readLine 40 = .ok (.aload_n 0, 1) := by decide +kernel
theorem dX2_readLine_41 : decode cX2_readLine 41 = .ok (.invokevirtual 99, 3) := by decide +kernel
theorem dX2_readLine_44 : decode cX2_readLine 44 = .ok (.ifCond .ne 9, 3) := by decide +kernel
theorem dX2_readLine_47 : decode cX2_readLine 47 = .ok (.aload_n 0, 1) := by decide +kernel
theorem dX2_readLine_48 : decode cX2_readLine 48 = .ok (.iconst 4, 1) := by decide +kernel
theorem dX2_readLine_49 : decode cX2_readLine 49 = .ok (.invokevirtual 60, 3) := by decide +kernel
theorem dX2_readLine_52 : decode cX2_readLine 52 = .ok (.ireturn, 1) := by decide +kernel
theorem dX2_readLine_53 : decode cX2_readLine 53 = .ok (.aload_n 0, 1) := by decide +kernel
theorem dX2_readLine_54 : decode cX2_readLine 54 = .ok (.iconst 1, 1) := by decide +kernel
theorem dX2_readLine_55 : decode cX2_readLine 55 = .ok (.putfield 31, 3) := by decide +kernel
theorem dX2_readLine_58 : decode cX2_readLine 58 = .ok (.aload_n 0, 1) := by decide +kernel
theorem dX2_readLine_59 : decode cX2_readLine 59 = .ok (.getfield 74, 3) := by decide +kernel
theorem dX2_readLine_62 : decode cX2_readLine 62 = .ok (.tableswitch 50 1 4 #[30, 35, 40, 45], 30) := by decide +kernel
theorem dX2_readLine_92 : decode cX2_readLine 92 = .ok (.aload_n 0, 1) := by decide +kernel
theorem dX2_readLine_93 : decode cX2_readLine 93 = .ok (.invokevirtual 102, 3) := by decide +kernel
theorem dX2_readLine_96 : decode cX2_readLine 96 = .ok (.ireturn, 1) := by decide +kernel
theorem dX2_readLine_97 : decode cX2_readLine 97 = .ok (.aload_n 0, 1) := by decide +kernel
theorem dX2_readLine_98 : decode cX2_readLine 98 = .ok (.invokevirtual 105, 3) := by decide +kernel
theorem dX2_readLine_101 : decode cX2_readLine 101 = .ok (.ireturn, 1) := by decide +kernel
theorem dX2_readLine_102 : decode cX2_readLine 102 = .ok (.aload_n 0, 1) := by decide +kernel
theorem dX2_readLine_103 : decode cX2_readLine 103 = .ok (.invokevirtual 108, 3) := by decide +kernel
theorem dX2_readLine_106 : decode cX2_readLine 106 = .ok (.ireturn, 1) := by decide +kernel
theorem dX2_readLine_107 : decode cX2_readLine 107 = .ok (.aload_n 0, 1) := by decide +kernel
theorem dX2_readLine_108 : decode cX2_readLine 108 = .ok (.invokevirtual 111, 3) := by decide +kernel
theorem dX2_readLine_111 : decode cX2_readLine 111 = .ok (.ireturn, 1) := by decide +kernel
theorem dX2_readLine_112 : decode cX2_readLine 112 = .ok (.aload_n 0, 1) := by decide +kernel
theorem dX2_readLine_113 : decode cX2_readLine 113 = .ok (.invokevirtual 42, 3) := by decide +kernel
theorem dX2_readLine_116 : decode cX2_readLine 116 = .ok (.aload_n 0, 1) := by decide +kernel
theorem dX2_readLine_117 : decode cX2_readLine 117 = .ok (.getfield 74, 3) := by decide +kernel
theorem dX2_readLine_120 : decode cX2_readLine 120 = .ok (.bipush 14, 2) := by decide +kernel
theorem dX2_readLine_122 : decode cX2_readLine 122 = .ok (.if_icmp .ne 10, 3) := by decide +kernel
theorem dX2_readLine_125 : decode cX2_readLine 125 = .ok (.aload_n 0, 1) := by decide +kernel
theorem dX2_readLine_126 : decode cX2_readLine 126 = .ok (.invokevirtual 114, 3) := by decide +kernel
theorem dX2_readLine_129 : decode cX2_readLine 129 = .ok (.goto 7, 3) := by decide +kernel
theorem dX2_readLine_132 : decode cX2_readLine 132 = .ok (.aload_n 0, 1) := by decide +kernel
theorem dX2_readLine_133 : decode cX2_readLine 133 = .ok (.invokevirtual 117, 3) := by decide +kernel
theorem dX2_readLine_136 : decode cX2_readLine 136 = .ok (.ireturn, 1) := by decide +kernel
theorem dX2_readLoss_0 : decode cX2_readLoss 0 = .ok (.aload_n 0, 1) := by decide +kernel
theorem dX2_readLoss_1 : decode cX2_readLoss 1 = .ok (.bipush 6, 2) := by decide +kernel
theorem dX2_readLoss_3 : decode cX2_readLoss 3 = .ok (.invokevirtual 126, 3) := by decide +kernel
theorem dX2_readLoss_6 : decode cX2_readLoss 6 = .ok (.ifCond .ne 5, 3) := by decide +kernel
theorem dX2_readLoss_9 : decode cX2_readLoss 9 = .ok (.iconst 0, 1) := by decide +kernel
theorem dX2_readLoss_10 : decode cX2_readLoss 10 = .ok (.ireturn, 1) := by decide +kernel
theorem dX2_readLoss_11 : decode cX2_readLoss 11 = .ok (.aload_n 0, 1) := by decide +kernel
theorem dX2_readLoss_12 : decode cX2_readLoss 12 = .ok (.getfield 15, 3) := by decide +kernel
theorem dX2_readLoss_15 : decode cX2_readLoss 15 = .ok (.getfield 157, 3) := by decide +kernel
theorem dX2_readLoss_18 : decode cX2_readLoss 18 = .ok (.getfield 161, 3) := by decide +kernel
theorem dX2_readLoss_21 : decode cX2_readLoss 21 = .ok (.astore_n 1, 1) := by decide +kernel
theorem dX2_readLoss_22 : decode cX2_readLoss 22 = .ok (.aload_n 0, 1) := by decide +kernel
theorem dX2_readLoss_23 : decode cX2_readLoss 23 = .ok (.getfield 166, 3) := by decide +kernel
theorem dX2_readLoss_26 : decode cX2_readLoss 26 = .ok (.iconst (-1), 1) := by decide +kernel
theorem dX2_readLoss_27 : decode cX2_readLoss 27 = .ok (.if_icmp .eq 29, 3) := by decide +kernel
theorem dX2_readLoss_30 : decode cX2_readLoss 30 = .ok (.aload_n 0, 1) := by decide +kernel
theorem dX2_readLoss_31 : decode cX2_readLoss 31 = .ok (.getfield 15, 3) := by decide +kernel
theorem dX2_readLoss_34 : decode cX2_readLoss 34 = .ok (.getfield 142, 3) := by decide +kernel
theorem dX2_readLoss_37 : decode cX2_readLoss 37 = .ok (.aload_n 0, 1) := by decide +kernel
theorem dX2_readLoss_38 : decode cX2_readLoss 38 = .ok (.getfield 166, 3) := by decide +kernel
theorem dX2_readLoss_41 : decode cX2_readLoss 41 = .ok (.aaload, 1) := by decide +kernel
theorem dX2_readLoss_42 : decode cX2_readLoss 42 = .ok (.getfield 168, 3) := by decide +kernel
theorem dX2_readLoss_45 : decode cX2_readLoss 45 = .ok (.astore_n 1, 1) := by decide +kernel
theorem dX2_readLoss_46 : decode cX2_readLoss 46 = .ok (.aload_n 0, 1) := by decide +kernel
theorem dX2_readLoss_47 : decode cX2_readLoss 47 = .ok (.iconst 2, 1) := by decide +kernel
theorem dX2_readLoss_48 : decode cX2_readLoss 48 = .ok (.invokevirtual 126, 3) := by decide +kernel
theorem dX2_readLoss_51 : decode cX2_readLoss 51 = .ok (.ifCond .ne 5, 3) := by decide +kernel
theorem dX2_readLoss_54 : decode cX2_readLoss 54 = .ok (.iconst 0, 1) := by decide +kernel
theorem dX2_readLoss_55 : decode cX2_readLoss 55 = .ok (.ireturn, 1) := by decide +kernel
theorem dX2_readLoss_56 : decode cX2_readLoss 56 = .ok (.aload_n 0, 1) := by decide +kernel
theorem dX2_readLoss_57 : decode cX2_readLoss 57 = .ok (.getfield 171, 3) := by decide +kernel
theorem dX2_readLoss_60 : decode cX2_readLoss 60 = .ok (.istore_n 2, 1) := by decide +kernel
theorem dX2_readLoss_61 : decode cX2_readLoss 61 = .ok (.aload_n 0, 1) := by decide +kernel
theorem dX2_readLoss_62 : decode cX2_readLoss 62 = .ok (.iconst 2, 1) := by decide +kernel
theorem dX2_readLoss_63 : decode cX2_readLoss 63 = .ok (.invokevirtual 126, 3) := by decide +kernel
theorem dX2_readLoss_66 : decode cX2_readLoss 66 = .ok (.ifCond .ne 5, 3) := by decide +kernel
theorem dX2_readLoss_69 : decode cX2_readLoss 69 = .ok (.iconst 0, 1) := by decide +kernel
theorem dX2_readLoss_70 : decode cX2_readLoss 70 = .ok (.ireturn, 1) := by decide +kernel
theorem dX2_readLoss_71 : decode cX2_readLoss 71 = .ok (.aload_n 0, 1) := by decide +kernel
theorem dX2_readLoss_72 : decode cX2_readLoss 72 = .ok (.getfield 171, 3) := by decide +kernel
theorem dX2_readLoss_75 : decode cX2_readLoss 75 = .ok (.istore_n 3, 1) := by decide +kernel
theorem dX2_readLoss_76 : decode cX2_readLoss 76 = .ok (.aload_n 0, 1) := by decide +kernel
theorem dX2_readLoss_77 : decode cX2_readLoss 77 = .ok (.iconst 0, 1) := by decide +kernel
theorem dX2_readLoss_78 : decode cX2_readLoss 78 = .ok (.bipush 50, 2) := by decide +kernel
theorem dX2_readLoss_80 : decode cX2_readLoss 80 = .ok (.invokevirtual 129, 3) := by decide +kernel
theorem dX2_readLoss_83 : decode cX2_readLoss 83 = .ok (.ifCond .ne 5, 3) := by decide +kernel
theorem dX2_readLoss_86 : decode cX2_readLoss 86 = .ok (.iconst 0, 1) := by decide +kernel
theorem dX2_readLoss_87 : decode cX2_readLoss 87 = .ok (.ireturn, 1) := by decide +kernel
theorem dX2_readLoss_88 : decode cX2_readLoss 88 = .ok (.aload_n 1, 1) := by decide +kernel
theorem dX2_readLoss_89 : decode cX2_readLoss 89 = .ok (.iload_n 2, 1) := by decide +kernel
theorem dX2_readLoss_90 : decode cX2_readLoss 90 = .ok (.iconst 3, 1) := by decide +kernel
theorem dX2_readLoss_91 : decode cX2_readLoss 91 = .ok (.imul, 1) := by decide +kernel
theorem dX2_readLoss_92 : decode cX2_readLoss 92 = .ok (.iload_n 3, 1) := by decide +kernel
theorem dX2_readLoss_93 : decode cX2_readLoss 93 = .ok (.iadd, 1) := by decide +kernel
theorem dX2_readLoss_94 : decode cX2_readLoss 94 = .ok (.aload_n 0, 1) := by decide +kernel
theorem dX2_readLoss_95 : decode cX2_readLoss 95 = .ok (.getfield 90, 3) := by decide +kernel
theorem dX2_readLoss_98 : decode cX2_readLoss 98 = .ok (.iastore, 1) := by decide +kernel
theorem dX2_readLoss_99 : decode cX2_readLoss 99 = .ok (.aload_n 0, 1) := by decide +kernel
theorem dX2_readLoss_100 : decode cX2_readLoss 100 = .ok (.invokevirtual 133, 3) := by decide +kernel
theorem dX2_readLoss_103 : decode cX2_readLoss 103 = .ok (.ireturn, 1) := by decide +kernel
theorem dX2_readMost_0 : decode cX2_readMost 0 = .ok (.aload_n 0, 1) := by decide +kernel
theorem dX2_readMost_1 : decode cX2_readMost 1 = .ok (.getfield 74, 3) := by decide +kernel
theorem dX2_readMost_4 : decode cX2_readMost 4 = .ok (.bipush 12, 2) := by decide +kernel
theorem dX2_readMost_6 : decode cX2_readMost 6 = .ok (.if_icmp .eq 9, 3) := by decide +kernel
theorem dX2_readMost_9 : decode cX2_readMost 9 = .ok (.aload_n 0, 1) := by decide +kernel
theorem dX2_readMost_10 : decode cX2_readMost 10 = .ok (.iconst 1, 1) := by decide +kernel
theorem dX2_readMost_11 : decode cX2_readMost 11 = .ok (.invokevirtual 60, 3) := by decide +kernel
theorem dX2_readMost_14 : decode cX2_readMost 14 = .ok (.ireturn, 1) := by decide +kernel
theorem dX2_readMost_15 : decode cX2_readMost 15 = .ok (.aload_n 0, 1) := by decide +kernel
theorem dX2_readMost_16 : decode cX2_readMost 16 = .ok (.getfield 15, 3) := by decide +kernel
theorem dX2_readMost_19 : decode cX2_readMost 19 = .ok (.iconst 0, 1) := by decide +kernel
theorem dX2_readMost_20 : decode cX2_readMost 20 = .ok (.putfield 193, 3) := by decide +kernel
theorem dX2_readMost_23 : decode cX2_readMost 23 = .ok (.aload_n 0, 1) := by decide +kernel
theorem dX2_readMost_24 : decode cX2_readMost 24 = .ok (.getfield 15, 3) := by decide +kernel
theorem dX2_readMost_27 : decode cX2_readMost 27 = .ok (.iconst (-1), 1) := by decide +kernel
theorem dX2_readMost_28 : decode cX2_readMost 28 = .ok (.putfield 196, 3) := by decide +kernel
theorem dX2_readMost_31 : decode cX2_readMost 31 = .ok (.aload_n 0, 1) := by decide +kernel
theorem dX2_readMost_32 : decode cX2_readMost 32 = .ok (.invokevirtual 42, 3) := by decide +kernel
theorem dX2_readMost_35 : decode cX2_readMost 35 = .ok (.aload_n 0, 1) := by decide +kernel
theorem dX2_readMost_36 : decode cX2_readMost 36 = .ok (.getfield 74, 3) := by decide +kernel
theorem dX2_readMost_39 : decode cX2_readMost 39 = .ok (.bipush 13, 2) := by decide +kernel
theorem dX2_readMost_41 : decode cX2_readMost 41 = .ok (.if_icmp .ne 28, 3) := by decide +kernel
theorem dX2_readMost_44 : decode cX2_readMost 44 = .ok (.aload_n 0, 1) := by decide +kernel
theorem dX2_readMost_45 : decode cX2_readMost 45 = .ok (.iconst 4, 1) := by decide +kernel
theorem dX2_readMost_46 : decode cX2_readMost 46 = .ok (.invokevirtual 126, 3) := by decide +kernel
theorem dX2_readMost_49 : decode cX2_readMost 49 = .ok (.ifCond .ne 5, 3) := by decide +kernel
theorem dX2_readMost_52 : decode cX2_readMost 52 = .ok (.iconst 0, 1) := by decide +kernel
theorem dX2_readMost_53 : decode cX2_readMost 53 = .ok (.ireturn, 1) := by decide +kernel
theorem dX2_readMost_54 : decode cX2_readMost 54 = .ok (.aload_n 0, 1) := by decide +kernel
theorem dX2_readMost_55 : decode cX2_readMost 55 = .ok (.getfield 15, 3) := by decide +kernel
theorem dX2_readMost_58 : decode cX2_readMost 58 = .ok (.aload_n 0, 1) := by decide +kernel
theorem dX2_readMost_59 : decode cX2_readMost 59 = .ok (.getfield 166, 3) := by decide +kernel
theorem dX2_readMost_62 : decode cX2_readMost 62 = .ok (.putfield 196, 3) := by decide +kernel
theorem dX2_readMost_65 : decode cX2_readMost 65 = .ok (.aload_n 0, 1) := by decide +kernel
theorem dX2_readMost_66 : decode cX2_readMost 66 = .ok (.invokevirtual 42, 3) := by decide +kernel
theorem dX2_readMost_69 : decode cX2_readMost 69 = .ok (.aload_n 0, 1) := by decide +kernel
theorem dX2_readMost_70 : decode cX2_readMost 70 = .ok (.getfield 45, 3) := by decide +kernel
theorem dX2_readMost_73 : decode cX2_readMost 73 = .ok (.iconst 2, 1) := by decide +kernel
theorem dX2_readMost_74 : decode cX2_readMost 74 = .ok (.if_icmp .eq 11, 3) := by decide +kernel
theorem dX2_readMost_77 : decode cX2_readMost 77 = .ok (.aload_n 0, 1) := by decide +kernel
theorem dX2_readMost_78 : decode cX2_readMost 78 = .ok (.iconst 1, 1) := by decide +kernel
theorem dX2_readMost_79 : decode cX2_readMost 79 = .ok (.invokevirtual 60, 3) := by decide +kernel
theorem dX2_readMost_82 : decode cX2_readMost 82 = .ok (.ifCond .eq 7, 3) := by decide +kernel
theorem dX2_readMost_85 : decode cX2_readMost 85 = .ok (.iconst 1, 1) := by decide +kernel
theorem dX2_readMost_86 : decode cX2_readMost 86 = .ok (.goto 4, 3) := by decide +kernel
theorem dX2_readMost_89 : decode cX2_readMost 89 = .ok (.iconst 0, 1) := by decide +kernel
theorem dX2_readMost_90 : decode cX2_readMost 90 = .ok (.ireturn, 1) := by decide +kernel
theorem dX2_readNeed_0 : decode cX2_readNeed 0 = .ok (.aload_n 0, 1) := by decide +kernel
theorem dX2_readNeed_1 : decode cX2_readNeed 1 = .ok (.iconst 1, 1) := by decide +kernel
theorem dX2_readNeed_2 : decode cX2_readNeed 2 = .ok (.bipush 81, 2) := by decide +kernel
theorem dX2_readNeed_4 : decode cX2_readNeed 4 = .ok (.invokevirtual 129, 3) := by decide +kernel
theorem dX2_readNeed_7 : decode cX2_readNeed 7 = .ok (.ifCond .ne 5, 3) := by decide +kernel
theorem dX2_readNeed_10 : decode cX2_readNeed 10 = .ok (.iconst 0, 1) := by decide +kernel
theorem dX2_readNeed_11 : decode cX2_readNeed 11 = .ok (.ireturn, 1) := by decide +kernel
theorem dX2_readNeed_12 : decode cX2_readNeed 12 = .ok (.aload_n 0, 1) := by decide +kernel
theorem dX2_readNeed_13 : decode cX2_readNeed 13 = .ok (.getfield 15, 3) := by decide +kernel
theorem dX2_readNeed_16 : decode cX2_readNeed 16 = .ok (.aload_n 0, 1) := by decide +kernel
theorem dX2_readNeed_17 : decode cX2_readNeed 17 = .ok (.getfield 90, 3) := by decide +kernel
theorem dX2_readNeed_20 : decode cX2_readNeed 20 = .ok (.putfield 193, 3) := by decide +kernel
theorem dX2_readNeed_23 : decode cX2_readNeed 23 = .ok (.aload_n 0, 1) := by decide +kernel
theorem dX2_readNeed_24 : decode cX2_readNeed 24 = .ok (.iconst 2, 1) := by decide +kernel
theorem dX2_readNeed_25 : decode cX2_readNeed 25 = .ok (.invokevirtual 126, 3) := by decide +kernel
theorem dX2_readNeed_28 : decode cX2_readNeed 28 = .ok (.ifCond .ne 5, 3) := by decide +kernel
theorem dX2_readNeed_31 : decode cX2_readNeed 31 = .ok (.iconst 0, 1) := by decide +kernel
theorem dX2_readNeed_32 : decode cX2_readNeed 32 = .ok (.ireturn, 1) := by decide +kernel
theorem dX2_readNeed_33 : decode cX2_readNeed 33 = .ok (.aload_n 0, 1) := by decide +kernel
theorem dX2_readNeed_34 : decode cX2_readNeed 34 = .ok (.getfield 15, 3) := by decide +kernel
theorem dX2_readNeed_37 : decode cX2_readNeed 37 = .ok (.aload_n 0, 1) := by decide +kernel
theorem dX2_readNeed_38 : decode cX2_readNeed 38 = .ok (.getfield 171, 3) := by decide +kernel
theorem dX2_readNeed_41 : decode cX2_readNeed 41 = .ok (.putfield 199, 3) := by decide +kernel
theorem dX2_readNeed_44 : decode cX2_readNeed 44 = .ok (.aload_n 0, 1) := by decide +kernel
theorem dX2_readNeed_45 : decode cX2_readNeed 45 = .ok (.bipush 15, 2) := by decide +kernel
theorem dX2_readNeed_47 : decode cX2_readNeed 47 = .ok (.invokevirtual 139, 3) := by decide +kernel
theorem dX2_readNeed_50 : decode cX2_readNeed 50 = .ok (.ifCond .eq 11, 3) := by decide +kernel
theorem dX2_readNeed_53 : decode cX2_readNeed 53 = .ok (.aload_n 0, 1) := by decide +kernel
theorem dX2_readNeed_54 : decode cX2_readNeed 54 = .ok (.iconst 2, 1) := by decide +kernel
theorem dX2_readNeed_55 : decode cX2_readNeed 55 = .ok (.invokevirtual 126, 3) := by decide +kernel
theorem dX2_readNeed_58 : decode cX2_readNeed 58 = .ok (.ifCond .ne 5, 3) := by decide +kernel
theorem dX2_readNeed_61 : decode cX2_readNeed 61 = .ok (.iconst 0, 1) := by decide +kernel
theorem dX2_readNeed_62 : decode cX2_readNeed 62 = .ok (.ireturn, 1) := by decide +kernel
theorem dX2_readNeed_63 : decode cX2_readNeed 63 = .ok (.aload_n 0, 1) := by decide +kernel
theorem dX2_readNeed_64 : decode cX2_readNeed 64 = .ok (.getfield 15, 3) := by decide +kernel
theorem dX2_readNeed_67 : decode cX2_readNeed 67 = .ok (.aload_n 0, 1) := by decide +kernel
theorem dX2_readNeed_68 : decode cX2_readNeed 68 = .ok (.getfield 171, 3) := by decide +kernel
theorem dX2_readNeed_71 : decode cX2_readNeed 71 = .ok (.putfield 202, 3) := by decide +kernel
theorem dX2_readNeed_74 : decode cX2_readNeed 74 = .ok (.aload_n 0, 1) := by decide +kernel
theorem dX2_readNeed_75 : decode cX2_readNeed 75 = .ok (.invokevirtual 133, 3) := by decide +kernel
theorem dX2_readNeed_78 : decode cX2_readNeed 78 = .ok (.ireturn, 1) := by decide +kernel
theorem dX2_readSet_0 : decode cX2_readSet 0 = .ok (.iconst 0, 1) := by decide +kernel
theorem dX2_readSet_1 : decode cX2_readSet 1 = .ok (.istore_n 2, 1) := by decide +kernel
theorem dX2_readSet_2 : decode cX2_readSet 2 = .ok (.iload_n 2, 1) := by decide +kernel
theorem dX2_readSet_3 : decode cX2_readSet 3 = .ok (.aload_n 1, 1) := by decide +kernel
theorem dX2_readSet_4 : decode cX2_readSet 4 = .ok (.getfield 151, 3) := by decide +kernel
theorem dX2_readSet_7 : decode cX2_readSet 7 = .ok (.if_icmp .ge 56, 3) := by decide +kernel
theorem dX2_readSet_10 : decode cX2_readSet 10 = .ok (.aload_n 0, 1) := by decide +kernel
theorem dX2_readSet_11 : decode cX2_readSet 11 = .ok (.invokevirtual 42, 3) := by decide +kernel
theorem dX2_readSet_14 : decode cX2_readSet 14 = .ok (.aload_n 0, 1) := by decide +kernel
theorem dX2_readSet_15 : decode cX2_readSet 15 = .ok (.getfield 74, 3) := by decide +kernel
theorem dX2_readSet_18 : decode cX2_readSet 18 = .ok (.bipush 11, 2) := by decide +kernel
theorem dX2_readSet_20 : decode cX2_readSet 20 = .ok (.if_icmp .ne 14, 3) := by decide +kernel
theorem dX2_readSet_23 : decode cX2_readSet 23 = .ok (.aload_n 1, 1) := by decide +kernel
theorem dX2_readSet_24 : decode cX2_readSet 24 = .ok (.getfield 184, 3) := by decide +kernel
theorem dX2_readSet_27 : decode cX2_readSet 27 = .ok (.iload_n 2, 1) := by decide +kernel
theorem dX2_readSet_28 : decode cX2_readSet 28 = .ok (.bipush 9, 2) := by decide +kernel
theorem dX2_readSet_30 : decode cX2_readSet 30 = .ok (.iastore, 1) := by decide +kernel
theorem dX2_readSet_31 : decode cX2_readSet 31 = .ok (.goto 26, 3) := by decide +kernel
theorem dX2_readSet_34 : decode cX2_readSet 34 = .ok (.aload_n 0, 1) := by decide +kernel
theorem dX2_readSet_35 : decode cX2_readSet 35 = .ok (.iconst 2, 1) := by decide +kernel
theorem dX2_readSet_36 : decode cX2_readSet 36 = .ok (.invokevirtual 187, 3) := by decide +kernel
theorem dX2_readSet_39 : decode cX2_readSet 39 = .ok (.ifCond .eq 16, 3) := by decide +kernel
theorem dX2_readSet_42 : decode cX2_readSet 42 = .ok (.aload_n 1, 1) := by decide +kernel
theorem dX2_readSet_43 : decode cX2_readSet 43 = .ok (.getfield 184, 3) := by decide +kernel
theorem dX2_readSet_46 : decode cX2_readSet 46 = .ok (.iload_n 2, 1) := by decide +kernel
theorem dX2_readSet_47 : decode cX2_readSet 47 = .ok (.aload_n 0, 1) := by decide +kernel
theorem dX2_readSet_48 : decode cX2_readSet 48 = .ok (.getfield 171, 3) := by decide +kernel
theorem dX2_readSet_51 : decode cX2_readSet 51 = .ok (.iastore, 1) := by decide +kernel
theorem dX2_readSet_52 : decode cX2_readSet 52 = .ok (.goto 5, 3) := by decide +kernel
theorem dX2_readSet_55 : decode cX2_readSet 55 = .ok (.iconst 0, 1) := by decide +kernel
theorem dX2_readSet_56 : decode cX2_readSet 56 = .ok (.ireturn, 1) := by decide +kernel
theorem dX2_readSet_57 : decode cX2_readSet 57 = .ok (.iinc 2 1, 3) := by decide +kernel
theorem dX2_readSet_60 : decode cX2_readSet 60 = .ok (.goto (-58), 3) := by decide +kernel
theorem dX2_readSet_63 : decode cX2_readSet 63 = .ok (.iconst 1, 1) := by decide +kernel
theorem dX2_readSet_64 : decode cX2_readSet 64 = .ok (.ireturn, 1) := by decide +kernel
theorem dX2_readTruth_0 : decode cX2_readTruth 0 = .ok (.aload_n 0, 1) := by decide +kernel
theorem dX2_readTruth_1 : decode cX2_readTruth 1 = .ok (.getfield 31, 3) := by decide +kernel
theorem dX2_readTruth_4 : decode cX2_readTruth 4 = .ok (.ifCond .ne 14, 3) := by decide +kernel
theorem dX2_readTruth_7 : decode cX2_readTruth 7 = .ok (.aload_n 0, 1) := by decide +kernel
theorem dX2_readTruth_8 : decode cX2_readTruth 8 = .ok (.getfield 15, 3) := by decide +kernel
theorem dX2_readTruth_11 : decode cX2_readTruth 11 = .ok (.getfield 120, 3) := by decide +kernel
theorem dX2_readTruth_14 : decode cX2_readTruth 14 = .ok (.iconst 3, 1) := by decide +kernel
theorem dX2_readTruth_15 : decode cX2_readTruth 15 = .ok (.if_icmp .lt 9, 3) := by decide +kernel
theorem dX2_readTruth_18 : decode cX2_readTruth 18 = .ok (.aload_n 0, 1) := by decide +kernel
theorem dX2_readTruth_19 : decode cX2_readTruth 19 = .ok (.iconst 4, 1) := by decide +kernel
theorem dX2_readTruth_20 : decode cX2_readTruth 20 = .ok (.invokevirtual 60, 3) := by decide +kernel
theorem dX2_readTruth_23 : decode cX2_readTruth 23 = .ok (.ireturn, 1) := by decide +kernel
theorem dX2_readTruth_24 : decode cX2_readTruth 24 = .ok (.aload_n 0, 1) := by decide +kernel
theorem dX2_readTruth_25 : decode cX2_readTruth 25 = .ok (.iconst 1, 1) := by decide +kernel
theorem dX2_readTruth_26 : decode cX2_readTruth 26 = .ok (.invokevirtual 126, 3) := by decide +kernel
theorem dX2_readTruth_29 : decode cX2_readTruth 29 = .ok (.ifCond .ne 5, 3) := by decide +kernel
theorem dX2_readTruth_32 : decode cX2_readTruth 32 = .ok (.iconst 0, 1) := by decide +kernel
theorem dX2_readTruth_33 : decode cX2_readTruth 33 = .ok (.ireturn, 1) := by decide +kernel
theorem dX2_readTruth_34 : decode cX2_readTruth 34 = .ok (.aload_n 0, 1) := by decide +kernel
theorem dX2_readTruth_35 : decode cX2_readTruth 35 = .ok (.getfield 19, 3) := by decide +kernel
theorem dX2_readTruth_38 : decode cX2_readTruth 38 = .ok (.aload_n 0, 1) := by decide +kernel
theorem dX2_readTruth_39 : decode cX2_readTruth 39 = .ok (.getfield 15, 3) := by decide +kernel
theorem dX2_readTruth_42 : decode cX2_readTruth 42 = .ok (.getfield 120, 3) := by decide +kernel
theorem dX2_readTruth_45 : decode cX2_readTruth 45 = .ok (.aload_n 0, 1) := by decide +kernel
theorem dX2_readTruth_46 : decode cX2_readTruth 46 = .ok (.getfield 86, 3) := by decide +kernel
theorem dX2_readTruth_49 : decode cX2_readTruth 49 = .ok (.lastore, 1) := by decide +kernel
theorem dX2_readTruth_50 : decode cX2_readTruth 50 = .ok (.aload_n 0, 1) := by decide +kernel
theorem dX2_readTruth_51 : decode cX2_readTruth 51 = .ok (.iconst 1, 1) := by decide +kernel
theorem dX2_readTruth_52 : decode cX2_readTruth 52 = .ok (.bipush 19, 2) := by decide +kernel
theorem dX2_readTruth_54 : decode cX2_readTruth 54 = .ok (.invokevirtual 129, 3) := by decide +kernel
theorem dX2_readTruth_57 : decode cX2_readTruth 57 = .ok (.ifCond .ne 5, 3) := by decide +kernel
theorem dX2_readTruth_60 : decode cX2_readTruth 60 = .ok (.iconst 0, 1) := by decide +kernel
theorem dX2_readTruth_61 : decode cX2_readTruth 61 = .ok (.ireturn, 1) := by decide +kernel
theorem dX2_readTruth_62 : decode cX2_readTruth 62 = .ok (.aload_n 0, 1) := by decide +kernel
theorem dX2_readTruth_63 : decode cX2_readTruth 63 = .ok (.getfield 15, 3) := by decide +kernel
theorem dX2_readTruth_66 : decode cX2_readTruth 66 = .ok (.getfield 123, 3) := by decide +kernel
theorem dX2_readTruth_69 : decode cX2_readTruth 69 = .ok (.aload_n 0, 1) := by decide +kernel
theorem dX2_readTruth_70 : decode cX2_readTruth 70 = .ok (.getfield 15, 3) := by decide +kernel
theorem dX2_readTruth_73 : decode cX2_readTruth 73 = .ok (.getfield 120, 3) := by decide +kernel
theorem dX2_readTruth_76 : decode cX2_readTruth 76 = .ok (.aload_n 0, 1) := by decide +kernel
theorem dX2_readTruth_77 : decode cX2_readTruth 77 = .ok (.getfield 90, 3) := by decide +kernel
theorem dX2_readTruth_80 : decode cX2_readTruth 80 = .ok (.iastore, 1) := by decide +kernel
theorem dX2_readTruth_81 : decode cX2_readTruth 81 = .ok (.aload_n 0, 1) := by decide +kernel
theorem dX2_readTruth_82 : decode cX2_readTruth 82 = .ok (.getfield 15, 3) := by decide +kernel
theorem dX2_readTruth_85 : decode cX2_readTruth 85 = .ok (.dup, 1) := by decide +kernel
theorem dX2_readTruth_86 : decode cX2_readTruth 86 = .ok (.getfield 120, 3) := by decide +kernel
theorem dX2_readTruth_89 : decode cX2_readTruth 89 = .ok (.iconst 1, 1) := by decide +kernel
theorem dX2_readTruth_90 : decode cX2_readTruth 90 = .ok (.iadd, 1) := by decide +kernel
theorem dX2_readTruth_91 : decode cX2_readTruth 91 = .ok (.putfield 120, 3) := by decide +kernel
theorem dX2_readTruth_94 : decode cX2_readTruth 94 = .ok (.aload_n 0, 1) := by decide +kernel
theorem dX2_readTruth_95 : decode cX2_readTruth 95 = .ok (.invokevirtual 133, 3) := by decide +kernel
theorem dX2_readTruth_98 : decode cX2_readTruth 98 = .ok (.ireturn, 1) := by decide +kernel
theorem dX2_readVoter_0 : decode cX2_readVoter 0 = .ok (.aload_n 0, 1) := by decide +kernel
theorem dX2_readVoter_1 : decode cX2_readVoter 1 = .ok (.getfield 15, 3) := by decide +kernel
theorem dX2_readVoter_4 : decode cX2_readVoter 4 = .ok (.getfield 136, 3) := by decide +kernel
theorem dX2_readVoter_7 : decode cX2_readVoter 7 = .ok (.bipush 7, 2) := by decide +kernel
theorem dX2_readVoter_9 : decode cX2_readVoter 9 = .ok (.if_icmp .lt 9, 3) := by decide +kernel
theorem dX2_readVoter_12 : decode cX2_readVoter 12 = .ok (.aload_n 0, 1) := by decide +kernel
theorem dX2_readVoter_13 : decode cX2_readVoter 13 = .ok (.iconst 4, 1) := by decide +kernel
theorem dX2_readVoter_14 : decode cX2_readVoter 14 = .ok (.invokevirtual 60, 3) := by decide +kernel
theorem dX2_readVoter_17 : decode cX2_readVoter 17 = .ok (.ireturn, 1) := by decide +kernel
theorem dX2_readVoter_18 : decode cX2_readVoter 18 = .ok (.aload_n 0, 1) := by decide +kernel
theorem dX2_readVoter_19 : decode cX2_readVoter 19 = .ok (.iconst 1, 1) := by decide +kernel
theorem dX2_readVoter_20 : decode cX2_readVoter 20 = .ok (.invokevirtual 126, 3) := by decide +kernel
theorem dX2_readVoter_23 : decode cX2_readVoter 23 = .ok (.ifCond .ne 5, 3) := by decide +kernel
theorem dX2_readVoter_26 : decode cX2_readVoter 26 = .ok (.iconst 0, 1) := by decide +kernel
theorem dX2_readVoter_27 : decode cX2_readVoter 27 = .ok (.ireturn, 1) := by decide +kernel
theorem dX2_readVoter_28 : decode cX2_readVoter 28 = .ok (.aload_n 0, 1) := by decide +kernel
theorem dX2_readVoter_29 : decode cX2_readVoter 29 = .ok (.getfield 23, 3) := by decide +kernel
theorem dX2_readVoter_32 : decode cX2_readVoter 32 = .ok (.aload_n 0, 1) := by decide +kernel
theorem dX2_readVoter_33 : decode cX2_readVoter 33 = .ok (.getfield 15, 3) := by decide +kernel
theorem dX2_readVoter_36 : decode cX2_readVoter 36 = .ok (.getfield 136, 3) := by decide +kernel
theorem dX2_readVoter_39 : decode cX2_readVoter 39 = .ok (.aload_n 0, 1) := by decide +kernel
theorem dX2_readVoter_40 : decode cX2_readVoter 40 = .ok (.getfield 86, 3) := by decide +kernel
theorem dX2_readVoter_43 : decode cX2_readVoter 43 = .ok (.lastore, 1) := by decide +kernel
theorem dX2_readVoter_44 : decode cX2_readVoter 44 = .ok (.aload_n 0, 1) := by decide +kernel
theorem dX2_readVoter_45 : decode cX2_readVoter 45 = .ok (.bipush 6, 2) := by decide +kernel
theorem dX2_readVoter_47 : decode cX2_readVoter 47 = .ok (.invokevirtual 139, 3) := by decide +kernel
theorem dX2_readVoter_50 : decode cX2_readVoter 50 = .ok (.ifCond .eq 12, 3) := by decide +kernel
theorem dX2_readVoter_53 : decode cX2_readVoter 53 = .ok (.aload_n 0, 1) := by decide +kernel
theorem dX2_readVoter_54 : decode cX2_readVoter 54 = .ok (.iconst 2, 1) := by decide +kernel
theorem dX2_readVoter_55 : decode cX2_readVoter 55 = .ok (.iconst 3, 1) := by decide +kernel
theorem dX2_readVoter_56 : decode cX2_readVoter 56 = .ok (.invokevirtual 129, 3) := by decide +kernel
theorem dX2_readVoter_59 : decode cX2_readVoter 59 = .ok (.ifCond .ne 5, 3) := by decide +kernel
theorem dX2_readVoter_62 : decode cX2_readVoter 62 = .ok (.iconst 0, 1) := by decide +kernel
theorem dX2_readVoter_63 : decode cX2_readVoter 63 = .ok (.ireturn, 1) := by decide +kernel
theorem dX2_readVoter_64 : decode cX2_readVoter 64 = .ok (.aload_n 0, 1) := by decide +kernel
theorem dX2_readVoter_65 : decode cX2_readVoter 65 = .ok (.getfield 15, 3) := by decide +kernel
theorem dX2_readVoter_68 : decode cX2_readVoter 68 = .ok (.getfield 142, 3) := by decide +kernel
theorem dX2_readVoter_71 : decode cX2_readVoter 71 = .ok (.aload_n 0, 1) := by decide +kernel
theorem dX2_readVoter_72 : decode cX2_readVoter 72 = .ok (.getfield 15, 3) := by decide +kernel
theorem dX2_readVoter_75 : decode cX2_readVoter 75 = .ok (.getfield 136, 3) := by decide +kernel
theorem dX2_readVoter_78 : decode cX2_readVoter 78 = .ok (.aaload, 1) := by decide +kernel
theorem dX2_readVoter_79 : decode cX2_readVoter 79 = .ok (.astore_n 1, 1) := by decide +kernel
theorem dX2_readVoter_80 : decode cX2_readVoter 80 = .ok (.aload_n 1, 1) := by decide +kernel
theorem dX2_readVoter_81 : decode cX2_readVoter 81 = .ok (.aload_n 0, 1) := by decide +kernel
theorem dX2_readVoter_82 : decode cX2_readVoter 82 = .ok (.getfield 90, 3) := by decide +kernel
theorem dX2_readVoter_85 : decode cX2_readVoter 85 = .ok (.invokevirtual 146, 3) := by decide +kernel
theorem dX2_readVoter_88 : decode cX2_readVoter 88 = .ok (.iconst 0, 1) := by decide +kernel
theorem dX2_readVoter_89 : decode cX2_readVoter 89 = .ok (.istore_n 2, 1) := by decide +kernel
theorem dX2_readVoter_90 : decode cX2_readVoter 90 = .ok (.iload_n 2, 1) := by decide +kernel
theorem dX2_readVoter_91 : decode cX2_readVoter 91 = .ok (.aload_n 0, 1) := by decide +kernel
theorem dX2_readVoter_92 : decode cX2_readVoter 92 = .ok (.getfield 15, 3) := by decide +kernel
theorem dX2_readVoter_95 : decode cX2_readVoter 95 = .ok (.getfield 120, 3) := by decide +kernel
theorem dX2_readVoter_98 : decode cX2_readVoter 98 = .ok (.if_icmp .ge 75, 3) := by decide +kernel
theorem dX2_readVoter_101 : decode cX2_readVoter 101 = .ok (.iconst 0, 1) := by decide +kernel
theorem dX2_readVoter_102 : decode cX2_readVoter 102 = .ok (.istore_n 3, 1) := by decide +kernel
theorem dX2_readVoter_103 : decode cX2_readVoter 103 = .ok (.iconst 0, 1) := by decide +kernel
theorem dX2_readVoter_104 : decode cX2_readVoter 104 = .ok (.istore 4, 2) := by decide +kernel
theorem dX2_readVoter_106 : decode cX2_readVoter 106 = .ok (.iload 4, 2) := by decide +kernel
theorem dX2_readVoter_108 : decode cX2_readVoter 108 = .ok (.aload_n 1, 1) := by decide +kernel
theorem dX2_readVoter_109 : decode cX2_readVoter 109 = .ok (.getfield 151, 3) := by decide +kernel
theorem dX2_readVoter_112 : decode cX2_readVoter 112 = .ok (.if_icmp .ge 43, 3) := by decide +kernel
theorem dX2_readVoter_115 : decode cX2_readVoter 115 = .ok (.aload_n 0, 1) := by decide +kernel
theorem dX2_readVoter_116 : decode cX2_readVoter 116 = .ok (.iconst 0, 1) := by decide +kernel
theorem dX2_readVoter_117 : decode cX2_readVoter 117 = .ok (.bipush 20, 2) := by decide +kernel
theorem dX2_readVoter_119 : decode cX2_readVoter 119 = .ok (.invokevirtual 129, 3) := by decide +kernel
theorem dX2_readVoter_122 : decode cX2_readVoter 122 = .ok (.ifCond .ne 5, 3) := by decide +kernel
theorem dX2_readVoter_125 : decode cX2_readVoter 125 = .ok (.iconst 0, 1) := by decide +kernel
theorem dX2_readVoter_126 : decode cX2_readVoter 126 = .ok (.ireturn, 1) := by decide +kernel
theorem dX2_readVoter_127 : decode cX2_readVoter 127 = .ok (.aload_n 1, 1) := by decide +kernel
theorem dX2_readVoter_128 : decode cX2_readVoter 128 = .ok (.getfield 154, 3) := by decide +kernel
theorem dX2_readVoter_131 : decode cX2_readVoter 131 = .ok (.iload_n 2, 1) := by decide +kernel
theorem dX2_readVoter_132 : decode cX2_readVoter 132 = .ok (.iconst 3, 1) := by decide +kernel
theorem dX2_readVoter_133 : decode cX2_readVoter 133 = .ok (.imul, 1) := by decide +kernel
theorem dX2_readVoter_134 : decode cX2_readVoter 134 = .ok (.iload 4, 2) := by decide +kernel
theorem dX2_readVoter_136 : decode cX2_readVoter 136 = .ok (.iadd, 1) := by decide +kernel
theorem dX2_readVoter_137 : decode cX2_readVoter 137 = .ok (.aload_n 0, 1) := by decide +kernel
theorem dX2_readVoter_138 : decode cX2_readVoter 138 = .ok (.getfield 90, 3) := by decide +kernel
theorem dX2_readVoter_141 : decode cX2_readVoter 141 = .ok (.iastore, 1) := by decide +kernel
theorem dX2_readVoter_142 : decode cX2_readVoter 142 = .ok (.iload_n 3, 1) := by decide +kernel
theorem dX2_readVoter_143 : decode cX2_readVoter 143 = .ok (.aload_n 0, 1) := by decide +kernel
theorem dX2_readVoter_144 : decode cX2_readVoter 144 = .ok (.getfield 90, 3) := by decide +kernel
theorem dX2_readVoter_147 : decode cX2_readVoter 147 = .ok (.iadd, 1) := by decide +kernel
theorem dX2_readVoter_148 : decode cX2_readVoter 148 = .ok (.istore_n 3, 1) := by decide +kernel
theorem dX2_readVoter_149 : decode cX2_readVoter 149 = .ok (.iinc 4 1, 3) := by decide +kernel
theorem dX2_readVoter_152 : decode cX2_readVoter 152 = .ok (.goto (-46), 3) := by decide +kernel
theorem dX2_readVoter_155 : decode cX2_readVoter 155 = .ok (.iload_n 3, 1) := by decide +kernel
theorem dX2_readVoter_156 : decode cX2_readVoter 156 = .ok (.bipush 20, 2) := by decide +kernel
theorem dX2_readVoter_158 : decode cX2_readVoter 158 = .ok (.if_icmp .eq 9, 3) := by decide +kernel
theorem dX2_readVoter_161 : decode cX2_readVoter 161 = .ok (.aload_n 0, 1) := by decide +kernel
theorem dX2_readVoter_162 : decode cX2_readVoter 162 = .ok (.iconst 2, 1) := by decide +kernel
theorem dX2_readVoter_163 : decode cX2_readVoter 163 = .ok (.invokevirtual 60, 3) := by decide +kernel
theorem dX2_readVoter_166 : decode cX2_readVoter 166 = .ok (.ireturn, 1) := by decide +kernel
theorem dX2_readVoter_167 : decode cX2_readVoter 167 = .ok (.iinc 2 1, 3) := by decide +kernel
theorem dX2_readVoter_170 : decode cX2_readVoter 170 = .ok (.goto (-80), 3) := by decide +kernel
theorem dX2_readVoter_173 : decode cX2_readVoter 173 = .ok (.aload_n 0, 1) := by decide +kernel
theorem dX2_readVoter_174 : decode cX2_readVoter 174 = .ok (.getfield 15, 3) := by decide +kernel
theorem dX2_readVoter_177 : decode cX2_readVoter 177 = .ok (.dup, 1) := by decide +kernel
theorem dX2_readVoter_178 : decode cX2_readVoter 178 = .ok (.getfield 136, 3) := by decide +kernel
theorem dX2_readVoter_181 : decode cX2_readVoter 181 = .ok (.iconst 1, 1) := by decide +kernel
theorem dX2_readVoter_182 : decode cX2_readVoter 182 = .ok (.iadd, 1) := by decide +kernel
theorem dX2_readVoter_183 : decode cX2_readVoter 183 = .ok (.putfield 136, 3) := by decide +kernel
theorem dX2_readVoter_186 : decode cX2_readVoter 186 = .ok (.aload_n 0, 1) := by decide +kernel
theorem dX2_readVoter_187 : decode cX2_readVoter 187 = .ok (.invokevirtual 133, 3) := by decide +kernel
theorem dX2_readVoter_190 : decode cX2_readVoter 190 = .ok (.ireturn, 1) := by decide +kernel
theorem dX2_readWay_0 : decode cX2_readWay 0 = .ok (.aload_n 0, 1) := by decide +kernel
theorem dX2_readWay_1 : decode cX2_readWay 1 = .ok (.iconst 4, 1) := by decide +kernel
theorem dX2_readWay_2 : decode cX2_readWay 2 = .ok (.invokevirtual 126, 3) := by decide +kernel
theorem dX2_readWay_5 : decode cX2_readWay 5 = .ok (.ifCond .ne 5, 3) := by decide +kernel
theorem dX2_readWay_8 : decode cX2_readWay 8 = .ok (.iconst 0, 1) := by decide +kernel
theorem dX2_readWay_9 : decode cX2_readWay 9 = .ok (.ireturn, 1) := by decide +kernel
theorem dX2_readWay_10 : decode cX2_readWay 10 = .ok (.aload_n 0, 1) := by decide +kernel
theorem dX2_readWay_11 : decode cX2_readWay 11 = .ok (.getfield 15, 3) := by decide +kernel
theorem dX2_readWay_14 : decode cX2_readWay 14 = .ok (.getfield 142, 3) := by decide +kernel
theorem dX2_readWay_17 : decode cX2_readWay 17 = .ok (.aload_n 0, 1) := by decide +kernel
theorem dX2_readWay_18 : decode cX2_readWay 18 = .ok (.getfield 166, 3) := by decide +kernel
theorem dX2_readWay_21 : decode cX2_readWay 21 = .ok (.aaload, 1) := by decide +kernel
theorem dX2_readWay_22 : decode cX2_readWay 22 = .ok (.astore_n 1, 1) := by decide +kernel
theorem dX2_readWay_23 : decode cX2_readWay 23 = .ok (.aload_n 0, 1) := by decide +kernel
theorem dX2_readWay_24 : decode cX2_readWay 24 = .ok (.invokevirtual 42, 3) := by decide +kernel
theorem dX2_readWay_27 : decode cX2_readWay 27 = .ok (.aload_n 0, 1) := by decide +kernel
theorem dX2_readWay_28 : decode cX2_readWay 28 = .ok (.getfield 74, 3) := by decide +kernel
theorem dX2_readWay_31 : decode cX2_readWay 31 = .ok (.tableswitch 88 7 10 #[29, 37, 45, 73], 29) := by decide +kernel
theorem dX2_readWay_60 : decode cX2_readWay 60 = .ok (.aload_n 1, 1) := by decide +kernel
theorem dX2_readWay_61 : decode cX2_readWay 61 = .ok (.iconst 0, 1) := by decide +kernel
theorem dX2_readWay_62 : decode cX2_readWay 62 = .ok (.putfield 174, 3) := by decide +kernel
theorem dX2_readWay_65 : decode cX2_readWay 65 = .ok (.goto 60, 3) := by decide +kernel
theorem dX2_readWay_68 : decode cX2_readWay 68 = .ok (.aload_n 1, 1) := by decide +kernel
theorem dX2_readWay_69 : decode cX2_readWay 69 = .ok (.iconst 1, 1) := by decide +kernel
theorem dX2_readWay_70 : decode cX2_readWay 70 = .ok (.putfield 174, 3) := by decide +kernel
theorem dX2_readWay_73 : decode cX2_readWay 73 = .ok (.goto 52, 3) := by decide +kernel
theorem dX2_readWay_76 : decode cX2_readWay 76 = .ok (.aload_n 1, 1) := by decide +kernel
theorem dX2_readWay_77 : decode cX2_readWay 77 = .ok (.iconst 2, 1) := by decide +kernel
theorem dX2_readWay_78 : decode cX2_readWay 78 = .ok (.putfield 174, 3) := by decide +kernel
theorem dX2_readWay_81 : decode cX2_readWay 81 = .ok (.aload_n 0, 1) := by decide +kernel
theorem dX2_readWay_82 : decode cX2_readWay 82 = .ok (.iconst 1, 1) := by decide +kernel
theorem dX2_readWay_83 : decode cX2_readWay 83 = .ok (.bipush 20, 2) := by decide +kernel
theorem dX2_readWay_85 : decode cX2_readWay 85 = .ok (.invokevirtual 129, 3) := by decide +kernel
theorem dX2_readWay_88 : decode cX2_readWay 88 = .ok (.ifCond .ne 5, 3) := by decide +kernel
theorem dX2_readWay_91 : decode cX2_readWay 91 = .ok (.iconst 0, 1) := by decide +kernel
theorem dX2_readWay_92 : decode cX2_readWay 92 = .ok (.ireturn, 1) := by decide +kernel
theorem dX2_readWay_93 : decode cX2_readWay 93 = .ok (.aload_n 1, 1) := by decide +kernel
theorem dX2_readWay_94 : decode cX2_readWay 94 = .ok (.aload_n 0, 1) := by decide +kernel
theorem dX2_readWay_95 : decode cX2_readWay 95 = .ok (.getfield 90, 3) := by decide +kernel
theorem dX2_readWay_98 : decode cX2_readWay 98 = .ok (.putfield 177, 3) := by decide +kernel
theorem dX2_readWay_101 : decode cX2_readWay 101 = .ok (.goto 24, 3) := by decide +kernel
theorem dX2_readWay_104 : decode cX2_readWay 104 = .ok (.aload_n 1, 1) := by decide +kernel
theorem dX2_readWay_105 : decode cX2_readWay 105 = .ok (.iconst 3, 1) := by decide +kernel
theorem dX2_readWay_106 : decode cX2_readWay 106 = .ok (.putfield 174, 3) := by decide +kernel
theorem dX2_readWay_109 : decode cX2_readWay 109 = .ok (.aload_n 0, 1) := by decide +kernel
theorem dX2_readWay_110 : decode cX2_readWay 110 = .ok (.aload_n 1, 1) := by decide +kernel
theorem dX2_readWay_111 : decode cX2_readWay 111 = .ok (.invokevirtual 180, 3) := by decide +kernel
theorem dX2_readWay_114 : decode cX2_readWay 114 = .ok (.ifCond .ne 11, 3) := by decide +kernel
theorem dX2_readWay_117 : decode cX2_readWay 117 = .ok (.iconst 0, 1) := by decide +kernel
theorem dX2_readWay_118 : decode cX2_readWay 118 = .ok (.ireturn, 1) := by decide +kernel
theorem dX2_readWay_119 : decode cX2_readWay 119 = .ok (.aload_n 0, 1) := by decide +kernel
theorem dX2_readWay_120 : decode cX2_readWay 120 = .ok (.iconst 1, 1) := by decide +kernel
theorem dX2_readWay_121 : decode cX2_readWay 121 = .ok (.invokevirtual 60, 3) := by decide +kernel
theorem dX2_readWay_124 : decode cX2_readWay 124 = .ok (.ireturn, 1) := by decide +kernel
theorem dX2_readWay_125 : decode cX2_readWay 125 = .ok (.aload_n 0, 1) := by decide +kernel
theorem dX2_readWay_126 : decode cX2_readWay 126 = .ok (.invokevirtual 133, 3) := by decide +kernel
theorem dX2_readWay_129 : decode cX2_readWay 129 = .ok (.ireturn, 1) := by decide +kernel
theorem dX2_readWeight_0 : decode cX2_readWeight 0 = .ok (.aload_n 0, 1) := by decide +kernel
theorem dX2_readWeight_1 : decode cX2_readWeight 1 = .ok (.iconst 4, 1) := by decide +kernel
theorem dX2_readWeight_2 : decode cX2_readWeight 2 = .ok (.invokevirtual 126, 3) := by decide +kernel
theorem dX2_readWeight_5 : decode cX2_readWeight 5 = .ok (.ifCond .eq 13, 3) := by decide +kernel
theorem dX2_readWeight_8 : decode cX2_readWeight 8 = .ok (.aload_n 0, 1) := by decide +kernel
theorem dX2_readWeight_9 : decode cX2_readWeight 9 = .ok (.iconst 0, 1) := by decide +kernel
theorem dX2_readWeight_10 : decode cX2_readWeight 10 = .ok (.bipush 9, 2) := by decide +kernel
theorem dX2_readWeight_12 : decode cX2_readWeight 12 = .ok (.invokevirtual 129, 3) := by decide +kernel
theorem dX2_readWeight_15 : decode cX2_readWeight 15 = .ok (.ifCond .ne 5, 3) := by decide +kernel
theorem dX2_readWeight_18 : decode cX2_readWeight 18 = .ok (.iconst 0, 1) := by decide +kernel
theorem dX2_readWeight_19 : decode cX2_readWeight 19 = .ok (.ireturn, 1) := by decide +kernel
theorem dX2_readWeight_20 : decode cX2_readWeight 20 = .ok (.aload_n 0, 1) := by decide +kernel
theorem dX2_readWeight_21 : decode cX2_readWeight 21 = .ok (.getfield 15, 3) := by decide +kernel
theorem dX2_readWeight_24 : decode cX2_readWeight 24 = .ok (.getfield 142, 3) := by decide +kernel
theorem dX2_readWeight_27 : decode cX2_readWeight 27 = .ok (.aload_n 0, 1) := by decide +kernel
theorem dX2_readWeight_28 : decode cX2_readWeight 28 = .ok (.getfield 166, 3) := by decide +kernel
theorem dX2_readWeight_31 : decode cX2_readWeight 31 = .ok (.aaload, 1) := by decide +kernel
theorem dX2_readWeight_32 : decode cX2_readWeight 32 = .ok (.aload_n 0, 1) := by decide +kernel
theorem dX2_readWeight_33 : decode cX2_readWeight 33 = .ok (.getfield 90, 3) := by decide +kernel
theorem dX2_readWeight_36 : decode cX2_readWeight 36 = .ok (.putfield 190, 3) := by decide +kernel
theorem dX2_readWeight_39 : decode cX2_readWeight 39 = .ok (.aload_n 0, 1) := by decide +kernel
theorem dX2_readWeight_40 : decode cX2_readWeight 40 = .ok (.invokevirtual 133, 3) := by decide +kernel
theorem dX2_readWeight_43 : decode cX2_readWeight 43 = .ok (.ireturn, 1) := by decide +kernel
theorem dX2_someKeyword_0 : decode cX2_someKeyword 0 = .ok (.aload_n 0, 1) := by decide +kernel
theorem dX2_someKeyword_1 : decode cX2_someKeyword 1 = .ok (.invokevirtual 42, 3) := by decide +kernel
theorem dX2_someKeyword_4 : decode cX2_someKeyword 4 = .ok (.aload_n 0, 1) := by decide +kernel
theorem dX2_someKeyword_5 : decode cX2_someKeyword 5 = .ok (.getfield 74, 3) := by decide +kernel
theorem dX2_someKeyword_8 : decode cX2_someKeyword 8 = .ok (.iload_n 1, 1) := by decide +kernel
theorem dX2_someKeyword_9 : decode cX2_someKeyword 9 = .ok (.if_icmp .eq 11, 3) := by decide +kernel
theorem dX2_someKeyword_12 : decode cX2_someKeyword 12 = .ok (.aload_n 0, 1) := by decide +kernel
theorem dX2_someKeyword_13 : decode cX2_someKeyword 13 = .ok (.iconst 1, 1) := by decide +kernel
theorem dX2_someKeyword_14 : decode cX2_someKeyword 14 = .ok (.invokevirtual 60, 3) := by decide +kernel
theorem dX2_someKeyword_17 : decode cX2_someKeyword 17 = .ok (.ifCond .eq 7, 3) := by decide +kernel
theorem dX2_someKeyword_20 : decode cX2_someKeyword 20 = .ok (.iconst 1, 1) := by decide +kernel
theorem dX2_someKeyword_21 : decode cX2_someKeyword 21 = .ok (.goto 4, 3) := by decide +kernel
theorem dX2_someKeyword_24 : decode cX2_someKeyword 24 = .ok (.iconst 0, 1) := by decide +kernel
theorem dX2_someKeyword_25 : decode cX2_someKeyword 25 = .ok (.ireturn, 1) := by decide +kernel
theorem dX2_someName_0 : decode cX2_someName 0 = .ok (.aload_n 0, 1) := by decide +kernel
theorem dX2_someName_1 : decode cX2_someName 1 = .ok (.invokevirtual 42, 3) := by decide +kernel
theorem dX2_someName_4 : decode cX2_someName 4 = .ok (.aload_n 0, 1) := by decide +kernel
theorem dX2_someName_5 : decode cX2_someName 5 = .ok (.iload_n 1, 1) := by decide +kernel
theorem dX2_someName_6 : decode cX2_someName 6 = .ok (.invokevirtual 187, 3) := by decide +kernel
theorem dX2_someName_9 : decode cX2_someName 9 = .ok (.ireturn, 1) := by decide +kernel
theorem dX2_someNumber_0 : decode cX2_someNumber 0 = .ok (.aload_n 0, 1) := by decide +kernel
theorem dX2_someNumber_1 : decode cX2_someNumber 1 = .ok (.invokevirtual 42, 3) := by decide +kernel
theorem dX2_someNumber_4 : decode cX2_someNumber 4 = .ok (.aload_n 0, 1) := by decide +kernel
theorem dX2_someNumber_5 : decode cX2_someNumber 5 = .ok (.getfield 45, 3) := by decide +kernel
theorem dX2_someNumber_8 : decode cX2_someNumber 8 = .ok (.iconst 1, 1) := by decide +kernel
theorem dX2_someNumber_9 : decode cX2_someNumber 9 = .ok (.if_icmp .eq 9, 3) := by decide +kernel
theorem dX2_someNumber_12 : decode cX2_someNumber 12 = .ok (.aload_n 0, 1) := by decide +kernel
theorem dX2_someNumber_13 : decode cX2_someNumber 13 = .ok (.iconst 1, 1) := by decide +kernel
theorem dX2_someNumber_14 : decode cX2_someNumber 14 = .ok (.invokevirtual 60, 3) := by decide +kernel
theorem dX2_someNumber_17 : decode cX2_someNumber 17 = .ok (.ireturn, 1) := by decide +kernel
theorem dX2_someNumber_18 : decode cX2_someNumber 18 = .ok (.aload_n 0, 1) := by decide +kernel
theorem dX2_someNumber_19 : decode cX2_someNumber 19 = .ok (.getfield 90, 3) := by decide +kernel
theorem dX2_someNumber_22 : decode cX2_someNumber 22 = .ok (.iload_n 1, 1) := by decide +kernel
theorem dX2_someNumber_23 : decode cX2_someNumber 23 = .ok (.if_icmp .lt 11, 3) := by decide +kernel
theorem dX2_someNumber_26 : decode cX2_someNumber 26 = .ok (.aload_n 0, 1) := by decide +kernel
theorem dX2_someNumber_27 : decode cX2_someNumber 27 = .ok (.getfield 90, 3) := by decide +kernel
theorem dX2_someNumber_30 : decode cX2_someNumber 30 = .ok (.iload_n 2, 1) := by decide +kernel
theorem dX2_someNumber_31 : decode cX2_someNumber 31 = .ok (.if_icmp .le 11, 3) := by decide +kernel
theorem dX2_someNumber_34 : decode cX2_someNumber 34 = .ok (.aload_n 0, 1) := by decide +kernel
theorem dX2_someNumber_35 : decode cX2_someNumber 35 = .ok (.iconst 2, 1) := by decide +kernel
theorem dX2_someNumber_36 : decode cX2_someNumber 36 = .ok (.invokevirtual 60, 3) := by decide +kernel
theorem dX2_someNumber_39 : decode cX2_someNumber 39 = .ok (.ifCond .eq 7, 3) := by decide +kernel
theorem dX2_someNumber_42 : decode cX2_someNumber 42 = .ok (.iconst 1, 1) := by decide +kernel
theorem dX2_someNumber_43 : decode cX2_someNumber 43 = .ok (.goto 4, 3) := by decide +kernel
theorem dX2_someNumber_46 : decode cX2_someNumber 46 = .ok (.iconst 0, 1) := by decide +kernel
theorem dX2_someNumber_47 : decode cX2_someNumber 47 = .ok (.ireturn, 1) := by decide +kernel
theorem dX2_stop_0 : decode cX2_stop 0 = .ok (.aload_n 0, 1) := by decide +kernel
theorem dX2_stop_1 : decode cX2_stop 1 = .ok (.invokevirtual 42, 3) := by decide +kernel
theorem dX2_stop_4 : decode cX2_stop 4 = .ok (.aload_n 0, 1) := by decide +kernel
theorem dX2_stop_5 : decode cX2_stop 5 = .ok (.getfield 45, 3) := by decide +kernel
theorem dX2_stop_8 : decode cX2_stop 8 = .ok (.iconst 2, 1) := by decide +kernel
theorem dX2_stop_9 : decode cX2_stop 9 = .ok (.if_icmp .eq 11, 3) := by decide +kernel
theorem dX2_stop_12 : decode cX2_stop 12 = .ok (.aload_n 0, 1) := by decide +kernel
theorem dX2_stop_13 : decode cX2_stop 13 = .ok (.iconst 1, 1) := by decide +kernel
theorem dX2_stop_14 : decode cX2_stop 14 = .ok (.invokevirtual 60, 3) := by decide +kernel
theorem dX2_stop_17 : decode cX2_stop 17 = .ok (.ifCond .eq 7, 3) := by decide +kernel
theorem dX2_stop_20 : decode cX2_stop 20 = .ok (.iconst 1, 1) := by decide +kernel
theorem dX2_stop_21 : decode cX2_stop 21 = .ok (.goto 4, 3) := by decide +kernel
theorem dX2_stop_24 : decode cX2_stop 24 = .ok (.iconst 0, 1) := by decide +kernel
theorem dX2_stop_25 : decode cX2_stop 25 = .ok (.ireturn, 1) := by decide +kernel
theorem dX2_truthsStand_0 : decode cX2_truthsStand 0 = .ok (.iconst 0, 1) := by decide +kernel
theorem dX2_truthsStand_1 : decode cX2_truthsStand 1 = .ok (.istore_n 1, 1) := by decide +kernel
theorem dX2_truthsStand_2 : decode cX2_truthsStand 2 = .ok (.iconst 0, 1) := by decide +kernel
theorem dX2_truthsStand_3 : decode cX2_truthsStand 3 = .ok (.istore_n 2, 1) := by decide +kernel
theorem dX2_truthsStand_4 : decode cX2_truthsStand 4 = .ok (.iload_n 2, 1) := by decide +kernel
theorem dX2_truthsStand_5 : decode cX2_truthsStand 5 = .ok (.aload_n 0, 1) := by decide +kernel
theorem dX2_truthsStand_6 : decode cX2_truthsStand 6 = .ok (.getfield 15, 3) := by decide +kernel
theorem dX2_truthsStand_9 : decode cX2_truthsStand 9 = .ok (.getfield 120, 3) := by decide +kernel
theorem dX2_truthsStand_12 : decode cX2_truthsStand 12 = .ok (.if_icmp .ge 21, 3) := by decide +kernel
theorem dX2_truthsStand_15 : decode cX2_truthsStand 15 = .ok (.iload_n 1, 1) := by decide +kernel
theorem dX2_truthsStand_16 : decode cX2_truthsStand 16 = .ok (.aload_n 0, 1) := by decide +kernel
theorem dX2_truthsStand_17 : decode cX2_truthsStand 17 = .ok (.getfield 15, 3) := by decide +kernel
theorem dX2_truthsStand_20 : decode cX2_truthsStand 20 = .ok (.getfield 123, 3) := by decide +kernel
theorem dX2_truthsStand_23 : decode cX2_truthsStand 23 = .ok (.iload_n 2, 1) := by decide +kernel
theorem dX2_truthsStand_24 : decode cX2_truthsStand 24 = .ok (.iaload, 1) := by decide +kernel
theorem dX2_truthsStand_25 : decode cX2_truthsStand 25 = .ok (.iadd, 1) := by decide +kernel
theorem dX2_truthsStand_26 : decode cX2_truthsStand 26 = .ok (.istore_n 1, 1) := by decide +kernel
theorem dX2_truthsStand_27 : decode cX2_truthsStand 27 = .ok (.iinc 2 1, 3) := by decide +kernel
theorem dX2_truthsStand_30 : decode cX2_truthsStand 30 = .ok (.goto (-26), 3) := by decide +kernel
theorem dX2_truthsStand_33 : decode cX2_truthsStand 33 = .ok (.aload_n 0, 1) := by decide +kernel
theorem dX2_truthsStand_34 : decode cX2_truthsStand 34 = .ok (.getfield 15, 3) := by decide +kernel
theorem dX2_truthsStand_37 : decode cX2_truthsStand 37 = .ok (.getfield 120, 3) := by decide +kernel
theorem dX2_truthsStand_40 : decode cX2_truthsStand 40 = .ok (.iconst 2, 1) := by decide +kernel
theorem dX2_truthsStand_41 : decode cX2_truthsStand 41 = .ok (.if_icmp .lt 13, 3) := by decide +kernel
theorem dX2_truthsStand_44 : decode cX2_truthsStand 44 = .ok (.iload_n 1, 1) := by decide +kernel
theorem dX2_truthsStand_45 : decode cX2_truthsStand 45 = .ok (.bipush 20, 2) := by decide +kernel
theorem dX2_truthsStand_47 : decode cX2_truthsStand 47 = .ok (.if_icmp .ne 7, 3) := by decide +kernel
theorem dX2_truthsStand_50 : decode cX2_truthsStand 50 = .ok (.iconst 1, 1) := by decide +kernel
theorem dX2_truthsStand_51 : decode cX2_truthsStand 51 = .ok (.goto 4, 3) := by decide +kernel
theorem dX2_truthsStand_54 : decode cX2_truthsStand 54 = .ok (.iconst 0, 1) := by decide +kernel
theorem dX2_truthsStand_55 : decode cX2_truthsStand 55 = .ok (.ireturn, 1) := by decide +kernel
theorem dX3_addLosing_0 : decode cX3_addLosing 0 = .ok (.aload_n 0, 1) := by decide +kernel
theorem dX3_addLosing_1 : decode cX3_addLosing 1 = .ok (.getfield 9, 3) := by decide +kernel
theorem dX3_addLosing_4 : decode cX3_addLosing 4 = .ok (.iload_n 1, 1) := by decide +kernel
theorem dX3_addLosing_5 : decode cX3_addLosing 5 = .ok (.aload_n 0, 1) := by decide +kernel
theorem dX3_addLosing_6 : decode cX3_addLosing 6 = .ok (.iload_n 2, 1) := by decide +kernel
theorem dX3_addLosing_7 : decode cX3_addLosing 7 = .ok (.invokevirtual 107, 3) := by decide +kernel
theorem dX3_addLosing_10 : decode cX3_addLosing 10 = .ok (.invokevirtual 91, 3) := by decide +kernel
theorem dX3_addLosing_13 : decode cX3_addLosing 13 = .ok (.istore_n 3, 1) := by decide +kernel
theorem dX3_addLosing_14 : decode cX3_addLosing 14 = .ok (.aload_n 0, 1) := by decide +kernel
theorem dX3_addLosing_15 : decode cX3_addLosing 15 = .ok (.getfield 15, 3) := by decide +kernel
theorem dX3_addLosing_18 : decode cX3_addLosing 18 = .ok (.getfield 111, 3) := by decide +kernel
theorem dX3_addLosing_21 : decode cX3_addLosing 21 = .ok (.iload_n 1, 1) := by decide +kernel
theorem dX3_addLosing_22 : decode cX3_addLosing 22 = .ok (.aaload, 1) := by decide +kernel
theorem dX3_addLosing_23 : decode cX3_addLosing 23 = .ok (.getfield 115, 3) := by decide +kernel
theorem dX3_addLosing_26 : decode cX3_addLosing 26 = .ok (.getfield 121, 3) := by decide +kernel
theorem dX3_addLosing_29 : decode cX3_addLosing 29 = .ok (.astore 4, 2) := by decide +kernel
theorem dX3_addLosing_31 : decode cX3_addLosing 31 = .ok (.iconst 0, 1) := by decide +kernel
theorem dX3_addLosing_32 : decode cX3_addLosing 32 = .ok (.istore 5, 2) := by decide +kernel
theorem dX3_addLosing_34 : decode cX3_addLosing 34 = .ok (.iload 5, 2) := by decide +kernel
theorem dX3_addLosing_36 : decode cX3_addLosing 36 = .ok (.iconst 3, 1) := by decide +kernel
theorem dX3_addLosing_37 : decode cX3_addLosing 37 = .ok (.if_icmp .ge 43, 3) := by decide +kernel
theorem dX3_addLosing_40 : decode cX3_addLosing 40 = .ok (.aload_n 0, 1) := by decide +kernel
theorem dX3_addLosing_41 : decode cX3_addLosing 41 = .ok (.getfield 19, 3) := by decide +kernel
theorem dX3_addLosing_44 : decode cX3_addLosing 44 = .ok (.iload_n 2, 1) := by decide +kernel
theorem dX3_addLosing_45 : decode cX3_addLosing 45 = .ok (.iconst 3, 1) := by decide +kernel
theorem dX3_addLosing_46 : decode cX3_addLosing 46 = .ok (.imul, 1) := by decide +kernel
theorem dX3_addLosing_47 : decode cX3_addLosing 47 = .ok (.iload 5, 2) := by decide +kernel
theorem dX3_addLosing_49 : decode cX3_addLosing 49 = .ok (.iadd, 1) := by decide +kernel
theorem dX3_addLosing_50 : decode cX3_addLosing 50 = .ok (.dup2, 1) := by decide +kernel
theorem dX3_addLosing_51 : decode cX3_addLosing 51 = .ok (.laload, 1) := by decide +kernel
theorem dX3_addLosing_52 : decode cX3_addLosing 52 = .ok (.aload_n 0, 1) := by decide +kernel
theorem dX3_addLosing_53 : decode cX3_addLosing 53 = .ok (.getfield 9, 3) := by decide +kernel
theorem dX3_addLosing_56 : decode cX3_addLosing 56 = .ok (.iload 5, 2) := by decide +kernel
theorem dX3_addLosing_58 : decode cX3_addLosing 58 = .ok (.invokevirtual 84, 3) := by decide +kernel
theorem dX3_addLosing_61 : decode cX3_addLosing 61 = .ok (.aload 4, 2) := by decide +kernel
theorem dX3_addLosing_63 : decode cX3_addLosing 63 = .ok (.iload 5, 2) := by decide +kernel
theorem dX3_addLosing_65 : decode cX3_addLosing 65 = .ok (.iconst 3, 1) := by decide +kernel
theorem dX3_addLosing_66 : decode cX3_addLosing 66 = .ok (.imul, 1) := by decide +kernel
theorem dX3_addLosing_67 : decode cX3_addLosing 67 = .ok (.iload_n 3, 1) := by decide +kernel
theorem dX3_addLosing_68 : decode cX3_addLosing 68 = .ok (.iadd, 1) := by decide +kernel
theorem dX3_addLosing_69 : decode cX3_addLosing 69 = .ok (.iaload, 1) := by decide +kernel
theorem dX3_addLosing_70 : decode cX3_addLosing 70 = .ok (.i2l, 1) := by decide +kernel
theorem dX3_addLosing_71 : decode cX3_addLosing 71 = .ok (.lmul, 1) := by decide +kernel
theorem dX3_addLosing_72 : decode cX3_addLosing 72 = .ok (.ladd, 1) := by decide +kernel
theorem dX3_addLosing_73 : decode cX3_addLosing 73 = .ok (.lastore, 1) := by decide +kernel
theorem dX3_addLosing_74 : decode cX3_addLosing 74 = .ok (.iinc 5 1, 3) := by decide +kernel
theorem dX3_addLosing_77 : decode cX3_addLosing 77 = .ok (.goto (-43), 3) := by decide +kernel
theorem dX3_addLosing_80 : decode cX3_addLosing 80 = .ok (.return_, 1) := by decide +kernel
theorem dX3_areNoted_0 : decode cX3_areNoted 0 = .ok (.iconst 0, 1) := by decide +kernel
theorem dX3_areNoted_1 : decode cX3_areNoted 1 = .ok (.istore_n 2, 1) := by decide +kernel
theorem dX3_areNoted_2 : decode cX3_areNoted 2 = .ok (.iload_n 2, 1) := by decide +kernel
theorem dX3_areNoted_3 : decode cX3_areNoted 3 = .ok (.aload_n 0, 1) := by decide +kernel
theorem dX3_areNoted_4 : decode cX3_areNoted 4 = .ok (.getfield 15, 3) := by decide +kernel
theorem dX3_areNoted_7 : decode cX3_areNoted 7 = .ok (.getfield 111, 3) := by decide +kernel
theorem dX3_areNoted_10 : decode cX3_areNoted 10 = .ok (.iload_n 1, 1) := by decide +kernel
theorem dX3_areNoted_11 : decode cX3_areNoted 11 = .ok (.aaload, 1) := by decide +kernel
theorem dX3_areNoted_12 : decode cX3_areNoted 12 = .ok (.getfield 143, 3) := by decide +kernel
theorem dX3_areNoted_15 : decode cX3_areNoted 15 = .ok (.if_icmp .ge 60, 3) := by decide +kernel
theorem dX3_areNoted_18 : decode cX3_areNoted 18 = .ok (.aload_n 0, 1) := by decide +kernel
theorem dX3_areNoted_19 : decode cX3_areNoted 19 = .ok (.getfield 29, 3) := by decide +kernel
theorem dX3_areNoted_22 : decode cX3_areNoted 22 = .ok (.iload_n 1, 1) := by decide +kernel
theorem dX3_areNoted_23 : decode cX3_areNoted 23 = .ok (.iconst 3, 1) := by decide +kernel
theorem dX3_areNoted_24 : decode cX3_areNoted 24 = .ok (.imul, 1) := by decide +kernel
theorem dX3_areNoted_25 : decode cX3_areNoted 25 = .ok (.iload_n 2, 1) := by decide +kernel
theorem dX3_areNoted_26 : decode cX3_areNoted 26 = .ok (.iadd, 1) := by decide +kernel
theorem dX3_areNoted_27 : decode cX3_areNoted 27 = .ok (.iaload, 1) := by decide +kernel
theorem dX3_areNoted_28 : decode cX3_areNoted 28 = .ok (.istore_n 3, 1) := by decide +kernel
theorem dX3_areNoted_29 : decode cX3_areNoted 29 = .ok (.aload_n 0, 1) := by decide +kernel
theorem dX3_areNoted_30 : decode cX3_areNoted 30 = .ok (.getfield 15, 3) := by decide +kernel
theorem dX3_areNoted_33 : decode cX3_areNoted 33 = .ok (.iload_n 3, 1) := by decide +kernel
theorem dX3_areNoted_34 : decode cX3_areNoted 34 = .ok (.invokevirtual 129, 3) := by decide +kernel
theorem dX3_areNoted_37 : decode cX3_areNoted 37 = .ok (.ifCond .eq 7, 3) := by decide +kernel
theorem dX3_areNoted_40 : decode cX3_areNoted 40 = .ok (.iload_n 3, 1) := by decide +kernel
theorem dX3_areNoted_41 : decode cX3_areNoted 41 = .ok (.goto 10, 3) := by decide +kernel
theorem dX3_areNoted_44 : decode cX3_areNoted 44 = .ok (.aload_n 0, 1) := by decide +kernel
theorem dX3_areNoted_45 : decode cX3_areNoted 45 = .ok (.getfield 15, 3) := by decide +kernel
theorem dX3_areNoted_48 : decode cX3_areNoted 48 = .ok (.getfield 95, 3) := by decide +kernel
theorem dX3_areNoted_51 : decode cX3_areNoted 51 = .ok (.istore 4, 2) := by decide +kernel
theorem dX3_areNoted_53 : decode cX3_areNoted 53 = .ok (.aload_n 0, 1) := by decide +kernel
theorem dX3_areNoted_54 : decode cX3_areNoted 54 = .ok (.getfield 54, 3) := by decide +kernel
theorem dX3_areNoted_57 : decode cX3_areNoted 57 = .ok (.iload_n 2, 1) := by decide +kernel
theorem dX3_areNoted_58 : decode cX3_areNoted 58 = .ok (.iaload, 1) := by decide +kernel
theorem dX3_areNoted_59 : decode cX3_areNoted 59 = .ok (.iload 4, 2) := by decide +kernel
theorem dX3_areNoted_61 : decode cX3_areNoted 61 = .ok (.ishr, 1) := by decide +kernel
theorem dX3_areNoted_62 : decode cX3_areNoted 62 = .ok (.iconst 1, 1) := by decide +kernel
theorem dX3_areNoted_63 : decode cX3_areNoted 63 = .ok (.iand, 1) := by decide +kernel
theorem dX3_areNoted_64 : decode cX3_areNoted 64 = .ok (.ifCond .ne 5, 3) := by decide +kernel
theorem dX3_areNoted_67 : decode cX3_areNoted 67 = .ok (.iconst 0, 1) := by decide +kernel
theorem dX3_areNoted_68 : decode cX3_areNoted 68 = .ok (.ireturn, 1) := by decide +kernel
theorem dX3_areNoted_69 : decode cX3_areNoted 69 = .ok (.iinc 2 1, 3) := by decide +kernel
theorem dX3_areNoted_72 : decode cX3_areNoted 72 = .ok (.goto (-70), 3) := by decide +kernel
theorem dX3_areNoted_75 : decode cX3_areNoted 75 = .ok (.iconst 1, 1) := by decide +kernel
theorem dX3_areNoted_76 : decode cX3_areNoted 76 = .ok (.ireturn, 1) := by decide +kernel
theorem dX3_best_0 : decode cX3_best 0 = .ok (.aload_n 0, 1) := by decide +kernel
theorem dX3_best_1 : decode cX3_best 1 = .ok (.getfield 15, 3) := by decide +kernel
theorem dX3_best_4 : decode cX3_best 4 = .ok (.iload_n 3, 1) := by decide +kernel
theorem dX3_best_5 : decode cX3_best 5 = .ok (.invokevirtual 129, 3) := by decide +kernel
theorem dX3_best_8 : decode cX3_best 8 = .ok (.ifCond .eq 7, 3) := by decide +kernel
theorem dX3_best_11 : decode cX3_best 11 = .ok (.iload_n 3, 1) := by decide +kernel
theorem dX3_best_12 : decode cX3_best 12 = .ok (.goto 10, 3) := by decide +kernel
theorem dX3_best_15 : decode cX3_best 15 = .ok (.aload_n 0, 1) := by decide +kernel
theorem dX3_best_16 : decode cX3_best 16 = .ok (.getfield 15, 3) := by decide +kernel
theorem dX3_best_19 : decode cX3_best 19 = .ok (.getfield 95, 3) := by decide +kernel
theorem dX3_best_22 : decode cX3_best 22 = .ok (.istore 4, 2) := by decide +kernel
theorem dX3_best_24 : decode cX3_best 24 = .ok (.iload 4, 2) := by decide +kernel
theorem dX3_best_26 : decode cX3_best 26 = .ok (.istore 5, 2) := by decide +kernel
theorem dX3_best_28 : decode cX3_best 28 = .ok (.aload_n 0, 1) := by decide +kernel
theorem dX3_best_29 : decode cX3_best 29 = .ok (.iload_n 1, 1) := by decide +kernel
theorem dX3_best_30 : decode cX3_best 30 = .ok (.iload_n 2, 1) := by decide +kernel
theorem dX3_best_31 : decode cX3_best 31 = .ok (.iload 4, 2) := by decide +kernel
theorem dX3_best_33 : decode cX3_best 33 = .ok (.invokevirtual 132, 3) := by decide +kernel
theorem dX3_best_36 : decode cX3_best 36 = .ok (.lstore 6, 2) := by decide +kernel
theorem dX3_best_38 : decode cX3_best 38 = .ok (.iconst 0, 1) := by decide +kernel
theorem dX3_best_39 : decode cX3_best 39 = .ok (.istore 8, 2) := by decide +kernel
theorem dX3_best_41 : decode cX3_best 41 = .ok (.iload 8, 2) := by decide +kernel
theorem dX3_best_43 : decode cX3_best 43 = .ok (.aload_n 0, 1) := by decide +kernel
theorem dX3_best_44 : decode cX3_best 44 = .ok (.getfield 15, 3) := by decide +kernel
theorem dX3_best_47 : decode cX3_best 47 = .ok (.getfield 95, 3) := by decide +kernel
theorem dX3_best_50 : decode cX3_best 50 = .ok (.if_icmp .gt 35, 3) := by decide +kernel
theorem dX3_best_53 : decode cX3_best 53 = .ok (.aload_n 0, 1) := by decide +kernel
theorem dX3_best_54 : decode cX3_best 54 = .ok (.iload_n 1, 1) := by decide +kernel
theorem dX3_best_55 : decode cX3_best 55 = .ok (.iload_n 2, 1) := by decide +kernel
theorem dX3_best_56 : decode cX3_best 56 = .ok (.iload 8, 2) := by decide +kernel
theorem dX3_best_58 : decode cX3_best 58 = .ok (.invokevirtual 132, 3) := by decide +kernel
theorem dX3_best_61 : decode cX3_best 61 = .ok (.lstore 9, 2) := by decide +kernel
theorem dX3_best_63 : decode cX3_best 63 = .ok (.lload 9, 2) := by decide +kernel
theorem dX3_best_65 : decode cX3_best 65 = .ok (.lload 6, 2) := by decide +kernel
theorem dX3_best_67 : decode cX3_best 67 = .ok (.lcmp, 1) := by decide +kernel
theorem dX3_best_68 : decode cX3_best 68 = .ok (.ifCond .ge 11, 3) := by decide +kernel
theorem dX3_best_71 : decode cX3_best 71 = .ok (.lload 9, 2) := by decide +kernel
theorem dX3_best_73 : decode cX3_best 73 = .ok (.lstore 6, 2) := by decide +kernel
theorem dX3_best_75 : decode cX3_best 75 = .ok (.iload 8, 2) := by decide +kernel
theorem dX3_best_77 : decode cX3_best 77 = .ok (.istore 5, 2) := by decide +kernel
theorem dX3_best_79 : decode cX3_best 79 = .ok (.iinc 8 1, 3) := by decide +kernel
theorem dX3_best_82 : decode cX3_best 82 = .ok (.goto (-41), 3) := by decide +kernel
theorem dX3_best_85 : decode cX3_best 85 = .ok (.aload_n 0, 1) := by decide +kernel
theorem dX3_best_86 : decode cX3_best 86 = .ok (.iload 5, 2) := by decide +kernel
theorem dX3_best_88 : decode cX3_best 88 = .ok (.invokevirtual 107, 3) := by decide +kernel
theorem dX3_best_91 : decode cX3_best 91 = .ok (.ireturn, 1) := by decide +kernel
theorem dX3_changesInRound_0 : decode cX3_changesInRound 0 = .ok (.iconst 0, 1) := by decide +kernel
theorem dX3_changesInRound_1 : decode cX3_changesInRound 1 = .ok (.istore_n 2, 1) := by decide +kernel
theorem dX3_changesInRound_2 : decode cX3_changesInRound 2 = .ok (.iconst 0, 1) := by decide +kernel
theorem dX3_changesInRound_3 : decode cX3_changesInRound 3 = .ok (.istore_n 3, 1) := by decide +kernel
theorem dX3_changesInRound_4 : decode cX3_changesInRound 4 = .ok (.iload_n 3, 1) := by decide +kernel
theorem dX3_changesInRound_5 : decode cX3_changesInRound 5 = .ok (.aload_n 1, 1) := by decide +kernel
theorem dX3_changesInRound_6 : decode cX3_changesInRound 6 = .ok (.getfield 136, 3) := by decide +kernel
theorem dX3_changesInRound_9 : decode cX3_changesInRound 9 = .ok (.if_icmp .ge 99, 3) := by decide +kernel
theorem dX3_changesInRound_12 : decode cX3_changesInRound 12 = .ok (.aload_n 0, 1) := by decide +kernel
theorem dX3_changesInRound_13 : decode cX3_changesInRound 13 = .ok (.aload_n 1, 1) := by decide +kernel
theorem dX3_changesInRound_14 : decode cX3_changesInRound 14 = .ok (.aload_n 0, 1) := by decide +kernel
theorem dX3_changesInRound_15 : decode cX3_changesInRound 15 = .ok (.getfield 29, 3) := by decide +kernel
theorem dX3_changesInRound_18 : decode cX3_changesInRound 18 = .ok (.iload_n 3, 1) := by decide +kernel
theorem dX3_changesInRound_19 : decode cX3_changesInRound 19 = .ok (.invokevirtual 139, 3) := by decide +kernel
theorem dX3_changesInRound_22 : decode cX3_changesInRound 22 = .ok (.iconst 0, 1) := by decide +kernel
theorem dX3_changesInRound_23 : decode cX3_changesInRound 23 = .ok (.istore 4, 2) := by decide +kernel
theorem dX3_changesInRound_25 : decode cX3_changesInRound 25 = .ok (.iload 4, 2) := by decide +kernel
theorem dX3_changesInRound_27 : decode cX3_changesInRound 27 = .ok (.aload_n 1, 1) := by decide +kernel
theorem dX3_changesInRound_28 : decode cX3_changesInRound 28 = .ok (.getfield 111, 3) := by decide +kernel
theorem dX3_changesInRound_31 : decode cX3_changesInRound 31 = .ok (.iload_n 3, 1) := by decide +kernel
theorem dX3_changesInRound_32 : decode cX3_changesInRound 32 = .ok (.aaload, 1) := by decide +kernel
theorem dX3_changesInRound_33 : decode cX3_changesInRound 33 = .ok (.getfield 143, 3) := by decide +kernel
theorem dX3_changesInRound_36 : decode cX3_changesInRound 36 = .ok (.if_icmp .ge 66, 3) := by decide +kernel
theorem dX3_changesInRound_39 : decode cX3_changesInRound 39 = .ok (.aload_n 0, 1) := by decide +kernel
theorem dX3_changesInRound_40 : decode cX3_changesInRound 40 = .ok (.getfield 29, 3) := by decide +kernel
theorem dX3_changesInRound_43 : decode cX3_changesInRound 43 = .ok (.iload_n 3, 1) := by decide +kernel
theorem dX3_changesInRound_44 : decode cX3_changesInRound 44 = .ok (.iconst 3, 1) := by decide +kernel
theorem dX3_changesInRound_45 : decode cX3_changesInRound 45 = .ok (.imul, 1) := by decide +kernel
theorem dX3_changesInRound_46 : decode cX3_changesInRound 46 = .ok (.iload 4, 2) := by decide +kernel
theorem dX3_changesInRound_48 : decode cX3_changesInRound 48 = .ok (.iadd, 1) := by decide +kernel
theorem dX3_changesInRound_49 : decode cX3_changesInRound 49 = .ok (.iaload, 1) := by decide +kernel
theorem dX3_changesInRound_50 : decode cX3_changesInRound 50 = .ok (.istore 5, 2) := by decide +kernel
theorem dX3_changesInRound_52 : decode cX3_changesInRound 52 = .ok (.aload_n 0, 1) := by decide +kernel
theorem dX3_changesInRound_53 : decode cX3_changesInRound 53 = .ok (.getfield 29, 3) := by decide +kernel
theorem dX3_changesInRound_56 : decode cX3_changesInRound 56 = .ok (.iload_n 3, 1) := by decide +kernel
theorem dX3_changesInRound_57 : decode cX3_changesInRound 57 = .ok (.iconst 3, 1) := by decide +kernel
theorem dX3_changesInRound_58 : decode cX3_changesInRound 58 = .ok (.imul, 1) := by decide +kernel
theorem dX3_changesInRound_59 : decode cX3_changesInRound 59 = .ok (.iload 4, 2) := by decide +kernel
theorem dX3_changesInRound_61 : decode cX3_changesInRound 61 = .ok (.iadd, 1) := by decide +kernel
theorem dX3_changesInRound_62 : decode cX3_changesInRound 62 = .ok (.aload_n 0, 1) := by decide +kernel
theorem dX3_changesInRound_63 : decode cX3_changesInRound 63 = .ok (.iload_n 3, 1) := by decide +kernel
theorem dX3_changesInRound_64 : decode cX3_changesInRound 64 = .ok (.iload 4, 2) := by decide +kernel
theorem dX3_changesInRound_66 : decode cX3_changesInRound 66 = .ok (.iload 5, 2) := by decide +kernel
theorem dX3_changesInRound_68 : decode cX3_changesInRound 68 = .ok (.invokevirtual 146, 3) := by decide +kernel
theorem dX3_changesInRound_71 : decode cX3_changesInRound 71 = .ok (.iastore, 1) := by decide +kernel
theorem dX3_changesInRound_72 : decode cX3_changesInRound 72 = .ok (.iload_n 2, 1) := by decide +kernel
theorem dX3_changesInRound_73 : decode cX3_changesInRound 73 = .ok (.aload_n 0, 1) := by decide +kernel
theorem dX3_changesInRound_74 : decode cX3_changesInRound 74 = .ok (.getfield 29, 3) := by decide +kernel
theorem dX3_changesInRound_77 : decode cX3_changesInRound 77 = .ok (.iload_n 3, 1) := by decide +kernel
theorem dX3_changesInRound_78 : decode cX3_changesInRound 78 = .ok (.iconst 3, 1) := by decide +kernel
theorem dX3_changesInRound_79 : decode cX3_changesInRound 79 = .ok (.imul, 1) := by decide +kernel
theorem dX3_changesInRound_80 : decode cX3_changesInRound 80 = .ok (.iload 4, 2) := by decide +kernel
theorem dX3_changesInRound_82 : decode cX3_changesInRound 82 = .ok (.iadd, 1) := by decide +kernel
theorem dX3_changesInRound_83 : decode cX3_changesInRound 83 = .ok (.iaload, 1) := by decide +kernel
theorem dX3_changesInRound_84 : decode cX3_changesInRound 84 = .ok (.iload 5, 2) := by decide +kernel
theorem dX3_changesInRound_86 : decode cX3_changesInRound 86 = .ok (.if_icmp .eq 7, 3) := by decide +kernel
theorem dX3_changesInRound_89 : decode cX3_changesInRound 89 = .ok (.iconst 1, 1) := by decide +kernel
theorem dX3_changesInRound_90 : decode cX3_changesInRound 90 = .ok (.goto 4, 3) := by decide +kernel
theorem dX3_changesInRound_93 : decode cX3_changesInRound 93 = .ok (.iconst 0, 1) := by decide +kernel
theorem dX3_changesInRound_94 : decode cX3_changesInRound 94 = .ok (.ior, 1) := by decide +kernel
theorem dX3_changesInRound_95 : decode cX3_changesInRound 95 = .ok (.istore_n 2, 1) := by decide +kernel
theorem dX3_changesInRound_96 : decode cX3_changesInRound 96 = .ok (.iinc 4 1, 3) := by decide +kernel
theorem dX3_changesInRound_99 : decode cX3_changesInRound 99 = .ok (.goto (-74), 3) := by decide +kernel
theorem dX3_changesInRound_102 : decode cX3_changesInRound 102 = .ok (.iinc 3 1, 3) := by decide +kernel
theorem dX3_changesInRound_105 : decode cX3_changesInRound 105 = .ok (.goto (-101), 3) := by decide +kernel
theorem dX3_changesInRound_108 : decode cX3_changesInRound 108 = .ok (.iload_n 2, 1) := by decide +kernel
theorem dX3_changesInRound_109 : decode cX3_changesInRound 109 = .ok (.ireturn, 1) := by decide +kernel
theorem dX3_countFits_0 : decode cX3_countFits 0 = .ok (.aload_n 0, 1) := by decide +kernel
theorem dX3_countFits_1 : decode cX3_countFits 1 = .ok (.aload_n 1, 1) := by decide +kernel
theorem dX3_countFits_2 : decode cX3_countFits 2 = .ok (.putfield 15, 3) := by decide +kernel
theorem dX3_countFits_5 : decode cX3_countFits 5 = .ok (.aload_n 0, 1) := by decide +kernel
theorem dX3_countFits_6 : decode cX3_countFits 6 = .ok (.invokevirtual 177, 3) := by decide +kernel
theorem dX3_countFits_9 : decode cX3_countFits 9 = .ok (.istore_n 2, 1) := by decide +kernel
theorem dX3_countFits_10 : decode cX3_countFits 10 = .ok (.iconst 0, 1) := by decide +kernel
theorem dX3_countFits_11 : decode cX3_countFits 11 = .ok (.istore_n 3, 1) := by decide +kernel
theorem dX3_countFits_12 : decode cX3_countFits 12 = .ok (.lconst 0, 1) := by decide +kernel
theorem dX3_countFits_13 : decode cX3_countFits 13 = .ok (.lstore 4, 2) := by decide +kernel
theorem dX3_countFits_15 : decode cX3_countFits 15 = .ok (.iconst 1, 1) := by decide +kernel
theorem dX3_countFits_16 : decode cX3_countFits 16 = .ok (.istore 6, 2) := by decide +kernel
theorem dX3_countFits_18 : decode cX3_countFits 18 = .ok (.iconst 0, 1) := by decide +kernel
theorem dX3_countFits_19 : decode cX3_countFits 19 = .ok (.istore 7, 2) := by decide +kernel
theorem dX3_countFits_21 : decode cX3_countFits 21 = .ok (.iload 7, 2) := by decide +kernel
theorem dX3_countFits_23 : decode cX3_countFits 23 = .ok (.iload_n 2, 1) := by decide +kernel
theorem dX3_countFits_24 : decode cX3_countFits 24 = .ok (.if_icmp .ge 119, 3) := by decide +kernel
theorem dX3_countFits_27 : decode cX3_countFits 27 = .ok (.iload 6, 2) := by decide +kernel
theorem dX3_countFits_29 : decode cX3_countFits 29 = .ok (.ifCond .eq 16, 3) := by decide +kernel
theorem dX3_countFits_32 : decode cX3_countFits 32 = .ok (.aload_n 0, 1) := by decide +kernel
theorem dX3_countFits_33 : decode cX3_countFits 33 = .ok (.aload_n 0, 1) := by decide +kernel
theorem dX3_countFits_34 : decode cX3_countFits 34 = .ok (.getfield 15, 3) := by decide +kernel
theorem dX3_countFits_37 : decode cX3_countFits 37 = .ok (.getfield 136, 3) := by decide +kernel
theorem dX3_countFits_40 : decode cX3_countFits 40 = .ok (.iconst 1, 1) := by decide +kernel
theorem dX3_countFits_41 : decode cX3_countFits 41 = .ok (.isub, 1) := by decide +kernel
theorem dX3_countFits_42 : decode cX3_countFits 42 = .ok (.invokevirtual 180, 3) := by decide +kernel
theorem dX3_countFits_45 : decode cX3_countFits 45 = .ok (.aload_n 0, 1) := by decide +kernel
theorem dX3_countFits_46 : decode cX3_countFits 46 = .ok (.aload_n 0, 1) := by decide +kernel
theorem dX3_countFits_47 : decode cX3_countFits 47 = .ok (.getfield 15, 3) := by decide +kernel
theorem dX3_countFits_50 : decode cX3_countFits 50 = .ok (.getfield 136, 3) := by decide +kernel
theorem dX3_countFits_53 : decode cX3_countFits 53 = .ok (.iconst 1, 1) := by decide +kernel
theorem dX3_countFits_54 : decode cX3_countFits 54 = .ok (.isub, 1) := by decide +kernel
theorem dX3_countFits_55 : decode cX3_countFits 55 = .ok (.invokevirtual 183, 3) := by decide +kernel
theorem dX3_countFits_58 : decode cX3_countFits 58 = .ok (.ifCond .eq 73, 3) := by decide +kernel
theorem dX3_countFits_61 : decode cX3_countFits 61 = .ok (.aload_n 0, 1) := by decide +kernel
theorem dX3_countFits_62 : decode cX3_countFits 62 = .ok (.aload_n 0, 1) := by decide +kernel
theorem dX3_countFits_63 : decode cX3_countFits 63 = .ok (.getfield 15, 3) := by decide +kernel
theorem dX3_countFits_66 : decode cX3_countFits 66 = .ok (.aload_n 0, 1) := by decide +kernel
theorem dX3_countFits_67 : decode cX3_countFits 67 = .ok (.getfield 29, 3) := by decide +kernel
theorem dX3_countFits_70 : decode cX3_countFits 70 = .ok (.invokevirtual 186, 3) := by decide +kernel
theorem dX3_countFits_73 : decode cX3_countFits 73 = .ok (.ifCond .eq 58, 3) := by decide +kernel
theorem dX3_countFits_76 : decode cX3_countFits 76 = .ok (.aload_n 0, 1) := by decide +kernel
theorem dX3_countFits_77 : decode cX3_countFits 77 = .ok (.aload_n 0, 1) := by decide +kernel
theorem dX3_countFits_78 : decode cX3_countFits 78 = .ok (.getfield 15, 3) := by decide +kernel
theorem dX3_countFits_81 : decode cX3_countFits 81 = .ok (.invokevirtual 157, 3) := by decide +kernel
theorem dX3_countFits_84 : decode cX3_countFits 84 = .ok (.aload_n 0, 1) := by decide +kernel
theorem dX3_countFits_85 : decode cX3_countFits 85 = .ok (.getfield 15, 3) := by decide +kernel
theorem dX3_countFits_88 : decode cX3_countFits 88 = .ok (.getfield 165, 3) := by decide +kernel
theorem dX3_countFits_91 : decode cX3_countFits 91 = .ok (.aload_n 0, 1) := by decide +kernel
theorem dX3_countFits_92 : decode cX3_countFits 92 = .ok (.getfield 26, 3) := by decide +kernel
theorem dX3_countFits_95 : decode cX3_countFits 95 = .ok (.invokevirtual 168, 3) := by decide +kernel
theorem dX3_countFits_98 : decode cX3_countFits 98 = .ok (.lstore 8, 2) := by decide +kernel
theorem dX3_countFits_100 : decode cX3_countFits 100 = .ok (.iload_n 3, 1) := by decide +kernel
theorem dX3_countFits_101 : decode cX3_countFits 101 = .ok (.ifCond .eq 11, 3) := by decide +kernel
theorem dX3_countFits_104 : decode cX3_countFits 104 = .ok (.lload 8, 2) := by decide +kernel
theorem dX3_countFits_106 : decode cX3_countFits 106 = .ok (.lload 4, 2) := by decide +kernel
theorem dX3_countFits_108 : decode cX3_countFits 108 = .ok (.lcmp, 1) := by decide +kernel
theorem dX3_countFits_109 : decode cX3_countFits 109 = .ok (.ifCond .ge 19, 3) := by decide +kernel
theorem dX3_countFits_112 : decode cX3_countFits 112 = .ok (.lload 8, 2) := by decide +kernel
theorem dX3_countFits_114 : decode cX3_countFits 114 = .ok (.lstore 4, 2) := by decide +kernel
theorem dX3_countFits_116 : decode cX3_countFits 116 = .ok (.aload_n 0, 1) := by decide +kernel
theorem dX3_countFits_117 : decode cX3_countFits 117 = .ok (.aload_n 0, 1) := by decide +kernel
theorem dX3_countFits_118 : decode cX3_countFits 118 = .ok (.getfield 15, 3) := by decide +kernel
theorem dX3_countFits_121 : decode cX3_countFits 121 = .ok (.aload_n 0, 1) := by decide +kernel
theorem dX3_countFits_122 : decode cX3_countFits 122 = .ok (.getfield 36, 3) := by decide +kernel
theorem dX3_countFits_125 : decode cX3_countFits 125 = .ok (.invokevirtual 154, 3) := by decide +kernel
theorem dX3_countFits_128 : decode cX3_countFits 128 = .ok (.iinc 3 1, 3) := by decide +kernel
theorem dX3_countFits_131 : decode cX3_countFits 131 = .ok (.aload_n 0, 1) := by decide +kernel
theorem dX3_countFits_132 : decode cX3_countFits 132 = .ok (.invokevirtual 190, 3) := by decide +kernel
theorem dX3_countFits_135 : decode cX3_countFits 135 = .ok (.istore 6, 2) := by decide +kernel
theorem dX3_countFits_137 : decode cX3_countFits 137 = .ok (.iinc 7 1, 3) := by decide +kernel
theorem dX3_countFits_140 : decode cX3_countFits 140 = .ok (.goto (-119), 3) := by decide +kernel
theorem dX3_countFits_143 : decode cX3_countFits 143 = .ok (.iload_n 3, 1) := by decide +kernel
theorem dX3_countFits_144 : decode cX3_countFits 144 = .ok (.ireturn, 1) := by decide +kernel
theorem dX3_countTrial_0 : decode cX3_countTrial 0 = .ok (.aload_n 0, 1) := by decide +kernel
theorem dX3_countTrial_1 : decode cX3_countTrial 1 = .ok (.getfield 9, 3) := by decide +kernel
theorem dX3_countTrial_4 : decode cX3_countTrial 4 = .ok (.aload_n 1, 1) := by decide +kernel
theorem dX3_countTrial_5 : decode cX3_countTrial 5 = .ok (.aload_n 0, 1) := by decide +kernel
theorem dX3_countTrial_6 : decode cX3_countTrial 6 = .ok (.getfield 29, 3) := by decide +kernel
theorem dX3_countTrial_9 : decode cX3_countTrial 9 = .ok (.invokevirtual 66, 3) := by decide +kernel
theorem dX3_countTrial_12 : decode cX3_countTrial 12 = .ok (.aload_n 0, 1) := by decide +kernel
theorem dX3_countTrial_13 : decode cX3_countTrial 13 = .ok (.getfield 9, 3) := by decide +kernel
theorem dX3_countTrial_16 : decode cX3_countTrial 16 = .ok (.aload_n 0, 1) := by decide +kernel
theorem dX3_countTrial_17 : decode cX3_countTrial 17 = .ok (.getfield 26, 3) := by decide +kernel
theorem dX3_countTrial_20 : decode cX3_countTrial 20 = .ok (.invokevirtual 174, 3) := by decide +kernel
theorem dX3_countTrial_23 : decode cX3_countTrial 23 = .ok (.return_, 1) := by decide +kernel
theorem dX3_countTurns_0 : decode cX3_countTurns 0 = .ok (.aload_n 0, 1) := by decide +kernel
theorem dX3_countTurns_1 : decode cX3_countTurns 1 = .ok (.aload_n 1, 1) := by decide +kernel
theorem dX3_countTurns_2 : decode cX3_countTurns 2 = .ok (.putfield 15, 3) := by decide +kernel
theorem dX3_countTurns_5 : decode cX3_countTurns 5 = .ok (.aload_n 0, 1) := by decide +kernel
theorem dX3_countTurns_6 : decode cX3_countTurns 6 = .ok (.getfield 23, 3) := by decide +kernel
theorem dX3_countTurns_9 : decode cX3_countTurns 9 = .ok (.invokestatic 57, 3) := by decide +kernel
theorem dX3_countTurns_12 : decode cX3_countTurns 12 = .ok (.aload_n 0, 1) := by decide +kernel
theorem dX3_countTurns_13 : decode cX3_countTurns 13 = .ok (.getfield 9, 3) := by decide +kernel
theorem dX3_countTurns_16 : decode cX3_countTurns 16 = .ok (.aload_n 0, 1) := by decide +kernel
theorem dX3_countTurns_17 : decode cX3_countTurns 17 = .ok (.getfield 15, 3) := by decide +kernel
theorem dX3_countTurns_20 : decode cX3_countTurns 20 = .ok (.aload_n 0, 1) := by decide +kernel
theorem dX3_countTurns_21 : decode cX3_countTurns 21 = .ok (.getfield 15, 3) := by decide +kernel
theorem dX3_countTurns_24 : decode cX3_countTurns 24 = .ok (.getfield 61, 3) := by decide +kernel
theorem dX3_countTurns_27 : decode cX3_countTurns 27 = .ok (.invokevirtual 66, 3) := by decide +kernel
theorem dX3_countTurns_30 : decode cX3_countTurns 30 = .ok (.aload_n 0, 1) := by decide +kernel
theorem dX3_countTurns_31 : decode cX3_countTurns 31 = .ok (.getfield 9, 3) := by decide +kernel
theorem dX3_countTurns_34 : decode cX3_countTurns 34 = .ok (.iload_n 2, 1) := by decide +kernel
theorem dX3_countTurns_35 : decode cX3_countTurns 35 = .ok (.iload_n 3, 1) := by decide +kernel
theorem dX3_countTurns_36 : decode cX3_countTurns 36 = .ok (.bipush 9, 2) := by decide +kernel
theorem dX3_countTurns_38 : decode cX3_countTurns 38 = .ok (.invokevirtual 72, 3) := by decide +kernel
theorem dX3_countTurns_41 : decode cX3_countTurns 41 = .ok (.aload_n 0, 1) := by decide +kernel
theorem dX3_countTurns_42 : decode cX3_countTurns 42 = .ok (.getfield 9, 3) := by decide +kernel
theorem dX3_countTurns_45 : decode cX3_countTurns 45 = .ok (.invokevirtual 76, 3) := by decide +kernel
theorem dX3_countTurns_48 : decode cX3_countTurns 48 = .ok (.istore 4, 2) := by decide +kernel
theorem dX3_countTurns_50 : decode cX3_countTurns 50 = .ok (.iconst 0, 1) := by decide +kernel
theorem dX3_countTurns_51 : decode cX3_countTurns 51 = .ok (.istore 5, 2) := by decide +kernel
theorem dX3_countTurns_53 : decode cX3_countTurns 53 = .ok (.iload 5, 2) := by decide +kernel
theorem dX3_countTurns_55 : decode cX3_countTurns 55 = .ok (.iload 4, 2) := by decide +kernel
theorem dX3_countTurns_57 : decode cX3_countTurns 57 = .ok (.if_icmp .ge 58, 3) := by decide +kernel
theorem dX3_countTurns_60 : decode cX3_countTurns 60 = .ok (.aload_n 0, 1) := by decide +kernel
theorem dX3_countTurns_61 : decode cX3_countTurns 61 = .ok (.iload_n 2, 1) := by decide +kernel
theorem dX3_countTurns_62 : decode cX3_countTurns 62 = .ok (.invokevirtual 80, 3) := by decide +kernel
theorem dX3_countTurns_65 : decode cX3_countTurns 65 = .ok (.ifCond .eq 37, 3) := by decide +kernel
theorem dX3_countTurns_68 : decode cX3_countTurns 68 = .ok (.iconst 0, 1) := by decide +kernel
theorem dX3_countTurns_69 : decode cX3_countTurns 69 = .ok (.istore 6, 2) := by decide +kernel
theorem dX3_countTurns_71 : decode cX3_countTurns 71 = .ok (.iload 6, 2) := by decide +kernel
theorem dX3_countTurns_73 : decode cX3_countTurns 73 = .ok (.iconst 3, 1) := by decide +kernel
theorem dX3_countTurns_74 : decode cX3_countTurns 74 = .ok (.if_icmp .ge 28, 3) := by decide +kernel
theorem dX3_countTurns_77 : decode cX3_countTurns 77 = .ok (.aload_n 0, 1) := by decide +kernel
theorem dX3_countTurns_78 : decode cX3_countTurns 78 = .ok (.getfield 23, 3) := by decide +kernel
theorem dX3_countTurns_81 : decode cX3_countTurns 81 = .ok (.iload 6, 2) := by decide +kernel
theorem dX3_countTurns_83 : decode cX3_countTurns 83 = .ok (.dup2, 1) := by decide +kernel
theorem dX3_countTurns_84 : decode cX3_countTurns 84 = .ok (.laload, 1) := by decide +kernel
theorem dX3_countTurns_85 : decode cX3_countTurns 85 = .ok (.aload_n 0, 1) := by decide +kernel
theorem dX3_countTurns_86 : decode cX3_countTurns 86 = .ok (.getfield 9, 3) := by decide +kernel
theorem dX3_countTurns_89 : decode cX3_countTurns 89 = .ok (.iload 6, 2) := by decide +kernel
theorem dX3_countTurns_91 : decode cX3_countTurns 91 = .ok (.invokevirtual 84, 3) := by decide +kernel
theorem dX3_countTurns_94 : decode cX3_countTurns 94 = .ok (.ladd, 1) := by decide +kernel
theorem dX3_countTurns_95 : decode cX3_countTurns 95 = .ok (.lastore, 1) := by decide +kernel
theorem dX3_countTurns_96 : decode cX3_countTurns 96 = .ok (.iinc 6 1, 3) := by decide +kernel
theorem dX3_countTurns_99 : decode cX3_countTurns 99 = .ok (.goto (-28), 3) := by decide +kernel
theorem dX3_countTurns_102 : decode cX3_countTurns 102 = .ok (.aload_n 0, 1) := by decide +kernel
theorem dX3_countTurns_103 : decode cX3_countTurns 103 = .ok (.getfield 9, 3) := by decide +kernel
theorem dX3_countTurns_106 : decode cX3_countTurns 106 = .ok (.invokevirtual 88, 3) := by decide +kernel
theorem dX3_countTurns_109 : decode cX3_countTurns 109 = .ok (.iinc 5 1, 3) := by decide +kernel
theorem dX3_countTurns_112 : decode cX3_countTurns 112 = .ok (.goto (-59), 3) := by decide +kernel
theorem dX3_countTurns_115 : decode cX3_countTurns 115 = .ok (.return_, 1) := by decide +kernel
theorem dX3_hearOthers_0 : decode cX3_hearOthers 0 = .ok (.aload_n 0, 1) := by decide +kernel
theorem dX3_hearOthers_1 : decode cX3_hearOthers 1 = .ok (.aload_n 1, 1) := by decide +kernel
theorem dX3_hearOthers_2 : decode cX3_hearOthers 2 = .ok (.putfield 15, 3) := by decide +kernel
theorem dX3_hearOthers_5 : decode cX3_hearOthers 5 = .ok (.aload_n 0, 1) := by decide +kernel
theorem dX3_hearOthers_6 : decode cX3_hearOthers 6 = .ok (.getfield 19, 3) := by decide +kernel
theorem dX3_hearOthers_9 : decode cX3_hearOthers 9 = .ok (.invokestatic 57, 3) := by decide +kernel
theorem dX3_hearOthers_12 : decode cX3_hearOthers 12 = .ok (.aload_n 0, 1) := by decide +kernel
theorem dX3_hearOthers_13 : decode cX3_hearOthers 13 = .ok (.getfield 9, 3) := by decide +kernel
theorem dX3_hearOthers_16 : decode cX3_hearOthers 16 = .ok (.aload_n 0, 1) := by decide +kernel
theorem dX3_hearOthers_17 : decode cX3_hearOthers 17 = .ok (.getfield 15, 3) := by decide +kernel
theorem dX3_hearOthers_20 : decode cX3_hearOthers 20 = .ok (.aload_n 2, 1) := by decide +kernel
theorem dX3_hearOthers_21 : decode cX3_hearOthers 21 = .ok (.invokevirtual 66, 3) := by decide +kernel
theorem dX3_hearOthers_24 : decode cX3_hearOthers 24 = .ok (.aload_n 0, 1) := by decide +kernel
theorem dX3_hearOthers_25 : decode cX3_hearOthers 25 = .ok (.getfield 9, 3) := by decide +kernel
theorem dX3_hearOthers_28 : decode cX3_hearOthers 28 = .ok (.iload_n 3, 1) := by decide +kernel
theorem dX3_hearOthers_29 : decode cX3_hearOthers 29 = .ok (.invokevirtual 99, 3) := by decide +kernel
theorem dX3_hearOthers_32 : decode cX3_hearOthers 32 = .ok (.aload_n 0, 1) := by decide +kernel
theorem dX3_hearOthers_33 : decode cX3_hearOthers 33 = .ok (.getfield 9, 3) := by decide +kernel
theorem dX3_hearOthers_36 : decode cX3_hearOthers 36 = .ok (.invokevirtual 76, 3) := by decide +kernel
theorem dX3_hearOthers_39 : decode cX3_hearOthers 39 = .ok (.istore 4, 2) := by decide +kernel
theorem dX3_hearOthers_41 : decode cX3_hearOthers 41 = .ok (.iconst 0, 1) := by decide +kernel
theorem dX3_hearOthers_42 : decode cX3_hearOthers 42 = .ok (.istore 5, 2) := by decide +kernel
theorem dX3_hearOthers_44 : decode cX3_hearOthers 44 = .ok (.iload 5, 2) := by decide +kernel
theorem dX3_hearOthers_46 : decode cX3_hearOthers 46 = .ok (.iload 4, 2) := by decide +kernel
theorem dX3_hearOthers_48 : decode cX3_hearOthers 48 = .ok (.if_icmp .ge 44, 3) := by decide +kernel
theorem dX3_hearOthers_51 : decode cX3_hearOthers 51 = .ok (.iconst 0, 1) := by decide +kernel
theorem dX3_hearOthers_52 : decode cX3_hearOthers 52 = .ok (.istore 6, 2) := by decide +kernel
theorem dX3_hearOthers_54 : decode cX3_hearOthers 54 = .ok (.iload 6, 2) := by decide +kernel
theorem dX3_hearOthers_56 : decode cX3_hearOthers 56 = .ok (.aload_n 0, 1) := by decide +kernel
theorem dX3_hearOthers_57 : decode cX3_hearOthers 57 = .ok (.getfield 15, 3) := by decide +kernel
theorem dX3_hearOthers_60 : decode cX3_hearOthers 60 = .ok (.getfield 95, 3) := by decide +kernel
theorem dX3_hearOthers_63 : decode cX3_hearOthers 63 = .ok (.if_icmp .gt 16, 3) := by decide +kernel
theorem dX3_hearOthers_66 : decode cX3_hearOthers 66 = .ok (.aload_n 0, 1) := by decide +kernel
theorem dX3_hearOthers_67 : decode cX3_hearOthers 67 = .ok (.iload_n 3, 1) := by decide +kernel
theorem dX3_hearOthers_68 : decode cX3_hearOthers 68 = .ok (.iload 6, 2) := by decide +kernel
theorem dX3_hearOthers_70 : decode cX3_hearOthers 70 = .ok (.invokevirtual 103, 3) := by decide +kernel
theorem dX3_hearOthers_73 : decode cX3_hearOthers 73 = .ok (.iinc 6 1, 3) := by decide +kernel
theorem dX3_hearOthers_76 : decode cX3_hearOthers 76 = .ok (.goto (-22), 3) := by decide +kernel
theorem dX3_hearOthers_79 : decode cX3_hearOthers 79 = .ok (.aload_n 0, 1) := by decide +kernel
theorem dX3_hearOthers_80 : decode cX3_hearOthers 80 = .ok (.getfield 9, 3) := by decide +kernel
theorem dX3_hearOthers_83 : decode cX3_hearOthers 83 = .ok (.invokevirtual 88, 3) := by decide +kernel
theorem dX3_hearOthers_86 : decode cX3_hearOthers 86 = .ok (.iinc 5 1, 3) := by decide +kernel
theorem dX3_hearOthers_89 : decode cX3_hearOthers 89 = .ok (.goto (-45), 3) := by decide +kernel
theorem dX3_hearOthers_92 : decode cX3_hearOthers 92 = .ok (.return_, 1) := by decide +kernel
theorem dX3_init_0 : decode cX3_init 0 = .ok (.aload_n 0, 1) := by decide +kernel
theorem dX3_init_1 : decode cX3_init 1 = .ok (.invokespecial 3, 3) := by decide +kernel
theorem dX3_init_4 : decode cX3_init 4 = .ok (.aload_n 0, 1) := by decide +kernel
theorem dX3_init_5 : decode cX3_init 5 = .ok (.aload_n 1, 1) := by decide +kernel
theorem dX3_init_6 : decode cX3_init 6 = .ok (.putfield 9, 3) := by decide +kernel
theorem dX3_init_9 : decode cX3_init 9 = .ok (.aload_n 0, 1) := by decide +kernel
theorem dX3_init_10 : decode cX3_init 10 = .ok (.aload_n 2, 1) := by decide +kernel
theorem dX3_init_11 : decode cX3_init 11 = .ok (.putfield 15, 3) := by decide +kernel
theorem dX3_init_14 : decode cX3_init 14 = .ok (.aload_n 0, 1) := by decide +kernel
theorem dX3_init_15 : decode cX3_init 15 = .ok (.bipush 12, 2) := by decide +kernel
theorem dX3_init_17 : decode cX3_init 17 = .ok (.newarray .long, 2) := by decide +kernel
theorem dX3_init_19 : decode cX3_init 19 = .ok (.putfield 19, 3) := by decide +kernel
theorem dX3_init_22 : decode cX3_init 22 = .ok (.aload_n 0, 1) := by decide +kernel
theorem dX3_init_23 : decode cX3_init 23 = .ok (.iconst 3, 1) := by decide +kernel
theorem dX3_init_24 : decode cX3_init 24 = .ok (.newarray .long, 2) := by decide +kernel
theorem dX3_init_26 : decode cX3_init 26 = .ok (.putfield 23, 3) := by decide +kernel
theorem dX3_init_29 : decode cX3_init 29 = .ok (.aload_n 0, 1) := by decide +kernel
theorem dX3_init_30 : decode cX3_init 30 = .ok (.bipush 9, 2) := by decide +kernel
theorem dX3_init_32 : decode cX3_init 32 = .ok (.newarray .long, 2) := by decide +kernel
theorem dX3_init_34 : decode cX3_init 34 = .ok (.putfield 26, 3) := by decide +kernel
theorem dX3_init_37 : decode cX3_init 37 = .ok (.aload_n 0, 1) := by decide +kernel
theorem dX3_init_38 : decode cX3_init 38 = .ok (.bipush 21, 2) := by decide +kernel
theorem dX3_init_40 : decode cX3_init 40 = .ok (.newarray .int, 2) := by decide +kernel
theorem dX3_init_42 : decode cX3_init 42 = .ok (.putfield 29, 3) := by decide +kernel
theorem dX3_init_45 : decode cX3_init 45 = .ok (.aload_n 0, 1) := by decide +kernel
theorem dX3_init_46 : decode cX3_init 46 = .ok (.bipush 21, 2) := by decide +kernel
theorem dX3_init_48 : decode cX3_init 48 = .ok (.newarray .int, 2) := by decide +kernel
theorem dX3_init_50 : decode cX3_init 50 = .ok (.putfield 33, 3) := by decide +kernel
theorem dX3_init_53 : decode cX3_init 53 = .ok (.aload_n 0, 1) := by decide +kernel
theorem dX3_init_54 : decode cX3_init 54 = .ok (.bipush 21, 2) := by decide +kernel
theorem dX3_init_56 : decode cX3_init 56 = .ok (.newarray .int, 2) := by decide +kernel
theorem dX3_init_58 : decode cX3_init 58 = .ok (.putfield 36, 3) := by decide +kernel
theorem dX3_init_61 : decode cX3_init 61 = .ok (.iconst 0, 1) := by decide +kernel
theorem dX3_init_62 : decode cX3_init 62 = .ok (.istore_n 3, 1) := by decide +kernel
theorem dX3_init_63 : decode cX3_init 63 = .ok (.iload_n 3, 1) := by decide +kernel
theorem dX3_init_64 : decode cX3_init 64 = .ok (.bipush 21, 2) := by decide +kernel
theorem dX3_init_66 : decode cX3_init 66 = .ok (.if_icmp .ge 23, 3) := by decide +kernel
theorem dX3_init_69 : decode cX3_init 69 = .ok (.aload_n 0, 1) := by decide +kernel
theorem dX3_init_70 : decode cX3_init 70 = .ok (.getfield 33, 3) := by decide +kernel
theorem dX3_init_73 : decode cX3_init 73 = .ok (.iload_n 3, 1) := by decide +kernel
theorem dX3_init_74 : decode cX3_init 74 = .ok (.iconst (-1), 1) := by decide +kernel
theorem dX3_init_75 : decode cX3_init 75 = .ok (.iastore, 1) := by decide +kernel
theorem dX3_init_76 : decode cX3_init 76 = .ok (.aload_n 0, 1) := by decide +kernel
theorem dX3_init_77 : decode cX3_init 77 = .ok (.getfield 36, 3) := by decide +kernel
theorem dX3_init_80 : decode cX3_init 80 = .ok (.iload_n 3, 1) := by decide +kernel
theorem dX3_init_81 : decode cX3_init 81 = .ok (.iconst (-1), 1) := by decide +kernel
theorem dX3_init_82 : decode cX3_init 82 = .ok (.iastore, 1) := by decide +kernel
theorem dX3_init_83 : decode cX3_init 83 = .ok (.iinc 3 1, 3) := by decide +kernel
theorem dX3_init_86 : decode cX3_init 86 = .ok (.goto (-23), 3) := by decide +kernel
theorem dX3_init_89 : decode cX3_init 89 = .ok (.aload_n 0, 1) := by decide +kernel
theorem dX3_init_90 : decode cX3_init 90 = .ok (.ldc2_w 39, 3) := by decide +kernel
theorem dX3_init_93 : decode cX3_init 93 = .ok (.putfield 41, 3) := by decide +kernel
theorem dX3_init_96 : decode cX3_init 96 = .ok (.aload_n 0, 1) := by decide +kernel
theorem dX3_init_97 : decode cX3_init 97 = .ok (.ldc2_w 39, 3) := by decide +kernel
theorem dX3_init_100 : decode cX3_init 100 = .ok (.putfield 45, 3) := by decide +kernel
theorem dX3_init_103 : decode cX3_init 103 = .ok (.aload_n 0, 1) := by decide +kernel
theorem dX3_init_104 : decode cX3_init 104 = .ok (.bipush 6, 2) := by decide +kernel
theorem dX3_init_106 : decode cX3_init 106 = .ok (.newarray .int, 2) := by decide +kernel
theorem dX3_init_108 : decode cX3_init 108 = .ok (.putfield 48, 3) := by decide +kernel
theorem dX3_init_111 : decode cX3_init 111 = .ok (.aload_n 0, 1) := by decide +kernel
theorem dX3_init_112 : decode cX3_init 112 = .ok (.bipush 6, 2) := by decide +kernel
theorem dX3_init_114 : decode cX3_init 114 = .ok (.newarray .int, 2) := by decide +kernel
theorem dX3_init_116 : decode cX3_init 116 = .ok (.putfield 51, 3) := by decide +kernel
theorem dX3_init_119 : decode cX3_init 119 = .ok (.aload_n 0, 1) := by decide +kernel
theorem dX3_init_120 : decode cX3_init 120 = .ok (.iconst 3, 1) := by decide +kernel
theorem dX3_init_121 : decode cX3_init 121 = .ok (.newarray .int, 2) := by decide +kernel
theorem dX3_init_123 : decode cX3_init 123 = .ok (.putfield 54, 3) := by decide +kernel
theorem dX3_init_126 : decode cX3_init 126 = .ok (.return_, 1) := by decide +kernel
theorem dX3_isFit_0 : decode cX3_isFit 0 = .ok (.iconst 0, 1) := by decide +kernel
theorem dX3_isFit_1 : decode cX3_isFit 1 = .ok (.istore_n 3, 1) := by decide +kernel
theorem dX3_isFit_2 : decode cX3_isFit 2 = .ok (.iload_n 3, 1) := by decide +kernel
theorem dX3_isFit_3 : decode cX3_isFit 3 = .ok (.aload_n 1, 1) := by decide +kernel
theorem dX3_isFit_4 : decode cX3_isFit 4 = .ok (.getfield 136, 3) := by decide +kernel
theorem dX3_isFit_7 : decode cX3_isFit 7 = .ok (.if_icmp .ge 65, 3) := by decide +kernel
theorem dX3_isFit_10 : decode cX3_isFit 10 = .ok (.aload_n 0, 1) := by decide +kernel
theorem dX3_isFit_11 : decode cX3_isFit 11 = .ok (.aload_n 1, 1) := by decide +kernel
theorem dX3_isFit_12 : decode cX3_isFit 12 = .ok (.aload_n 2, 1) := by decide +kernel
theorem dX3_isFit_13 : decode cX3_isFit 13 = .ok (.iload_n 3, 1) := by decide +kernel
theorem dX3_isFit_14 : decode cX3_isFit 14 = .ok (.invokevirtual 139, 3) := by decide +kernel
theorem dX3_isFit_17 : decode cX3_isFit 17 = .ok (.iconst 0, 1) := by decide +kernel
theorem dX3_isFit_18 : decode cX3_isFit 18 = .ok (.istore 4, 2) := by decide +kernel
theorem dX3_isFit_20 : decode cX3_isFit 20 = .ok (.iload 4, 2) := by decide +kernel
theorem dX3_isFit_22 : decode cX3_isFit 22 = .ok (.aload_n 1, 1) := by decide +kernel
theorem dX3_isFit_23 : decode cX3_isFit 23 = .ok (.getfield 111, 3) := by decide +kernel
theorem dX3_isFit_26 : decode cX3_isFit 26 = .ok (.iload_n 3, 1) := by decide +kernel
theorem dX3_isFit_27 : decode cX3_isFit 27 = .ok (.aaload, 1) := by decide +kernel
theorem dX3_isFit_28 : decode cX3_isFit 28 = .ok (.getfield 143, 3) := by decide +kernel
theorem dX3_isFit_31 : decode cX3_isFit 31 = .ok (.if_icmp .ge 35, 3) := by decide +kernel
theorem dX3_isFit_34 : decode cX3_isFit 34 = .ok (.aload_n 2, 1) := by decide +kernel
theorem dX3_isFit_35 : decode cX3_isFit 35 = .ok (.iload_n 3, 1) := by decide +kernel
theorem dX3_isFit_36 : decode cX3_isFit 36 = .ok (.iconst 3, 1) := by decide +kernel
theorem dX3_isFit_37 : decode cX3_isFit 37 = .ok (.imul, 1) := by decide +kernel
theorem dX3_isFit_38 : decode cX3_isFit 38 = .ok (.iload 4, 2) := by decide +kernel
theorem dX3_isFit_40 : decode cX3_isFit 40 = .ok (.iadd, 1) := by decide +kernel
theorem dX3_isFit_41 : decode cX3_isFit 41 = .ok (.iaload, 1) := by decide +kernel
theorem dX3_isFit_42 : decode cX3_isFit 42 = .ok (.istore 5, 2) := by decide +kernel
theorem dX3_isFit_44 : decode cX3_isFit 44 = .ok (.aload_n 0, 1) := by decide +kernel
theorem dX3_isFit_45 : decode cX3_isFit 45 = .ok (.iload_n 3, 1) := by decide +kernel
theorem dX3_isFit_46 : decode cX3_isFit 46 = .ok (.iload 4, 2) := by decide +kernel
theorem dX3_isFit_48 : decode cX3_isFit 48 = .ok (.iload 5, 2) := by decide +kernel
theorem dX3_isFit_50 : decode cX3_isFit 50 = .ok (.invokevirtual 146, 3) := by decide +kernel
theorem dX3_isFit_53 : decode cX3_isFit 53 = .ok (.iload 5, 2) := by decide +kernel
theorem dX3_isFit_55 : decode cX3_isFit 55 = .ok (.if_icmp .eq 5, 3) := by decide +kernel
theorem dX3_isFit_58 : decode cX3_isFit 58 = .ok (.iconst 0, 1) := by decide +kernel
theorem dX3_isFit_59 : decode cX3_isFit 59 = .ok (.ireturn, 1) := by decide +kernel
theorem dX3_isFit_60 : decode cX3_isFit 60 = .ok (.iinc 4 1, 3) := by decide +kernel
theorem dX3_isFit_63 : decode cX3_isFit 63 = .ok (.goto (-43), 3) := by decide +kernel
theorem dX3_isFit_66 : decode cX3_isFit 66 = .ok (.iinc 3 1, 3) := by decide +kernel
theorem dX3_isFit_69 : decode cX3_isFit 69 = .ok (.goto (-67), 3) := by decide +kernel
theorem dX3_isFit_72 : decode cX3_isFit 72 = .ok (.iconst 1, 1) := by decide +kernel
theorem dX3_isFit_73 : decode cX3_isFit 73 = .ok (.ireturn, 1) := by decide +kernel
theorem dX3_keepVotes_0 : decode cX3_keepVotes 0 = .ok (.iconst 0, 1) := by decide +kernel
theorem dX3_keepVotes_1 : decode cX3_keepVotes 1 = .ok (.istore_n 3, 1) := by decide +kernel
theorem dX3_keepVotes_2 : decode cX3_keepVotes 2 = .ok (.iload_n 3, 1) := by decide +kernel
theorem dX3_keepVotes_3 : decode cX3_keepVotes 3 = .ok (.bipush 7, 2) := by decide +kernel
theorem dX3_keepVotes_5 : decode cX3_keepVotes 5 = .ok (.if_icmp .ge 57, 3) := by decide +kernel
theorem dX3_keepVotes_8 : decode cX3_keepVotes 8 = .ok (.iconst 0, 1) := by decide +kernel
theorem dX3_keepVotes_9 : decode cX3_keepVotes 9 = .ok (.istore 4, 2) := by decide +kernel
theorem dX3_keepVotes_11 : decode cX3_keepVotes 11 = .ok (.iload 4, 2) := by decide +kernel
theorem dX3_keepVotes_13 : decode cX3_keepVotes 13 = .ok (.iconst 3, 1) := by decide +kernel
theorem dX3_keepVotes_14 : decode cX3_keepVotes 14 = .ok (.if_icmp .ge 42, 3) := by decide +kernel
theorem dX3_keepVotes_17 : decode cX3_keepVotes 17 = .ok (.aload_n 2, 1) := by decide +kernel
theorem dX3_keepVotes_18 : decode cX3_keepVotes 18 = .ok (.iload_n 3, 1) := by decide +kernel
theorem dX3_keepVotes_19 : decode cX3_keepVotes 19 = .ok (.iconst 3, 1) := by decide +kernel
theorem dX3_keepVotes_20 : decode cX3_keepVotes 20 = .ok (.imul, 1) := by decide +kernel
theorem dX3_keepVotes_21 : decode cX3_keepVotes 21 = .ok (.iload 4, 2) := by decide +kernel
theorem dX3_keepVotes_23 : decode cX3_keepVotes 23 = .ok (.iadd, 1) := by decide +kernel
theorem dX3_keepVotes_24 : decode cX3_keepVotes 24 = .ok (.aload_n 1, 1) := by decide +kernel
theorem dX3_keepVotes_25 : decode cX3_keepVotes 25 = .ok (.iload_n 3, 1) := by decide +kernel
theorem dX3_keepVotes_26 : decode cX3_keepVotes 26 = .ok (.iload 4, 2) := by decide +kernel
theorem dX3_keepVotes_28 : decode cX3_keepVotes 28 = .ok (.invokevirtual 170, 3) := by decide +kernel
theorem dX3_keepVotes_31 : decode cX3_keepVotes 31 = .ok (.ifCond .eq 17, 3) := by decide +kernel
theorem dX3_keepVotes_34 : decode cX3_keepVotes 34 = .ok (.aload_n 0, 1) := by decide +kernel
theorem dX3_keepVotes_35 : decode cX3_keepVotes 35 = .ok (.getfield 29, 3) := by decide +kernel
theorem dX3_keepVotes_38 : decode cX3_keepVotes 38 = .ok (.iload_n 3, 1) := by decide +kernel
theorem dX3_keepVotes_39 : decode cX3_keepVotes 39 = .ok (.iconst 3, 1) := by decide +kernel
theorem dX3_keepVotes_40 : decode cX3_keepVotes 40 = .ok (.imul, 1) := by decide +kernel
theorem dX3_keepVotes_41 : decode cX3_keepVotes 41 = .ok (.iload 4, 2) := by decide +kernel
theorem dX3_keepVotes_43 : decode cX3_keepVotes 43 = .ok (.iadd, 1) := by decide +kernel
theorem dX3_keepVotes_44 : decode cX3_keepVotes 44 = .ok (.iaload, 1) := by decide +kernel
theorem dX3_keepVotes_45 : decode cX3_keepVotes 45 = .ok (.goto 4, 3) := by decide +kernel
theorem dX3_keepVotes_48 : decode cX3_keepVotes 48 = .ok (.iconst (-1), 1) := by decide +kernel
theorem dX3_keepVotes_49 : decode cX3_keepVotes 49 = .ok (.iastore, 1) := by decide +kernel
theorem dX3_keepVotes_50 : decode cX3_keepVotes 50 = .ok (.iinc 4 1, 3) := by decide +kernel
theorem dX3_keepVotes_53 : decode cX3_keepVotes 53 = .ok (.goto (-42), 3) := by decide +kernel
theorem dX3_keepVotes_56 : decode cX3_keepVotes 56 = .ok (.iinc 3 1, 3) := by decide +kernel
theorem dX3_keepVotes_59 : decode cX3_keepVotes 59 = .ok (.goto (-57), 3) := by decide +kernel
theorem dX3_keepVotes_62 : decode cX3_keepVotes 62 = .ok (.return_, 1) := by decide +kernel
theorem dX3_layPlaces_0 : decode cX3_layPlaces 0 = .ok (.aload_n 0, 1) := by decide +kernel
theorem dX3_layPlaces_1 : decode cX3_layPlaces 1 = .ok (.iconst 0, 1) := by decide +kernel
theorem dX3_layPlaces_2 : decode cX3_layPlaces 2 = .ok (.putfield 194, 3) := by decide +kernel
theorem dX3_layPlaces_5 : decode cX3_layPlaces 5 = .ok (.iconst 1, 1) := by decide +kernel
theorem dX3_layPlaces_6 : decode cX3_layPlaces 6 = .ok (.istore_n 1, 1) := by decide +kernel
theorem dX3_layPlaces_7 : decode cX3_layPlaces 7 = .ok (.iconst 0, 1) := by decide +kernel
theorem dX3_layPlaces_8 : decode cX3_layPlaces 8 = .ok (.istore_n 2, 1) := by decide +kernel
theorem dX3_layPlaces_9 : decode cX3_layPlaces 9 = .ok (.iload_n 2, 1) := by decide +kernel
theorem dX3_layPlaces_10 : decode cX3_layPlaces 10 = .ok (.aload_n 0, 1) := by decide +kernel
theorem dX3_layPlaces_11 : decode cX3_layPlaces 11 = .ok (.getfield 15, 3) := by decide +kernel
theorem dX3_layPlaces_14 : decode cX3_layPlaces 14 = .ok (.getfield 136, 3) := by decide +kernel
theorem dX3_layPlaces_17 : decode cX3_layPlaces 17 = .ok (.if_icmp .ge 99, 3) := by decide +kernel
theorem dX3_layPlaces_20 : decode cX3_layPlaces 20 = .ok (.iconst 0, 1) := by decide +kernel
theorem dX3_layPlaces_21 : decode cX3_layPlaces 21 = .ok (.istore_n 3, 1) := by decide +kernel
theorem dX3_layPlaces_22 : decode cX3_layPlaces 22 = .ok (.iload_n 3, 1) := by decide +kernel
theorem dX3_layPlaces_23 : decode cX3_layPlaces 23 = .ok (.aload_n 0, 1) := by decide +kernel
theorem dX3_layPlaces_24 : decode cX3_layPlaces 24 = .ok (.getfield 15, 3) := by decide +kernel
theorem dX3_layPlaces_27 : decode cX3_layPlaces 27 = .ok (.getfield 111, 3) := by decide +kernel
theorem dX3_layPlaces_30 : decode cX3_layPlaces 30 = .ok (.iload_n 2, 1) := by decide +kernel
theorem dX3_layPlaces_31 : decode cX3_layPlaces 31 = .ok (.aaload, 1) := by decide +kernel
theorem dX3_layPlaces_32 : decode cX3_layPlaces 32 = .ok (.getfield 143, 3) := by decide +kernel
theorem dX3_layPlaces_35 : decode cX3_layPlaces 35 = .ok (.if_icmp .ge 75, 3) := by decide +kernel
theorem dX3_layPlaces_38 : decode cX3_layPlaces 38 = .ok (.aload_n 0, 1) := by decide +kernel
theorem dX3_layPlaces_39 : decode cX3_layPlaces 39 = .ok (.getfield 194, 3) := by decide +kernel
theorem dX3_layPlaces_42 : decode cX3_layPlaces 42 = .ok (.bipush 6, 2) := by decide +kernel
theorem dX3_layPlaces_44 : decode cX3_layPlaces 44 = .ok (.if_icmp .ge 66, 3) := by decide +kernel
theorem dX3_layPlaces_47 : decode cX3_layPlaces 47 = .ok (.aload_n 0, 1) := by decide +kernel
theorem dX3_layPlaces_48 : decode cX3_layPlaces 48 = .ok (.getfield 48, 3) := by decide +kernel
theorem dX3_layPlaces_51 : decode cX3_layPlaces 51 = .ok (.aload_n 0, 1) := by decide +kernel
theorem dX3_layPlaces_52 : decode cX3_layPlaces 52 = .ok (.getfield 194, 3) := by decide +kernel
theorem dX3_layPlaces_55 : decode cX3_layPlaces 55 = .ok (.iload_n 2, 1) := by decide +kernel
theorem dX3_layPlaces_56 : decode cX3_layPlaces 56 = .ok (.iconst 3, 1) := by decide +kernel
theorem dX3_layPlaces_57 : decode cX3_layPlaces 57 = .ok (.imul, 1) := by decide +kernel
theorem dX3_layPlaces_58 : decode cX3_layPlaces 58 = .ok (.iload_n 3, 1) := by decide +kernel
theorem dX3_layPlaces_59 : decode cX3_layPlaces 59 = .ok (.iadd, 1) := by decide +kernel
theorem dX3_layPlaces_60 : decode cX3_layPlaces 60 = .ok (.iastore, 1) := by decide +kernel
theorem dX3_layPlaces_61 : decode cX3_layPlaces 61 = .ok (.aload_n 0, 1) := by decide +kernel
theorem dX3_layPlaces_62 : decode cX3_layPlaces 62 = .ok (.getfield 51, 3) := by decide +kernel
theorem dX3_layPlaces_65 : decode cX3_layPlaces 65 = .ok (.aload_n 0, 1) := by decide +kernel
theorem dX3_layPlaces_66 : decode cX3_layPlaces 66 = .ok (.getfield 194, 3) := by decide +kernel
theorem dX3_layPlaces_69 : decode cX3_layPlaces 69 = .ok (.iconst 0, 1) := by decide +kernel
theorem dX3_layPlaces_70 : decode cX3_layPlaces 70 = .ok (.iastore, 1) := by decide +kernel
theorem dX3_layPlaces_71 : decode cX3_layPlaces 71 = .ok (.aload_n 0, 1) := by decide +kernel
theorem dX3_layPlaces_72 : decode cX3_layPlaces 72 = .ok (.getfield 29, 3) := by decide +kernel
theorem dX3_layPlaces_75 : decode cX3_layPlaces 75 = .ok (.iload_n 2, 1) := by decide +kernel
theorem dX3_layPlaces_76 : decode cX3_layPlaces 76 = .ok (.iconst 3, 1) := by decide +kernel
theorem dX3_layPlaces_77 : decode cX3_layPlaces 77 = .ok (.imul, 1) := by decide +kernel
theorem dX3_layPlaces_78 : decode cX3_layPlaces 78 = .ok (.iload_n 3, 1) := by decide +kernel
theorem dX3_layPlaces_79 : decode cX3_layPlaces 79 = .ok (.iadd, 1) := by decide +kernel
theorem dX3_layPlaces_80 : decode cX3_layPlaces 80 = .ok (.iconst 0, 1) := by decide +kernel
theorem dX3_layPlaces_81 : decode cX3_layPlaces 81 = .ok (.iastore, 1) := by decide +kernel
theorem dX3_layPlaces_82 : decode cX3_layPlaces 82 = .ok (.aload_n 0, 1) := by decide +kernel
theorem dX3_layPlaces_83 : decode cX3_layPlaces 83 = .ok (.dup, 1) := by decide +kernel
theorem dX3_layPlaces_84 : decode cX3_layPlaces 84 = .ok (.getfield 194, 3) := by decide +kernel
theorem dX3_layPlaces_87 : decode cX3_layPlaces 87 = .ok (.iconst 1, 1) := by decide +kernel
theorem dX3_layPlaces_88 : decode cX3_layPlaces 88 = .ok (.iadd, 1) := by decide +kernel
theorem dX3_layPlaces_89 : decode cX3_layPlaces 89 = .ok (.putfield 194, 3) := by decide +kernel
theorem dX3_layPlaces_92 : decode cX3_layPlaces 92 = .ok (.iload_n 1, 1) := by decide +kernel
theorem dX3_layPlaces_93 : decode cX3_layPlaces 93 = .ok (.aload_n 0, 1) := by decide +kernel
theorem dX3_layPlaces_94 : decode cX3_layPlaces 94 = .ok (.getfield 15, 3) := by decide +kernel
theorem dX3_layPlaces_97 : decode cX3_layPlaces 97 = .ok (.getfield 95, 3) := by decide +kernel
theorem dX3_layPlaces_100 : decode cX3_layPlaces 100 = .ok (.iconst 1, 1) := by decide +kernel
theorem dX3_layPlaces_101 : decode cX3_layPlaces 101 = .ok (.iadd, 1) := by decide +kernel
theorem dX3_layPlaces_102 : decode cX3_layPlaces 102 = .ok (.imul, 1) := by decide +kernel
theorem dX3_layPlaces_103 : decode cX3_layPlaces 103 = .ok (.istore_n 1, 1) := by decide +kernel
theorem dX3_layPlaces_104 : decode cX3_layPlaces 104 = .ok (.iinc 3 1, 3) := by decide +kernel
theorem dX3_layPlaces_107 : decode cX3_layPlaces 107 = .ok (.goto (-85), 3) := by decide +kernel
theorem dX3_layPlaces_110 : decode cX3_layPlaces 110 = .ok (.iinc 2 1, 3) := by decide +kernel
theorem dX3_layPlaces_113 : decode cX3_layPlaces 113 = .ok (.goto (-104), 3) := by decide +kernel
theorem dX3_layPlaces_116 : decode cX3_layPlaces 116 = .ok (.iload_n 1, 1) := by decide +kernel
theorem dX3_layPlaces_117 : decode cX3_layPlaces 117 = .ok (.sipush 4096, 3) := by decide +kernel
theorem dX3_layPlaces_120 : decode cX3_layPlaces 120 = .ok (.invokestatic 197, 3) := by decide +kernel
theorem dX3_layPlaces_123 : decode cX3_layPlaces 123 = .ok (.ireturn, 1) := by decide +kernel
theorem dX3_lostBy_0 : decode cX3_lostBy 0 = .ok (.aload_n 0, 1) := by decide +kernel
theorem dX3_lostBy_1 : decode cX3_lostBy 1 = .ok (.getfield 15, 3) := by decide +kernel
theorem dX3_lostBy_4 : decode cX3_lostBy 4 = .ok (.getfield 111, 3) := by decide +kernel
theorem dX3_lostBy_7 : decode cX3_lostBy 7 = .ok (.iload_n 1, 1) := by decide +kernel
theorem dX3_lostBy_8 : decode cX3_lostBy 8 = .ok (.aaload, 1) := by decide +kernel
theorem dX3_lostBy_9 : decode cX3_lostBy 9 = .ok (.getfield 126, 3) := by decide +kernel
theorem dX3_lostBy_12 : decode cX3_lostBy 12 = .ok (.astore 4, 2) := by decide +kernel
theorem dX3_lostBy_14 : decode cX3_lostBy 14 = .ok (.lconst 0, 1) := by decide +kernel
theorem dX3_lostBy_15 : decode cX3_lostBy 15 = .ok (.lstore 5, 2) := by decide +kernel
theorem dX3_lostBy_17 : decode cX3_lostBy 17 = .ok (.iconst 0, 1) := by decide +kernel
theorem dX3_lostBy_18 : decode cX3_lostBy 18 = .ok (.istore 7, 2) := by decide +kernel
theorem dX3_lostBy_20 : decode cX3_lostBy 20 = .ok (.iload 7, 2) := by decide +kernel
theorem dX3_lostBy_22 : decode cX3_lostBy 22 = .ok (.iconst 3, 1) := by decide +kernel
theorem dX3_lostBy_23 : decode cX3_lostBy 23 = .ok (.if_icmp .ge 36, 3) := by decide +kernel
theorem dX3_lostBy_26 : decode cX3_lostBy 26 = .ok (.lload 5, 2) := by decide +kernel
theorem dX3_lostBy_28 : decode cX3_lostBy 28 = .ok (.aload_n 0, 1) := by decide +kernel
theorem dX3_lostBy_29 : decode cX3_lostBy 29 = .ok (.getfield 19, 3) := by decide +kernel
theorem dX3_lostBy_32 : decode cX3_lostBy 32 = .ok (.iload_n 3, 1) := by decide +kernel
theorem dX3_lostBy_33 : decode cX3_lostBy 33 = .ok (.iconst 3, 1) := by decide +kernel
theorem dX3_lostBy_34 : decode cX3_lostBy 34 = .ok (.imul, 1) := by decide +kernel
theorem dX3_lostBy_35 : decode cX3_lostBy 35 = .ok (.iload 7, 2) := by decide +kernel
theorem dX3_lostBy_37 : decode cX3_lostBy 37 = .ok (.iadd, 1) := by decide +kernel
theorem dX3_lostBy_38 : decode cX3_lostBy 38 = .ok (.laload, 1) := by decide +kernel
theorem dX3_lostBy_39 : decode cX3_lostBy 39 = .ok (.aload 4, 2) := by decide +kernel
theorem dX3_lostBy_41 : decode cX3_lostBy 41 = .ok (.iload 7, 2) := by decide +kernel
theorem dX3_lostBy_43 : decode cX3_lostBy 43 = .ok (.iconst 3, 1) := by decide +kernel
theorem dX3_lostBy_44 : decode cX3_lostBy 44 = .ok (.imul, 1) := by decide +kernel
theorem dX3_lostBy_45 : decode cX3_lostBy 45 = .ok (.iload_n 2, 1) := by decide +kernel
theorem dX3_lostBy_46 : decode cX3_lostBy 46 = .ok (.iadd, 1) := by decide +kernel
theorem dX3_lostBy_47 : decode cX3_lostBy 47 = .ok (.iaload, 1) := by decide +kernel
theorem dX3_lostBy_48 : decode cX3_lostBy 48 = .ok (.i2l, 1) := by decide +kernel
theorem dX3_lostBy_49 : decode cX3_lostBy 49 = .ok (.lmul, 1) := by decide +kernel
theorem dX3_lostBy_50 : decode cX3_lostBy 50 = .ok (.ladd, 1) := by decide +kernel
theorem dX3_lostBy_51 : decode cX3_lostBy 51 = .ok (.lstore 5, 2) := by decide +kernel
theorem dX3_lostBy_53 : decode cX3_lostBy 53 = .ok (.iinc 7 1, 3) := by decide +kernel
theorem dX3_lostBy_56 : decode cX3_lostBy 56 = .ok (.goto (-36), 3) := by decide +kernel
theorem dX3_lostBy_59 : decode cX3_lostBy 59 = .ok (.lload 5, 2) := by decide +kernel
theorem dX3_lostBy_61 : decode cX3_lostBy 61 = .ok (.lreturn, 1) := by decide +kernel
theorem dX3_nextTable_0 : decode cX3_nextTable 0 = .ok (.iconst 1, 1) := by decide +kernel
theorem dX3_nextTable_1 : decode cX3_nextTable 1 = .ok (.istore_n 1, 1) := by decide +kernel
theorem dX3_nextTable_2 : decode cX3_nextTable 2 = .ok (.iconst 0, 1) := by decide +kernel
theorem dX3_nextTable_3 : decode cX3_nextTable 3 = .ok (.istore_n 2, 1) := by decide +kernel
theorem dX3_nextTable_4 : decode cX3_nextTable 4 = .ok (.aload_n 0, 1) := by decide +kernel
theorem dX3_nextTable_5 : decode cX3_nextTable 5 = .ok (.getfield 194, 3) := by decide +kernel
theorem dX3_nextTable_8 : decode cX3_nextTable 8 = .ok (.iconst 1, 1) := by decide +kernel
theorem dX3_nextTable_9 : decode cX3_nextTable 9 = .ok (.isub, 1) := by decide +kernel
theorem dX3_nextTable_10 : decode cX3_nextTable 10 = .ok (.istore_n 3, 1) := by decide +kernel
theorem dX3_nextTable_11 : decode cX3_nextTable 11 = .ok (.iload_n 3, 1) := by decide +kernel
theorem dX3_nextTable_12 : decode cX3_nextTable 12 = .ok (.ifCond .lt 104, 3) := by decide +kernel
theorem dX3_nextTable_15 : decode cX3_nextTable 15 = .ok (.iload_n 1, 1) := by decide +kernel
theorem dX3_nextTable_16 : decode cX3_nextTable 16 = .ok (.ifCond .eq 100, 3) := by decide +kernel
theorem dX3_nextTable_19 : decode cX3_nextTable 19 = .ok (.aload_n 0, 1) := by decide +kernel
theorem dX3_nextTable_20 : decode cX3_nextTable 20 = .ok (.getfield 51, 3) := by decide +kernel
theorem dX3_nextTable_23 : decode cX3_nextTable 23 = .ok (.iload_n 3, 1) := by decide +kernel
theorem dX3_nextTable_24 : decode cX3_nextTable 24 = .ok (.iaload, 1) := by decide +kernel
theorem dX3_nextTable_25 : decode cX3_nextTable 25 = .ok (.aload_n 0, 1) := by decide +kernel
theorem dX3_nextTable_26 : decode cX3_nextTable 26 = .ok (.getfield 15, 3) := by decide +kernel
theorem dX3_nextTable_29 : decode cX3_nextTable 29 = .ok (.getfield 95, 3) := by decide +kernel
theorem dX3_nextTable_32 : decode cX3_nextTable 32 = .ok (.if_icmp .lt 7, 3) := by decide +kernel
theorem dX3_nextTable_35 : decode cX3_nextTable 35 = .ok (.iconst 1, 1) := by decide +kernel
theorem dX3_nextTable_36 : decode cX3_nextTable 36 = .ok (.goto 4, 3) := by decide +kernel
theorem dX3_nextTable_39 : decode cX3_nextTable 39 = .ok (.iconst 0, 1) := by decide +kernel
theorem dX3_nextTable_40 : decode cX3_nextTable 40 = .ok (.istore_n 1, 1) := by decide +kernel
theorem dX3_nextTable_41 : decode cX3_nextTable 41 = .ok (.aload_n 0, 1) := by decide +kernel
theorem dX3_nextTable_42 : decode cX3_nextTable 42 = .ok (.getfield 51, 3) := by decide +kernel
theorem dX3_nextTable_45 : decode cX3_nextTable 45 = .ok (.iload_n 3, 1) := by decide +kernel
theorem dX3_nextTable_46 : decode cX3_nextTable 46 = .ok (.iload_n 1, 1) := by decide +kernel
theorem dX3_nextTable_47 : decode cX3_nextTable 47 = .ok (.ifCond .eq 7, 3) := by decide +kernel
theorem dX3_nextTable_50 : decode cX3_nextTable 50 = .ok (.iconst 0, 1) := by decide +kernel
theorem dX3_nextTable_51 : decode cX3_nextTable 51 = .ok (.goto 11, 3) := by decide +kernel
theorem dX3_nextTable_54 : decode cX3_nextTable 54 = .ok (.aload_n 0, 1) := by decide +kernel
theorem dX3_nextTable_55 : decode cX3_nextTable 55 = .ok (.getfield 51, 3) := by decide +kernel
theorem dX3_nextTable_58 : decode cX3_nextTable 58 = .ok (.iload_n 3, 1) := by decide +kernel
theorem dX3_nextTable_59 : decode cX3_nextTable 59 = .ok (.iaload, 1) := by decide +kernel
theorem dX3_nextTable_60 : decode cX3_nextTable 60 = .ok (.iconst 1, 1) := by decide +kernel
theorem dX3_nextTable_61 : decode cX3_nextTable 61 = .ok (.iadd, 1) := by decide +kernel
theorem dX3_nextTable_62 : decode cX3_nextTable 62 = .ok (.iastore, 1) := by decide +kernel
theorem dX3_nextTable_63 : decode cX3_nextTable 63 = .ok (.aload_n 0, 1) := by decide +kernel
theorem dX3_nextTable_64 : decode cX3_nextTable 64 = .ok (.getfield 29, 3) := by decide +kernel
theorem dX3_nextTable_67 : decode cX3_nextTable 67 = .ok (.aload_n 0, 1) := by decide +kernel
theorem dX3_nextTable_68 : decode cX3_nextTable 68 = .ok (.getfield 48, 3) := by decide +kernel
theorem dX3_nextTable_71 : decode cX3_nextTable 71 = .ok (.iload_n 3, 1) := by decide +kernel
theorem dX3_nextTable_72 : decode cX3_nextTable 72 = .ok (.iaload, 1) := by decide +kernel
theorem dX3_nextTable_73 : decode cX3_nextTable 73 = .ok (.aload_n 0, 1) := by decide +kernel
theorem dX3_nextTable_74 : decode cX3_nextTable 74 = .ok (.aload_n 0, 1) := by decide +kernel
theorem dX3_nextTable_75 : decode cX3_nextTable 75 = .ok (.getfield 51, 3) := by decide +kernel
theorem dX3_nextTable_78 : decode cX3_nextTable 78 = .ok (.iload_n 3, 1) := by decide +kernel
theorem dX3_nextTable_79 : decode cX3_nextTable 79 = .ok (.iaload, 1) := by decide +kernel
theorem dX3_nextTable_80 : decode cX3_nextTable 80 = .ok (.invokevirtual 107, 3) := by decide +kernel
theorem dX3_nextTable_83 : decode cX3_nextTable 83 = .ok (.iastore, 1) := by decide +kernel
theorem dX3_nextTable_84 : decode cX3_nextTable 84 = .ok (.aload_n 0, 1) := by decide +kernel
theorem dX3_nextTable_85 : decode cX3_nextTable 85 = .ok (.getfield 48, 3) := by decide +kernel
theorem dX3_nextTable_88 : decode cX3_nextTable 88 = .ok (.iload_n 3, 1) := by decide +kernel
theorem dX3_nextTable_89 : decode cX3_nextTable 89 = .ok (.iaload, 1) := by decide +kernel
theorem dX3_nextTable_90 : decode cX3_nextTable 90 = .ok (.aload_n 0, 1) := by decide +kernel
theorem dX3_nextTable_91 : decode cX3_nextTable 91 = .ok (.getfield 15, 3) := by decide +kernel
theorem dX3_nextTable_94 : decode cX3_nextTable 94 = .ok (.getfield 136, 3) := by decide +kernel
theorem dX3_nextTable_97 : decode cX3_nextTable 97 = .ok (.iconst 1, 1) := by decide +kernel
theorem dX3_nextTable_98 : decode cX3_nextTable 98 = .ok (.isub, 1) := by decide +kernel
theorem dX3_nextTable_99 : decode cX3_nextTable 99 = .ok (.iconst 3, 1) := by decide +kernel
theorem dX3_nextTable_100 : decode cX3_nextTable 100 = .ok (.imul, 1) := by decide +kernel
theorem dX3_nextTable_101 : decode cX3_nextTable 101 = .ok (.if_icmp .ge 7, 3) := by decide +kernel
theorem dX3_nextTable_104 : decode cX3_nextTable 104 = .ok (.iconst 1, 1) := by decide +kernel
theorem dX3_nextTable_105 : decode cX3_nextTable 105 = .ok (.goto 4, 3) := by decide +kernel
theorem dX3_nextTable_108 : decode cX3_nextTable 108 = .ok (.iconst 0, 1) := by decide +kernel
theorem dX3_nextTable_109 : decode cX3_nextTable 109 = .ok (.istore_n 2, 1) := by decide +kernel
theorem dX3_nextTable_110 : decode cX3_nextTable 110 = .ok (.iinc 3 (-1), 3) := by decide +kernel
theorem dX3_nextTable_113 : decode cX3_nextTable 113 = .ok (.goto (-102), 3) := by decide +kernel
theorem dX3_nextTable_116 : decode cX3_nextTable 116 = .ok (.iload_n 2, 1) := by decide +kernel
theorem dX3_nextTable_117 : decode cX3_nextTable 117 = .ok (.ireturn, 1) := by decide +kernel
