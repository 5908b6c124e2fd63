/-! the law's main method -/
theorem dg_law_43 : decode code 43 = .ok (.if_icmp .ge 227, 3) := by decide +kernel
theorem dg_law_48 : decode code 48 = .ok (.ifCond .eq 222, 3) := by decide +kernel
theorem dg_law_56 : decode code 56 = .ok (.invokestatic 172, 3) := by decide +kernel
theorem dg_law_64 : decode code 64 = .ok (.if_icmp .ne 21, 3) := by decide +kernel
theorem dg_law_73 : decode code 73 = .ok (.idiv, 1) := by decide +kernel
theorem dg_law_75 : decode code 75 = .ok (.idiv, 1) := by decide +kernel
theorem dg_law_82 : decode code 82 = .ok (.goto 43, 3) := by decide +kernel
theorem dg_law_87 : decode code 87 = .ok (.ifCond .ne 17, 3) := by decide +kernel
theorem dg_law_96 : decode code 96 = .ok (.idiv, 1) := by decide +kernel
theorem dg_law_101 : decode code 101 = .ok (.goto 24, 3) := by decide +kernel
theorem dg_law_107 : decode code 107 = .ok (.if_icmp .ne 16, 3) := by decide +kernel
theorem dg_law_116 : decode code 116 = .ok (.idiv, 1) := by decide +kernel
theorem dg_law_120 : decode code 120 = .ok (.goto 5, 3) := by decide +kernel
theorem dg_law_131 : decode code 131 = .ok (.invokestatic 176, 3) := by decide +kernel
theorem dg_law_143 : decode code 143 = .ok (.irem, 1) := by decide +kernel
theorem dg_law_144 : decode code 144 = .ok (.invokestatic 180, 3) := by decide +kernel
theorem dg_law_147 : decode code 147 = .ok (.ifCond .eq 19, 3) := by decide +kernel
theorem dg_law_154 : decode code 154 = .ok (.invokestatic 176, 3) := by decide +kernel
theorem dg_law_159 : decode code 159 = .ok (.if_icmp .ne 7, 3) := by decide +kernel
theorem dg_law_163 : decode code 163 = .ok (.goto 4, 3) := by decide +kernel
theorem dg_law_174 : decode code 174 = .ok (.invokestatic 184, 3) := by decide +kernel
theorem dg_law_179 : decode code 179 = .ok (.ifCond .eq 82, 3) := by decide +kernel
theorem dg_law_185 : decode code 185 = .ok (.irem, 1) := by decide +kernel
theorem dg_law_186 : decode code 186 = .ok (.ifCond .gt 17, 3) := by decide +kernel
theorem dg_law_196 : decode code 196 = .ok (.irem, 1) := by decide +kernel
theorem dg_law_197 : decode code 197 = .ok (.invokestatic 180, 3) := by decide +kernel
theorem dg_law_200 : decode code 200 = .ok (.ifCond .eq 61, 3) := by decide +kernel
theorem dg_law_206 : decode code 206 = .ok (.irem, 1) := by decide +kernel
theorem dg_law_208 : decode code 208 = .ok (.if_icmp .gt 16, 3) := by decide +kernel
theorem dg_law_217 : decode code 217 = .ok (.idiv, 1) := by decide +kernel
theorem dg_law_218 : decode code 218 = .ok (.invokestatic 188, 3) := by decide +kernel
theorem dg_law_221 : decode code 221 = .ok (.ifCond .eq 40, 3) := by decide +kernel
theorem dg_law_227 : decode code 227 = .ok (.irem, 1) := by decide +kernel
theorem dg_law_228 : decode code 228 = .ok (.ifCond .gt 29, 3) := by decide +kernel
theorem dg_law_237 : decode code 237 = .ok (.idiv, 1) := by decide +kernel
theorem dg_law_238 : decode code 238 = .ok (.invokestatic 192, 3) := by decide +kernel
theorem dg_law_241 : decode code 241 = .ok (.ifCond .eq 20, 3) := by decide +kernel
theorem dg_law_250 : decode code 250 = .ok (.idiv, 1) := by decide +kernel
theorem dg_law_251 : decode code 251 = .ok (.invokestatic 192, 3) := by decide +kernel
theorem dg_law_254 : decode code 254 = .ok (.ifCond .eq 7, 3) := by decide +kernel
theorem dg_law_258 : decode code 258 = .ok (.goto 4, 3) := by decide +kernel
theorem dg_law_272 : decode code 272 = .ok (.ifCond .eq 73, 3) := by decide +kernel
theorem dg_law_280 : decode code 280 = .ok (.invokestatic 172, 3) := by decide +kernel
theorem dg_law_285 : decode code 285 = .ok (.idiv, 1) := by decide +kernel
theorem dg_law_286 : decode code 286 = .ok (.invokestatic 188, 3) := by decide +kernel
theorem dg_law_289 : decode code 289 = .ok (.ifCond .eq 56, 3) := by decide +kernel
theorem dg_law_296 : decode code 296 = .ok (.invokestatic 172, 3) := by decide +kernel
theorem dg_law_301 : decode code 301 = .ok (.idiv, 1) := by decide +kernel
theorem dg_law_302 : decode code 302 = .ok (.invokestatic 192, 3) := by decide +kernel
theorem dg_law_305 : decode code 305 = .ok (.ifCond .eq 40, 3) := by decide +kernel
theorem dg_law_312 : decode code 312 = .ok (.invokestatic 172, 3) := by decide +kernel
theorem dg_law_317 : decode code 317 = .ok (.idiv, 1) := by decide +kernel
theorem dg_law_318 : decode code 318 = .ok (.invokestatic 192, 3) := by decide +kernel
theorem dg_law_321 : decode code 321 = .ok (.ifCond .eq 24, 3) := by decide +kernel
theorem dg_law_329 : decode code 329 = .ok (.invokestatic 172, 3) := by decide +kernel
theorem dg_law_334 : decode code 334 = .ok (.idiv, 1) := by decide +kernel
theorem dg_law_335 : decode code 335 = .ok (.invokestatic 188, 3) := by decide +kernel
theorem dg_law_338 : decode code 338 = .ok (.ifCond .eq 7, 3) := by decide +kernel
theorem dg_law_342 : decode code 342 = .ok (.goto 4, 3) := by decide +kernel
theorem og_law_39_2 : oks 12 code 39 [(.iload 6, 2, (0, 0, 0)), (.iload 4, 2, (0, 0, 0))] = true ∧ plen 39 [(.iload 6, 2, (0, 0, 0)), (.iload 4, 2, (0, 0, 0))] = 43 := by decide +kernel
theorem og_law_46_1 : oks 12 code 46 [(.iload 5, 2, (0, 0, 0))] = true ∧ plen 46 [(.iload 5, 2, (0, 0, 0))] = 48 := by decide +kernel
theorem og_law_51_4 : oks 12 code 51 [(.aload_n 0, 1, (0, 0, 0)), (.iconst 1, 1, (0, 0, 0)), (.iload 6, 2, (0, 0, 0)), (.iadd, 1, (0, 0, 0))] = true ∧ plen 51 [(.aload_n 0, 1, (0, 0, 0)), (.iconst 1, 1, (0, 0, 0)), (.iload 6, 2, (0, 0, 0)), (.iadd, 1, (0, 0, 0))] = 56 := by decide +kernel
theorem og_law_59_3 : oks 12 code 59 [(.istore 7, 2, (0, 0, 0)), (.iload 6, 2, (0, 0, 0)), (.iconst 2, 1, (0, 0, 0))] = true ∧ plen 59 [(.istore 7, 2, (0, 0, 0)), (.iload 6, 2, (0, 0, 0)), (.iconst 2, 1, (0, 0, 0))] = 64 := by decide +kernel
theorem og_law_67_3 : oks 12 code 67 [(.bipush 24, 2, (0, 0, 0)), (.iload 7, 2, (0, 0, 0)), (.bipush 24, 2, (0, 0, 0))] = true ∧ plen 67 [(.bipush 24, 2, (0, 0, 0)), (.iload 7, 2, (0, 0, 0)), (.bipush 24, 2, (0, 0, 0))] = 73 := by decide +kernel
theorem og_law_74_1 : oks 12 code 74 [(.iconst 3, 1, (0, 0, 0))] = true ∧ plen 74 [(.iconst 3, 1, (0, 0, 0))] = 75 := by decide +kernel
theorem og_law_76_5 : oks 12 code 76 [(.iconst 3, 1, (0, 0, 0)), (.imul, 1, (0, 0, 0)), (.imul, 1, (0, 0, 0)), (.bipush 15, 2, (0, 0, 0)), (.iadd, 1, (0, 0, 0))] = true ∧ plen 76 [(.iconst 3, 1, (0, 0, 0)), (.imul, 1, (0, 0, 0)), (.imul, 1, (0, 0, 0)), (.bipush 15, 2, (0, 0, 0)), (.iadd, 1, (0, 0, 0))] = 82 := by decide +kernel
theorem og_law_85_1 : oks 12 code 85 [(.iload 6, 2, (0, 0, 0))] = true ∧ plen 85 [(.iload 6, 2, (0, 0, 0))] = 87 := by decide +kernel
theorem og_law_90_3 : oks 12 code 90 [(.bipush 24, 2, (0, 0, 0)), (.iload 7, 2, (0, 0, 0)), (.bipush 24, 2, (0, 0, 0))] = true ∧ plen 90 [(.bipush 24, 2, (0, 0, 0)), (.iload 7, 2, (0, 0, 0)), (.bipush 24, 2, (0, 0, 0))] = 96 := by decide +kernel
theorem og_law_97_3 : oks 12 code 97 [(.imul, 1, (0, 0, 0)), (.bipush 6, 2, (0, 0, 0)), (.iadd, 1, (0, 0, 0))] = true ∧ plen 97 [(.imul, 1, (0, 0, 0)), (.bipush 6, 2, (0, 0, 0)), (.iadd, 1, (0, 0, 0))] = 101 := by decide +kernel
theorem og_law_104_2 : oks 12 code 104 [(.iload 6, 2, (0, 0, 0)), (.iconst 1, 1, (0, 0, 0))] = true ∧ plen 104 [(.iload 6, 2, (0, 0, 0)), (.iconst 1, 1, (0, 0, 0))] = 107 := by decide +kernel
theorem og_law_110_3 : oks 12 code 110 [(.bipush 24, 2, (0, 0, 0)), (.iload 7, 2, (0, 0, 0)), (.bipush 24, 2, (0, 0, 0))] = true ∧ plen 110 [(.bipush 24, 2, (0, 0, 0)), (.iload 7, 2, (0, 0, 0)), (.bipush 24, 2, (0, 0, 0))] = 116 := by decide +kernel
theorem og_law_117_3 : oks 12 code 117 [(.imul, 1, (0, 0, 0)), (.iconst 1, 1, (0, 0, 0)), (.iadd, 1, (0, 0, 0))] = true ∧ plen 117 [(.imul, 1, (0, 0, 0)), (.iconst 1, 1, (0, 0, 0)), (.iadd, 1, (0, 0, 0))] = 120 := by decide +kernel
theorem og_law_123_1 : oks 12 code 123 [(.iload 7, 2, (0, 0, 0))] = true ∧ plen 123 [(.iload 7, 2, (0, 0, 0))] = 125 := by decide +kernel
theorem og_law_125_1 : oks 12 code 125 [(.istore 7, 2, (0, 0, 0))] = true ∧ plen 125 [(.istore 7, 2, (0, 0, 0))] = 127 := by decide +kernel
theorem og_law_127_3 : oks 12 code 127 [(.aload_n 1, 1, (0, 0, 0)), (.aload_n 3, 1, (0, 0, 0)), (.iload 7, 2, (0, 0, 0))] = true ∧ plen 127 [(.aload_n 1, 1, (0, 0, 0)), (.aload_n 3, 1, (0, 0, 0)), (.iload 7, 2, (0, 0, 0))] = 131 := by decide +kernel
theorem og_law_134_5 : oks 12 code 134 [(.istore 8, 2, (0, 0, 0)), (.aload_n 2, 1, (0, 0, 0)), (.aload_n 3, 1, (0, 0, 0)), (.iload 7, 2, (0, 0, 0)), (.sipush 9973, 3, (0, 0, 0))] = true ∧ plen 134 [(.istore 8, 2, (0, 0, 0)), (.aload_n 2, 1, (0, 0, 0)), (.aload_n 3, 1, (0, 0, 0)), (.iload 7, 2, (0, 0, 0)), (.sipush 9973, 3, (0, 0, 0))] = 143 := by decide +kernel
theorem og_law_150_3 : oks 12 code 150 [(.aload_n 2, 1, (0, 0, 0)), (.aload_n 3, 1, (0, 0, 0)), (.iload 7, 2, (0, 0, 0))] = true ∧ plen 150 [(.aload_n 2, 1, (0, 0, 0)), (.aload_n 3, 1, (0, 0, 0)), (.iload 7, 2, (0, 0, 0))] = 154 := by decide +kernel
theorem og_law_157_1 : oks 12 code 157 [(.iload 8, 2, (0, 0, 0))] = true ∧ plen 157 [(.iload 8, 2, (0, 0, 0))] = 159 := by decide +kernel
theorem og_law_162_1 : oks 12 code 162 [(.iconst 1, 1, (0, 0, 0))] = true ∧ plen 162 [(.iconst 1, 1, (0, 0, 0))] = 163 := by decide +kernel
theorem og_law_167_4 : oks 12 code 167 [(.istore 5, 2, (0, 0, 0)), (.aload_n 3, 1, (0, 0, 0)), (.iload 7, 2, (0, 0, 0)), (.iload 8, 2, (0, 0, 0))] = true ∧ plen 167 [(.istore 5, 2, (0, 0, 0)), (.aload_n 3, 1, (0, 0, 0)), (.iload 7, 2, (0, 0, 0)), (.iload 8, 2, (0, 0, 0))] = 174 := by decide +kernel
theorem og_law_177_1 : oks 12 code 177 [(.iload 5, 2, (0, 0, 0))] = true ∧ plen 177 [(.iload 5, 2, (0, 0, 0))] = 179 := by decide +kernel
theorem og_law_182_2 : oks 12 code 182 [(.iload 6, 2, (0, 0, 0)), (.iconst 3, 1, (0, 0, 0))] = true ∧ plen 182 [(.iload 6, 2, (0, 0, 0)), (.iconst 3, 1, (0, 0, 0))] = 185 := by decide +kernel
theorem og_law_189_4 : oks 12 code 189 [(.aload_n 2, 1, (0, 0, 0)), (.aload_n 3, 1, (0, 0, 0)), (.iload 7, 2, (0, 0, 0)), (.sipush 499, 3, (0, 0, 0))] = true ∧ plen 189 [(.aload_n 2, 1, (0, 0, 0)), (.aload_n 3, 1, (0, 0, 0)), (.iload 7, 2, (0, 0, 0)), (.sipush 499, 3, (0, 0, 0))] = 196 := by decide +kernel
theorem og_law_203_2 : oks 12 code 203 [(.iload 6, 2, (0, 0, 0)), (.iconst 3, 1, (0, 0, 0))] = true ∧ plen 203 [(.iload 6, 2, (0, 0, 0)), (.iconst 3, 1, (0, 0, 0))] = 206 := by decide +kernel
theorem og_law_207_1 : oks 12 code 207 [(.iconst 1, 1, (0, 0, 0))] = true ∧ plen 207 [(.iconst 1, 1, (0, 0, 0))] = 208 := by decide +kernel
theorem og_law_211_5 : oks 12 code 211 [(.aload_n 1, 1, (0, 0, 0)), (.aload_n 2, 1, (0, 0, 0)), (.aload_n 3, 1, (0, 0, 0)), (.iload 7, 2, (0, 0, 0)), (.iconst 3, 1, (0, 0, 0))] = true ∧ plen 211 [(.aload_n 1, 1, (0, 0, 0)), (.aload_n 2, 1, (0, 0, 0)), (.aload_n 3, 1, (0, 0, 0)), (.iload 7, 2, (0, 0, 0)), (.iconst 3, 1, (0, 0, 0))] = 217 := by decide +kernel
theorem og_law_224_2 : oks 12 code 224 [(.iload 6, 2, (0, 0, 0)), (.iconst 4, 1, (0, 0, 0))] = true ∧ plen 224 [(.iload 6, 2, (0, 0, 0)), (.iconst 4, 1, (0, 0, 0))] = 227 := by decide +kernel
theorem og_law_231_4 : oks 12 code 231 [(.aload_n 1, 1, (0, 0, 0)), (.aload_n 3, 1, (0, 0, 0)), (.iload 7, 2, (0, 0, 0)), (.bipush 7, 2, (0, 0, 0))] = true ∧ plen 231 [(.aload_n 1, 1, (0, 0, 0)), (.aload_n 3, 1, (0, 0, 0)), (.iload 7, 2, (0, 0, 0)), (.bipush 7, 2, (0, 0, 0))] = 237 := by decide +kernel
theorem og_law_244_4 : oks 12 code 244 [(.aload_n 2, 1, (0, 0, 0)), (.aload_n 3, 1, (0, 0, 0)), (.iload 7, 2, (0, 0, 0)), (.bipush 7, 2, (0, 0, 0))] = true ∧ plen 244 [(.aload_n 2, 1, (0, 0, 0)), (.aload_n 3, 1, (0, 0, 0)), (.iload 7, 2, (0, 0, 0)), (.bipush 7, 2, (0, 0, 0))] = 250 := by decide +kernel
theorem og_law_257_1 : oks 12 code 257 [(.iconst 1, 1, (0, 0, 0))] = true ∧ plen 257 [(.iconst 1, 1, (0, 0, 0))] = 258 := by decide +kernel
theorem og_law_262_1 : oks 12 code 262 [(.istore 5, 2, (0, 0, 0))] = true ∧ plen 262 [(.istore 5, 2, (0, 0, 0))] = 264 := by decide +kernel
theorem og_law_270_1 : oks 12 code 270 [(.iload 5, 2, (0, 0, 0))] = true ∧ plen 270 [(.iload 5, 2, (0, 0, 0))] = 272 := by decide +kernel
theorem og_law_275_5 : oks 12 code 275 [(.aload_n 1, 1, (0, 0, 0)), (.aload_n 2, 1, (0, 0, 0)), (.aload_n 3, 1, (0, 0, 0)), (.aload_n 0, 1, (0, 0, 0)), (.iconst 0, 1, (0, 0, 0))] = true ∧ plen 275 [(.aload_n 1, 1, (0, 0, 0)), (.aload_n 2, 1, (0, 0, 0)), (.aload_n 3, 1, (0, 0, 0)), (.aload_n 0, 1, (0, 0, 0)), (.iconst 0, 1, (0, 0, 0))] = 280 := by decide +kernel
theorem og_law_283_1 : oks 12 code 283 [(.bipush 29, 2, (0, 0, 0))] = true ∧ plen 283 [(.bipush 29, 2, (0, 0, 0))] = 285 := by decide +kernel
theorem og_law_292_4 : oks 12 code 292 [(.aload_n 1, 1, (0, 0, 0)), (.aload_n 3, 1, (0, 0, 0)), (.aload_n 0, 1, (0, 0, 0)), (.iconst 0, 1, (0, 0, 0))] = true ∧ plen 292 [(.aload_n 1, 1, (0, 0, 0)), (.aload_n 3, 1, (0, 0, 0)), (.aload_n 0, 1, (0, 0, 0)), (.iconst 0, 1, (0, 0, 0))] = 296 := by decide +kernel
theorem og_law_299_1 : oks 12 code 299 [(.bipush 31, 2, (0, 0, 0))] = true ∧ plen 299 [(.bipush 31, 2, (0, 0, 0))] = 301 := by decide +kernel
theorem og_law_308_4 : oks 12 code 308 [(.aload_n 2, 1, (0, 0, 0)), (.aload_n 3, 1, (0, 0, 0)), (.aload_n 0, 1, (0, 0, 0)), (.iconst 0, 1, (0, 0, 0))] = true ∧ plen 308 [(.aload_n 2, 1, (0, 0, 0)), (.aload_n 3, 1, (0, 0, 0)), (.aload_n 0, 1, (0, 0, 0)), (.iconst 0, 1, (0, 0, 0))] = 312 := by decide +kernel
theorem og_law_315_1 : oks 12 code 315 [(.bipush 31, 2, (0, 0, 0))] = true ∧ plen 315 [(.bipush 31, 2, (0, 0, 0))] = 317 := by decide +kernel
theorem og_law_324_5 : oks 12 code 324 [(.aload_n 1, 1, (0, 0, 0)), (.aload_n 2, 1, (0, 0, 0)), (.aload_n 3, 1, (0, 0, 0)), (.aload_n 0, 1, (0, 0, 0)), (.iconst 0, 1, (0, 0, 0))] = true ∧ plen 324 [(.aload_n 1, 1, (0, 0, 0)), (.aload_n 2, 1, (0, 0, 0)), (.aload_n 3, 1, (0, 0, 0)), (.aload_n 0, 1, (0, 0, 0)), (.iconst 0, 1, (0, 0, 0))] = 329 := by decide +kernel
theorem og_law_332_1 : oks 12 code 332 [(.bipush 37, 2, (0, 0, 0))] = true ∧ plen 332 [(.bipush 37, 2, (0, 0, 0))] = 334 := by decide +kernel
theorem og_law_341_1 : oks 12 code 341 [(.iconst 1, 1, (0, 0, 0))] = true ∧ plen 341 [(.iconst 1, 1, (0, 0, 0))] = 342 := by decide +kernel
theorem dg_law_0 : decode code 0 = .ok (.new 8, 3) := by decide +kernel
theorem dg_law_3 : decode code 3 = .ok (.dup, 1) := by decide +kernel
theorem dg_law_4 : decode code 4 = .ok (.invokespecial 171, 3) := by decide +kernel
theorem dg_law_7 : decode code 7 = .ok (.astore_n 1, 1) := by decide +kernel
theorem dg_law_8 : decode code 8 = .ok (.new 8, 3) := by decide +kernel
theorem dg_law_11 : decode code 11 = .ok (.dup, 1) := by decide +kernel
theorem dg_law_12 : decode code 12 = .ok (.invokespecial 171, 3) := by decide +kernel
theorem dg_law_15 : decode code 15 = .ok (.astore_n 2, 1) := by decide +kernel
theorem dg_law_16 : decode code 16 = .ok (.iconst 4, 1) := by decide +kernel
theorem dg_law_17 : decode code 17 = .ok (.newarray .int, 2) := by decide +kernel
theorem dg_law_19 : decode code 19 = .ok (.astore_n 3, 1) := by decide +kernel
theorem dg_law_20 : decode code 20 = .ok (.bipush 24, 2) := by decide +kernel
theorem dg_law_22 : decode code 22 = .ok (.aload_n 0, 1) := by decide +kernel
theorem dg_law_23 : decode code 23 = .ok (.iconst 0, 1) := by decide +kernel
theorem dg_law_24 : decode code 24 = .ok (.invokestatic 172, 3) := by decide +kernel
theorem dg_law_27 : decode code 27 = .ok (.bipush 27, 2) := by decide +kernel
theorem dg_law_29 : decode code 29 = .ok (.irem, 1) := by decide +kernel
theorem dg_law_30 : decode code 30 = .ok (.iadd, 1) := by decide +kernel
theorem dg_law_31 : decode code 31 = .ok (.istore 4, 2) := by decide +kernel
theorem dg_law_33 : decode code 33 = .ok (.iconst 1, 1) := by decide +kernel
theorem dg_law_34 : decode code 34 = .ok (.istore 5, 2) := by decide +kernel
theorem dg_law_36 : decode code 36 = .ok (.iconst 0, 1) := by decide +kernel
theorem dg_law_37 : decode code 37 = .ok (.istore 6, 2) := by decide +kernel
theorem dg_law_264 : decode code 264 = .ok (.iinc 6 1, 3) := by decide +kernel
theorem dg_law_267 : decode code 267 = .ok (.goto (-228), 3) := by decide +kernel
theorem og_law_264_1 : oks 12 code 264 [(.iinc 6 1, 3, (0, 0, 0))] = true ∧ plen 264 [(.iinc 6 1, 3, (0, 0, 0))] = 267 := by decide +kernel
/-- a run of the law -/
def GM (p : Program) (l : Launch) (e : Env) (s : State) (m : MethodId) (args : Array Value) (below : List Frame) (meth : Method) (c : Code) (D : va_G) (cI cZ : ClassId) (Q : State → Prop) (b L9 : Nat) (xs : Nat → Int32) (ax ay : List Nat) (an : Nat) (kc pc : Nat) (L : List (Option AV)) (st : List AV) (ss : List Sg) : Prop :=
  Cx 12 code 9 false p s m args meth c (AL s) D cI cZ → NX s → TH (AL s) s s.heap → FOK [(ax, LAYC), (ay, LAYC), FN an] → (∀ f ∈ ([(ax, LAYC), (ay, LAYC), FN an] : Fr), ∀ a ∈ f.1, AL s a) → va_X b L9 xs s s.heap → b < s.heap.size →
    Rg p l e room_1 s m args below meth c (PwB D cI cZ (AL s) s [(ax, LAYC), (ay, LAYC), FN an] [b, ax.getD 0 0, ay.getD 0 0, an] ss) kc (6 * kc + 100000) Q 9 pc L st
section GMS
variable {p : Program} {l : Launch} {e : Env} {s : State} {m : MethodId} {args : Array Value} {below : List Frame} {meth : Method} {c : Code} {D : va_G} {cI cZ : ClassId} {Q : State → Prop} {b L9 : Nat} {xs : Nat → Int32} {ax ay : List Nat} {an : Nat} {kc pc : Nat} {L : List (Option AV)} {st : List AV} {ss : List Sg}
theorem gm_ops {ops : List OpR} {S S' : LSt} {pc' : Nat} {L' : List (Option AV)} {st' : List AV} (ho : oks 12 code pc ops = true ∧ plen pc ops = pc') (hg : ops.all (fun q => exl q.1) = true) (hx : exs ops (L, st, S) = some (L', st', S'))
    (k : GM p l e s m args below meth c D cI cZ Q b L9 xs ax ay an kc pc' L' st' ss) : GM p l e s m args below meth c D cI cZ Q b L9 xs ax ay an kc pc L st ss := fun hC h1 h2 h3 h4 h5 h6 => rl_ops hC ho hg hx (k hC h1 h2 h3 h4 h5 h6)
theorem gm_goto {off : Int} {tgt : Nat} (hd : decode code pc = .ok (.goto off, 3)) (ht : (pc : Int) + off = (tgt : Int)) (k : GM p l e s m args below meth c D cI cZ Q b L9 xs ax ay an kc tgt L st ss) : GM p l e s m args below meth c D cI cZ Q b L9 xs ax ay an kc pc L st ss := fun hC h1 h2 h3 h4 h5 h6 => rl_goto hC hd ht (k hC h1 h2 h3 h4 h5 h6)
theorem gm_more {kc' : Nat} (h : kc ≤ kc') (k : GM p l e s m args below meth c D cI cZ Q b L9 xs ax ay an kc' pc L st ss) : GM p l e s m args below meth c D cI cZ Q b L9 xs ax ay an kc pc L st ss := fun hC h1 h2 h3 h4 h5 h6 => rl_more h (by omega) (k hC h1 h2 h3 h4 h5 h6)
theorem gm_weak {L' : List (Option AV)} (hlen : L'.length ≤ L.length) (h : ∀ (i : Nat) (v : AV), L'[i]? = some (some v) → L[i]? = some (some v)) (k : GM p l e s m args below meth c D cI cZ Q b L9 xs ax ay an kc pc L' st ss) : GM p l e s m args below meth c D cI cZ Q b L9 xs ax ay an kc pc L st ss := fun hC h1 h2 h3 h4 h5 h6 => rl_weak hlen h (k hC h1 h2 h3 h4 h5 h6)
theorem gm_rem {x y : Int} (hd : decode code pc = .ok (.irem, 1)) (hne : ¬ y = 0) (k : GM p l e s m args below meth c D cI cZ Q b L9 xs ax ay an kc (pc + 1) L (.inl (jrem x y) :: st) ss) : GM p l e s m args below meth c D cI cZ Q b L9 xs ax ay an kc pc L (.inl y :: .inl x :: st) ss := fun hC h1 h2 h3 h4 h5 h6 => rl_rem hC hd hne (k hC h1 h2 h3 h4 h5 h6)
theorem gm_div {x y : Int} (hd : decode code pc = .ok (.idiv, 1)) (hne : ¬ y = 0) (k : GM p l e s m args below meth c D cI cZ Q b L9 xs ax ay an kc (pc + 1) L (.inl (jdiv x y) :: st) ss) : GM p l e s m args below meth c D cI cZ Q b L9 xs ax ay an kc pc L (.inl y :: .inl x :: st) ss := fun hC h1 h2 h3 h4 h5 h6 => rl_div hC hd hne (k hC h1 h2 h3 h4 h5 h6)
theorem gm_rbs (k : RBs ss → GM p l e s m args below meth c D cI cZ Q b L9 xs ax ay an kc pc L st ss) : GM p l e s m args below meth c D cI cZ Q b L9 xs ax ay an kc pc L st ss := fun hC h1 h2 h3 h4 h5 h6 ads H locs ls cst hW hL hv => k hW.2.2.2 hC h1 h2 h3 h4 h5 h6 ads H locs ls cst hW hL hv
theorem gm_st {x y : Int} (h : x = y) (k : GM p l e s m args below meth c D cI cZ Q b L9 xs ax ay an kc pc L (.inl x :: st) ss) : GM p l e s m args below meth c D cI cZ Q b L9 xs ax ay an kc pc L (.inl y :: st) ss := h ▸ k
theorem gm_if_eq {x : Int} {off : Int} {tgt : Nat} (hd : decode code pc = .ok (.ifCond .eq off, 3)) (ht : (pc : Int) + off = (tgt : Int)) (kt : x = 0 → GM p l e s m args below meth c D cI cZ Q b L9 xs ax ay an kc tgt L st ss) (kf : ¬ (x = 0) → GM p l e s m args below meth c D cI cZ Q b L9 xs ax ay an kc (pc + 3) L st ss) : GM p l e s m args below meth c D cI cZ Q b L9 xs ax ay an kc pc L (.inl x :: st) ss :=
  fun hC h1 h2 h3 h4 h5 h6 => rl_if_eq hC hd ht (fun h => kt h hC h1 h2 h3 h4 h5 h6) (fun h => kf h hC h1 h2 h3 h4 h5 h6)
theorem gm_icmp_eq {x y : Int} {off : Int} {tgt : Nat} (hd : decode code pc = .ok (.if_icmp .eq off, 3)) (ht : (pc : Int) + off = (tgt : Int)) (kt : x = y → GM p l e s m args below meth c D cI cZ Q b L9 xs ax ay an kc tgt L st ss) (kf : ¬ (x = y) → GM p l e s m args below meth c D cI cZ Q b L9 xs ax ay an kc (pc + 3) L st ss) : GM p l e s m args below meth c D cI cZ Q b L9 xs ax ay an kc pc L (.inl y :: .inl x :: st) ss :=
  fun hC h1 h2 h3 h4 h5 h6 => rl_icmp_eq hC hd ht (fun h => kt h hC h1 h2 h3 h4 h5 h6) (fun h => kf h hC h1 h2 h3 h4 h5 h6)
theorem gm_if_ne {x : Int} {off : Int} {tgt : Nat} (hd : decode code pc = .ok (.ifCond .ne off, 3)) (ht : (pc : Int) + off = (tgt : Int)) (kt : ¬ x = 0 → GM p l e s m args below meth c D cI cZ Q b L9 xs ax ay an kc tgt L st ss) (kf : x = 0 → GM p l e s m args below meth c D cI cZ Q b L9 xs ax ay an kc (pc + 3) L st ss) : GM p l e s m args below meth c D cI cZ Q b L9 xs ax ay an kc pc L (.inl x :: st) ss :=
  fun hC h1 h2 h3 h4 h5 h6 => rl_if_ne hC hd ht (fun h => kt h hC h1 h2 h3 h4 h5 h6) (fun h => kf h hC h1 h2 h3 h4 h5 h6)
theorem gm_icmp_ne {x y : Int} {off : Int} {tgt : Nat} (hd : decode code pc = .ok (.if_icmp .ne off, 3)) (ht : (pc : Int) + off = (tgt : Int)) (kt : ¬ x = y → GM p l e s m args below meth c D cI cZ Q b L9 xs ax ay an kc tgt L st ss) (kf : x = y → GM p l e s m args below meth c D cI cZ Q b L9 xs ax ay an kc (pc + 3) L st ss) : GM p l e s m args below meth c D cI cZ Q b L9 xs ax ay an kc pc L (.inl y :: .inl x :: st) ss :=
  fun hC h1 h2 h3 h4 h5 h6 => rl_icmp_ne hC hd ht (fun h => kt h hC h1 h2 h3 h4 h5 h6) (fun h => kf h hC h1 h2 h3 h4 h5 h6)
theorem gm_if_lt {x : Int} {off : Int} {tgt : Nat} (hd : decode code pc = .ok (.ifCond .lt off, 3)) (ht : (pc : Int) + off = (tgt : Int)) (kt : x < 0 → GM p l e s m args below meth c D cI cZ Q b L9 xs ax ay an kc tgt L st ss) (kf : ¬ (x < 0) → GM p l e s m args below meth c D cI cZ Q b L9 xs ax ay an kc (pc + 3) L st ss) : GM p l e s m args below meth c D cI cZ Q b L9 xs ax ay an kc pc L (.inl x :: st) ss :=
  fun hC h1 h2 h3 h4 h5 h6 => rl_if_lt hC hd ht (fun h => kt h hC h1 h2 h3 h4 h5 h6) (fun h => kf h hC h1 h2 h3 h4 h5 h6)
theorem gm_icmp_lt {x y : Int} {off : Int} {tgt : Nat} (hd : decode code pc = .ok (.if_icmp .lt off, 3)) (ht : (pc : Int) + off = (tgt : Int)) (kt : x < y → GM p l e s m args below meth c D cI cZ Q b L9 xs ax ay an kc tgt L st ss) (kf : ¬ (x < y) → GM p l e s m args below meth c D cI cZ Q b L9 xs ax ay an kc (pc + 3) L st ss) : GM p l e s m args below meth c D cI cZ Q b L9 xs ax ay an kc pc L (.inl y :: .inl x :: st) ss :=
  fun hC h1 h2 h3 h4 h5 h6 => rl_icmp_lt hC hd ht (fun h => kt h hC h1 h2 h3 h4 h5 h6) (fun h => kf h hC h1 h2 h3 h4 h5 h6)
theorem gm_if_ge {x : Int} {off : Int} {tgt : Nat} (hd : decode code pc = .ok (.ifCond .ge off, 3)) (ht : (pc : Int) + off = (tgt : Int)) (kt : 0 ≤ x → GM p l e s m args below meth c D cI cZ Q b L9 xs ax ay an kc tgt L st ss) (kf : ¬ (0 ≤ x) → GM p l e s m args below meth c D cI cZ Q b L9 xs ax ay an kc (pc + 3) L st ss) : GM p l e s m args below meth c D cI cZ Q b L9 xs ax ay an kc pc L (.inl x :: st) ss :=
  fun hC h1 h2 h3 h4 h5 h6 => rl_if_ge hC hd ht (fun h => kt h hC h1 h2 h3 h4 h5 h6) (fun h => kf h hC h1 h2 h3 h4 h5 h6)
theorem gm_icmp_ge {x y : Int} {off : Int} {tgt : Nat} (hd : decode code pc = .ok (.if_icmp .ge off, 3)) (ht : (pc : Int) + off = (tgt : Int)) (kt : y ≤ x → GM p l e s m args below meth c D cI cZ Q b L9 xs ax ay an kc tgt L st ss) (kf : ¬ (y ≤ x) → GM p l e s m args below meth c D cI cZ Q b L9 xs ax ay an kc (pc + 3) L st ss) : GM p l e s m args below meth c D cI cZ Q b L9 xs ax ay an kc pc L (.inl y :: .inl x :: st) ss :=
  fun hC h1 h2 h3 h4 h5 h6 => rl_icmp_ge hC hd ht (fun h => kt h hC h1 h2 h3 h4 h5 h6) (fun h => kf h hC h1 h2 h3 h4 h5 h6)
theorem gm_if_gt {x : Int} {off : Int} {tgt : Nat} (hd : decode code pc = .ok (.ifCond .gt off, 3)) (ht : (pc : Int) + off = (tgt : Int)) (kt : 0 < x → GM p l e s m args below meth c D cI cZ Q b L9 xs ax ay an kc tgt L st ss) (kf : ¬ (0 < x) → GM p l e s m args below meth c D cI cZ Q b L9 xs ax ay an kc (pc + 3) L st ss) : GM p l e s m args below meth c D cI cZ Q b L9 xs ax ay an kc pc L (.inl x :: st) ss :=
  fun hC h1 h2 h3 h4 h5 h6 => rl_if_gt hC hd ht (fun h => kt h hC h1 h2 h3 h4 h5 h6) (fun h => kf h hC h1 h2 h3 h4 h5 h6)
theorem gm_icmp_gt {x y : Int} {off : Int} {tgt : Nat} (hd : decode code pc = .ok (.if_icmp .gt off, 3)) (ht : (pc : Int) + off = (tgt : Int)) (kt : y < x → GM p l e s m args below meth c D cI cZ Q b L9 xs ax ay an kc tgt L st ss) (kf : ¬ (y < x) → GM p l e s m args below meth c D cI cZ Q b L9 xs ax ay an kc (pc + 3) L st ss) : GM p l e s m args below meth c D cI cZ Q b L9 xs ax ay an kc pc L (.inl y :: .inl x :: st) ss :=
  fun hC h1 h2 h3 h4 h5 h6 => rl_icmp_gt hC hd ht (fun h => kt h hC h1 h2 h3 h4 h5 h6) (fun h => kf h hC h1 h2 h3 h4 h5 h6)
theorem gm_if_le {x : Int} {off : Int} {tgt : Nat} (hd : decode code pc = .ok (.ifCond .le off, 3)) (ht : (pc : Int) + off = (tgt : Int)) (kt : x ≤ 0 → GM p l e s m args below meth c D cI cZ Q b L9 xs ax ay an kc tgt L st ss) (kf : ¬ (x ≤ 0) → GM p l e s m args below meth c D cI cZ Q b L9 xs ax ay an kc (pc + 3) L st ss) : GM p l e s m args below meth c D cI cZ Q b L9 xs ax ay an kc pc L (.inl x :: st) ss :=
  fun hC h1 h2 h3 h4 h5 h6 => rl_if_le hC hd ht (fun h => kt h hC h1 h2 h3 h4 h5 h6) (fun h => kf h hC h1 h2 h3 h4 h5 h6)
theorem gm_icmp_le {x y : Int} {off : Int} {tgt : Nat} (hd : decode code pc = .ok (.if_icmp .le off, 3)) (ht : (pc : Int) + off = (tgt : Int)) (kt : x ≤ y → GM p l e s m args below meth c D cI cZ Q b L9 xs ax ay an kc tgt L st ss) (kf : ¬ (x ≤ y) → GM p l e s m args below meth c D cI cZ Q b L9 xs ax ay an kc (pc + 3) L st ss) : GM p l e s m args below meth c D cI cZ Q b L9 xs ax ay an kc pc L (.inl y :: .inl x :: st) ss :=
  fun hC h1 h2 h3 h4 h5 h6 => rl_icmp_le hC hd ht (fun h => kt h hC h1 h2 h3 h4 h5 h6) (fun h => kf h hC h1 h2 h3 h4 h5 h6)
theorem gm_S {F' : Fr} {rs' sel : List Nat} {ss1 ss1' ss2 : List Sg} {v1 : Option Int} {as as' : List AV} {idx n g kc2 : Nat} {M1 : Mr} (hd : decode code pc = .ok (.invokestatic idx, 3)) (hl : Cond.methodLink (ownN 12) idx M1.2.1 ∈ TB) (hsm : Cond.static M1.2.1 ∈ TB) (hm : MOK M1.2.1 M1.2.2.1 M1.2.2.2.1 M1.2.2.2.2 n) (hn : as.length = n) (hst : st.length ≤ 8) (hg : kc + g = kc2) (hg2 : kc2 ≤ 600086)
    (hsel : SelOK [(ax, LAYC), (ay, LAYC), FN an] F' ss ss1 ss1' ss2 sel) (hcv : ∀ cas, vrs [b, ax.getD 0 0, ay.getD 0 0, an] as cas → vrs rs' as' cas) (hlc : LC l 161 g M1.2.1 (wsM M1.2.1 M1.2.2.1 M1.2.2.2.1 M1.2.2.2.2) as' rs' F' ss1 v1 ss1') (st0 : List AV) (hs0 : st0 = as.reverse ++ st)
    (kk : GM p l e s m args below meth c D cI cZ Q b L9 xs ax ay an kc2 (pc + 3) L (pushI v1 st) ss2) : GM p l e s m args below meth c D cI cZ Q b L9 xs ax ay an kc pc L st0 ss := by
  intro hC hN hT hF hFA hX hbl
  have h9 := kk hC hN hT hF hFA hX hbl
  subst hg
  have hr1 : room_1.cells = 600086 := by decide
  have hr2 : room_1.slots = 7301442 := by decide
  refine bl_S (d1 := 161) (g := g) hC hN hT hF hFA (by decide) (by decide) (by omega) (by omega) hd hl hsm hm hn hst hsel hcv hlc st0 hs0 ?_
  rw [show 6 * kc + 100000 + 6 * g = 6 * (kc + g) + 100000 by omega]
  exact h9
theorem preX_blind {F : Fr} {sz : Nat} {cvs : List Value} : FrameBlind (va_Pc cvs (fun U => PreF D cI cZ F sz ss U ∧ va_X b L9 xs U U.heap)) := fun a U g mk q => by
  obtain ⟨q0, ⟨q1, qP, qK, qN, qT⟩, qX⟩ := q
  exact ⟨q0, ⟨q1, qP, KN.moved (s := U) (U := U.calling g mk a) (State.WarmedH.refl U) qK, NX.moved (s := U) (U := U.calling g mk a) (State.WarmedH.refl U) qN, TH.moved (u := U) (U := U.calling g mk a) (State.WarmedH.refl U) qT⟩, va_X.moved (u := U) (U := U.calling g mk a) (State.WarmedH.refl U).alike qX⟩
theorem gm_drawn {k : Int} (hk : 0 ≤ k) (hL9 : L9 ≤ 3000) (hkc : kc ≤ 600086) (hd : decode code pc = .ok (.invokestatic 172, 3)) (hst : st.length ≤ 8) (kk : GM p l e s m args below meth c D cI cZ Q b L9 xs ax ay an kc (pc + 3) L (.inl (drawnF xs L9 k) :: st) ss) : GM p l e s m args below meth c D cI cZ Q b L9 xs ax ay an kc pc L (.inl k :: .inr 0 :: st) ss := by
  intro hC hN hT hF hFA hX hbl ads H locs ls cst hW hL hv
  have h9 := kk hC hN hT hF hFA hX hbl
  obtain ⟨rfl, hP, hS, hR⟩ := hW
  match cst, hv with
  | c1 :: c2 :: crest, hv =>
    obtain ⟨hir, rfl⟩ := vr_int hv.1
    obtain ⟨a, ha, rfl⟩ := id hv.2.1
    obtain rfl : b = a := Option.some.inj ha
    have hr1 : room_1.cells = 600086 := by decide
    have hr2 : room_1.slots = 7301442 := by decide
    obtain ⟨hx, hb, hml, hown, hts, -, -, hK, hA⟩ := id hC
    have hbA : ¬ AL s b := Nat.not_le.mpr hbl
    have hrun := va_runS (meth := meth) (R := room_1) (l := l) (e := e) (below := below) (H := H) (locs := locs) (cells := kc) (slots := 6 * kc + 100000) (g := F0 m pc ls ([Value.ref b, Value.int (Int32.ofInt k)].reverse ++ crest)) (As := [Value.ref b, Value.int (Int32.ofInt k)]) (rest := crest) ⟨hx, hb, hml, hown, hts⟩ (ld_drawn l 161 b L9 xs hL9 k hk D cI cZ H.size [Value.ref b, Value.int (Int32.ofInt k)] ⟨⟨b, rfl, rfl⟩, ⟨hir, rfl⟩, trivial⟩) (va_cwS 2 hts (goodTB (fun w hw => by
      rcases List.mem_append.mp hw with hw | hw
      · simp only [List.mem_cons, List.not_mem_nil, or_false] at hw
        rcases hw with rfl | rfl | rfl
        · exact ln_12_172
        · exact sm_L_drawn
        · exact mok_L_drawn.2.1
      · exact in_wsM mok_L_drawn w hw)) rfl rfl rfl mok_L_drawn.2.2.1 (hd_room2 (d1 := 161) (mc := 0) (ms := 6 * 0) (by decide) (by decide) mok_L_drawn.2.2.2.2)) ⟨preX_blind, fun U hU hw => ⟨rfl, bl_pre hA hK hN hT hFA (sel_0 (F := [(ax, LAYC), (ay, LAYC), FN an]) (ss := ss)) hP hS hU hw, by rw [hU]; exact (hX.kept (hS.2.1 b hbl hbA)).moved hw.alike⟩⟩ rfl rfl hL.1 rfl (by show 2 * 0 + _ ≤ 8; rw [vrs_cat hv.2.2]; omega) hd ⟨by omega, by omega⟩
    exact bl_back hA hF hFA (sel_0 (F := [(ax, LAYC), (ay, LAYC), FN an]) (ss := ss)) hP hS hR hL hv.2.2 hrun h9
  | [c1], hv => exact hv.2.elim
end GMS
/-- what the law's pieces have in common: two machines and their counts -/
def LawH (l : Launch) (Inv : Sg → Sg → Sg → Prop) : Prop :=
  (∀ {σ1 σ2 ν : Sg} (x : Int), Inv σ1 σ2 ν → RBs [σ1, σ2, ν] → 0 ≤ x → x < 2147483648 → ∃ (k : Int) (p1 p2 : Sg), F_act x (ν 0 0) (ν 0 1) (ν 0 2) (ν 0 3) σ1 = some (k, p1) ∧ F_act x (ν 0 0) (ν 0 1) (ν 0 2) (ν 0 3) σ2 = some (k, p2) ∧ Inv p1 p2 (F_keep x k ν)) ∧
  (∀ {σ1 σ2 ν : Sg} (x : Int), Inv σ1 σ2 ν → RBs [σ1, σ2, ν] → 0 ≤ x ∧ x < 10000 → ∀ (d : Nat) (ax : List Nat) (an a0 : Nat), 161 ≤ d → ax[0]? = some a0 → LC l d 70 m_L_refuses.2.1 (wsM m_L_refuses.2.1 m_L_refuses.2.2.1 m_L_refuses.2.2.2.1 m_L_refuses.2.2.2.2) [.inr 0, .inr 1, .inl x] [a0, an] [(ax, LAYC), FN an] [σ2, ν] (some 1) [σ2, ν]) ∧
  (∀ {σ1 σ2 ν : Sg} (x : Int), Inv σ1 σ2 ν → RBs [σ1, σ2, ν] → 0 ≤ x → x < 2147483648 → ∃ p1 p2 : Sg, Inv p1 p2 ν ∧ ∀ (d : Nat) (ax ay : List Nat) (an a0 b0 : Nat), 161 ≤ d → ax[0]? = some a0 → ay[0]? = some b0 → LC l d 60 m_L_alike.2.1 (wsM m_L_alike.2.1 m_L_alike.2.2.1 m_L_alike.2.2.2.1 m_L_alike.2.2.2.2) [.inr 0, .inr 1, .inr 2, .inl x] [a0, b0, an] [(ax, LAYC), (ay, LAYC), FN an] [σ1, σ2, ν] (some 1) [p1, p2, ν]) ∧
  (∀ {σ1 σ2 ν : Sg} (x : Int), Inv σ1 σ2 ν → RBs [σ1, σ2, ν] → 0 ≤ x → x < 2147483648 → ∃ p1 p2 : Sg, Inv p1 p2 ν ∧ (∀ (d : Nat) (ax : List Nat) (an a0 : Nat), 161 ≤ d → ax[0]? = some a0 → LC l d 64 m_L_agrees.2.1 (wsM m_L_agrees.2.1 m_L_agrees.2.2.1 m_L_agrees.2.2.2.1 m_L_agrees.2.2.2.2) [.inr 0, .inr 1, .inl x] [a0, an] [(ax, LAYC), FN an] [σ1, ν] (some 1) [p1, ν]) ∧ ∀ (d : Nat) (ax : List Nat) (an a0 : Nat), 161 ≤ d → ax[0]? = some a0 → LC l d 64 m_L_agrees.2.1 (wsM m_L_agrees.2.1 m_L_agrees.2.2.1 m_L_agrees.2.2.2.1 m_L_agrees.2.2.2.2) [.inr 0, .inr 1, .inl x] [a0, an] [(ax, LAYC), FN an] [σ2, ν] (some 1) [p2, ν])
theorem LawH.act {l : Launch} {Inv : Sg → Sg → Sg → Prop} (h : LawH l Inv) : ∀ {σ1 σ2 ν : Sg} (x : Int), Inv σ1 σ2 ν → RBs [σ1, σ2, ν] → 0 ≤ x → x < 2147483648 → ∃ (k : Int) (p1 p2 : Sg), F_act x (ν 0 0) (ν 0 1) (ν 0 2) (ν 0 3) σ1 = some (k, p1) ∧ F_act x (ν 0 0) (ν 0 1) (ν 0 2) (ν 0 3) σ2 = some (k, p2) ∧ Inv p1 p2 (F_keep x k ν) := h.1
theorem LawH.ref {l : Launch} {Inv : Sg → Sg → Sg → Prop} (h : LawH l Inv) : ∀ {σ1 σ2 ν : Sg} (x : Int), Inv σ1 σ2 ν → RBs [σ1, σ2, ν] → 0 ≤ x ∧ x < 10000 → ∀ (d : Nat) (ax : List Nat) (an a0 : Nat), 161 ≤ d → ax[0]? = some a0 → LC l d 70 m_L_refuses.2.1 (wsM m_L_refuses.2.1 m_L_refuses.2.2.1 m_L_refuses.2.2.2.1 m_L_refuses.2.2.2.2) [.inr 0, .inr 1, .inl x] [a0, an] [(ax, LAYC), FN an] [σ2, ν] (some 1) [σ2, ν] := h.2.1
theorem LawH.alike {l : Launch} {Inv : Sg → Sg → Sg → Prop} (h : LawH l Inv) : ∀ {σ1 σ2 ν : Sg} (x : Int), Inv σ1 σ2 ν → RBs [σ1, σ2, ν] → 0 ≤ x → x < 2147483648 → ∃ p1 p2 : Sg, Inv p1 p2 ν ∧ ∀ (d : Nat) (ax ay : List Nat) (an a0 b0 : Nat), 161 ≤ d → ax[0]? = some a0 → ay[0]? = some b0 → LC l d 60 m_L_alike.2.1 (wsM m_L_alike.2.1 m_L_alike.2.2.1 m_L_alike.2.2.2.1 m_L_alike.2.2.2.2) [.inr 0, .inr 1, .inr 2, .inl x] [a0, b0, an] [(ax, LAYC), (ay, LAYC), FN an] [σ1, σ2, ν] (some 1) [p1, p2, ν] := h.2.2.1
theorem LawH.agrees {l : Launch} {Inv : Sg → Sg → Sg → Prop} (h : LawH l Inv) : ∀ {σ1 σ2 ν : Sg} (x : Int), Inv σ1 σ2 ν → RBs [σ1, σ2, ν] → 0 ≤ x → x < 2147483648 → ∃ p1 p2 : Sg, Inv p1 p2 ν ∧ (∀ (d : Nat) (ax : List Nat) (an a0 : Nat), 161 ≤ d → ax[0]? = some a0 → LC l d 64 m_L_agrees.2.1 (wsM m_L_agrees.2.1 m_L_agrees.2.2.1 m_L_agrees.2.2.2.1 m_L_agrees.2.2.2.2) [.inr 0, .inr 1, .inl x] [a0, an] [(ax, LAYC), FN an] [σ1, ν] (some 1) [p1, ν]) ∧ ∀ (d : Nat) (ax : List Nat) (an a0 : Nat), 161 ≤ d → ax[0]? = some a0 → LC l d 64 m_L_agrees.2.1 (wsM m_L_agrees.2.1 m_L_agrees.2.2.1 m_L_agrees.2.2.2.1 m_L_agrees.2.2.2.2) [.inr 0, .inr 1, .inl x] [a0, an] [(ax, LAYC), FN an] [σ2, ν] (some 1) [p2, ν] := h.2.2.2
/-- the number of the act -/
def lawX (y i : Int) : Int := (if i = 2 then wrap ((wrap (24 * (wrap ((jdiv (jdiv y 24) 3) * 3)))) + 15) else (if i = 0 then wrap ((wrap (24 * (jdiv y 24))) + 6) else (if i = 1 then wrap ((wrap (24 * (jdiv y 24))) + 1) else y : Int) : Int) : Int)
theorem jdx {x : Int} (h : 0 ≤ x ∧ x < 2147483648) (k : Int) (hk : k = 3 ∨ k = 7 ∨ k = 24 ∨ k = 29 ∨ k = 31 ∨ k = 37) : 0 ≤ jdiv x k ∧ jdiv x k < 2147483648 := by
  unfold jdiv
  rw [Int.tdiv_eq_ediv_of_nonneg h.1]
  rcases hk with rfl | rfl | rfl | rfl | rfl | rfl <;> (rw [wrap_id (by omega) (by omega)]; omega)
theorem jrx {x : Int} (h : 0 ≤ x) (k : Int) (hk : 0 < k) : 0 ≤ jrem x k ∧ jrem x k < k := by
  unfold jrem
  rw [Int.tmod_eq_emod_of_nonneg h]
  exact ⟨Int.emod_nonneg _ (by omega), Int.emod_lt_of_pos _ hk⟩
theorem drawn_rng (xs : Nat → Int32) (L9 : Nat) (k : Int) : 0 ≤ drawnF xs L9 k ∧ drawnF xs L9 k < 2147483648 := by
  unfold drawnF jand
  generalize Int32.ofInt (if (L9 : Int) ≤ k then _ else _) = a
  have h : (a &&& Int32.ofInt 2147483647).toBitVec.toNat ≤ 2147483647 := by
    rw [Int32.toBitVec_and, BitVec.toNat_and]
    exact Nat.le_trans Nat.and_le_right (by decide)
  show 0 ≤ (a &&& Int32.ofInt 2147483647).toBitVec.toInt ∧ (a &&& Int32.ofInt 2147483647).toBitVec.toInt < _
  rw [BitVec.toInt_eq_toNat_cond]
  split <;> omega
theorem lawX_rng {y i : Int} (h : 0 ≤ y ∧ y < 2147483648) : 0 ≤ lawX y i ∧ lawX y i < 2147483648 := by
  have h1 := jdx h 24 (by decide)
  have h2 := jdx h1 3 (by decide)
  have e1 : jdiv y 24 = y / 24 := by unfold jdiv; rw [Int.tdiv_eq_ediv_of_nonneg h.1, wrap_id (by omega) (by omega)]
  have e2 : jdiv (jdiv y 24) 3 = y / 24 / 3 := by rw [e1]; unfold jdiv; rw [Int.tdiv_eq_ediv_of_nonneg (by omega), wrap_id (by omega) (by omega)]
  unfold lawX
  split
  · rw [e2, wrap_id (z := y / 24 / 3 * 3) (by omega) (by omega), wrap_id (z := 24 * (y / 24 / 3 * 3)) (by omega) (by omega), wrap_id (by omega) (by omega)]
    omega
  split
  · rw [e1, wrap_id (z := 24 * (y / 24)) (by omega) (by omega), wrap_id (by omega) (by omega)]
    omega
  split
  · rw [e1, wrap_id (z := 24 * (y / 24)) (by omega) (by omega), wrap_id (by omega) (by omega)]
    omega
  · exact h
section LAWM
variable {p : Program} {l : Launch} {e : Env} {s : State} {m : MethodId} {args : Array Value} {below : List Frame} {meth : Method} {c : Code} {D : va_G} {cI cZ : ClassId} {Q : State → Prop} {b L9 : Nat} {xs : Nat → Int32} {ax ay : List Nat} {an : Nat}
set_option maxHeartbeats 4000000 in
theorem law_pick {kc : Nat} {th i : Int} {σ1 σ2 ν : Sg} (hL9 : L9 ≤ 3000) (hkc : kc ≤ 500000) (hlt : ¬ th ≤ i) (hi : 0 ≤ wrap (1 + i)) (hJX : GM p l e s m args below meth c D cI cZ Q b L9 xs ax ay an (kc + 0) 127 [some (.inr 0), some (.inr 1), some (.inr 2), some (.inr 3), some (.inl th), some (.inl 1), some (.inl i), some (.inl (lawX (drawnF xs L9 (wrap (1 + i))) i)), none] [] [σ1, σ2, ν]) : GM p l e s m args below meth c D cI cZ Q b L9 xs ax ay an (kc + 0) 39 [some (.inr 0), some (.inr 1), some (.inr 2), some (.inr 3), some (.inl th), some (.inl 1), some (.inl i), none, none] [] [σ1, σ2, ν] := by
  refine gm_ops (S := ([], ν)) (S' := ([], ν)) og_law_39_2 (by decide) (L' := [some (.inr 0), some (.inr 1), some (.inr 2), some (.inr 3), some (.inl th), some (.inl 1), some (.inl i), none, none]) (st' := [.inl th, .inl i]) rfl ?_
  refine gm_icmp_ge dg_law_43 (tgt := 270) (by rfl) (fun hc => absurd hc hlt) (fun _ => ?_)
  refine gm_ops (S := ([], ν)) (S' := ([], ν)) og_law_46_1 (by decide) (L' := [some (.inr 0), some (.inr 1), some (.inr 2), some (.inr 3), some (.inl th), some (.inl 1), some (.inl i), none, none]) (st' := [.inl 1]) rfl ?_
  refine gm_if_eq dg_law_48 (tgt := 270) (by rfl) (fun hc => absurd hc (by decide)) (fun _ => ?_)
  refine gm_ops (S := ([], ν)) (S' := ([], ν)) og_law_51_4 (by decide) (L' := [some (.inr 0), some (.inr 1), some (.inr 2), some (.inr 3), some (.inl th), some (.inl 1), some (.inl i), none, none]) (st' := [.inl (wrap (1 + i)), .inr 0]) rfl ?_
  refine gm_drawn hi hL9 (by omega) dg_law_56 (Nat.le_of_ble_eq_true rfl) ?_
  refine gm_ops (S := ([], ν)) (S' := ([], ν)) og_law_59_3 (by decide) (L' := [some (.inr 0), some (.inr 1), some (.inr 2), some (.inr 3), some (.inl th), some (.inl 1), some (.inl i), some (.inl (drawnF xs L9 (wrap (1 + i)))), none]) (st' := [.inl 2, .inl i]) rfl ?_
  suffices hJ1 : GM p l e s m args below meth c D cI cZ Q b L9 xs ax ay an (kc + 0) 125 [some (.inr 0), some (.inr 1), some (.inr 2), some (.inr 3), some (.inl th), some (.inl 1), some (.inl i), some (.inl (drawnF xs L9 (wrap (1 + i)))), none] [.inl (lawX (drawnF xs L9 (wrap (1 + i))) i)] [σ1, σ2, ν] by
    refine gm_icmp_ne dg_law_64 (tgt := 85) (by rfl) (fun hc2 => ?_) (fun hc2 => ?_)
    · refine gm_ops (S := ([], ν)) (S' := ([], ν)) og_law_85_1 (by decide) (L' := [some (.inr 0), some (.inr 1), some (.inr 2), some (.inr 3), some (.inl th), some (.inl 1), some (.inl i), some (.inl (drawnF xs L9 (wrap (1 + i)))), none]) (st' := [.inl i]) rfl ?_
      refine gm_if_ne dg_law_87 (tgt := 104) (by rfl) (fun hc3 => ?_) (fun hc3 => ?_)
      · refine gm_ops (S := ([], ν)) (S' := ([], ν)) og_law_104_2 (by decide) (L' := [some (.inr 0), some (.inr 1), some (.inr 2), some (.inr 3), some (.inl th), some (.inl 1), some (.inl i), some (.inl (drawnF xs L9 (wrap (1 + i)))), none]) (st' := [.inl 1, .inl i]) rfl ?_
        refine gm_icmp_ne dg_law_107 (tgt := 123) (by rfl) (fun hc4 => ?_) (fun hc4 => ?_)
        · refine gm_ops (S := ([], ν)) (S' := ([], ν)) og_law_123_1 (by decide) (L' := [some (.inr 0), some (.inr 1), some (.inr 2), some (.inr 3), some (.inl th), some (.inl 1), some (.inl i), some (.inl (drawnF xs L9 (wrap (1 + i)))), none]) (st' := [.inl (drawnF xs L9 (wrap (1 + i)))]) rfl ?_
          exact gm_st (by unfold lawX; rw [if_neg hc2, if_neg hc3, if_neg hc4]) hJ1
        · refine gm_ops (S := ([], ν)) (S' := ([], ν)) og_law_110_3 (by decide) (L' := [some (.inr 0), some (.inr 1), some (.inr 2), some (.inr 3), some (.inl th), some (.inl 1), some (.inl i), some (.inl (drawnF xs L9 (wrap (1 + i)))), none]) (st' := [.inl 24, .inl (drawnF xs L9 (wrap (1 + i))), .inl 24]) rfl ?_
          refine gm_div dg_law_116 (by decide) ?_
          refine gm_ops (S := ([], ν)) (S' := ([], ν)) og_law_117_3 (by decide) (L' := [some (.inr 0), some (.inr 1), some (.inr 2), some (.inr 3), some (.inl th), some (.inl 1), some (.inl i), some (.inl (drawnF xs L9 (wrap (1 + i)))), none]) (st' := [.inl (wrap ((wrap (24 * (jdiv (drawnF xs L9 (wrap (1 + i))) 24))) + 1))]) rfl ?_
          refine gm_goto dg_law_120 (tgt := 125) (by rfl) ?_
          exact gm_st (by unfold lawX; rw [if_neg hc2, if_neg hc3, if_pos hc4]) hJ1
      · refine gm_ops (S := ([], ν)) (S' := ([], ν)) og_law_90_3 (by decide) (L' := [some (.inr 0), some (.inr 1), some (.inr 2), some (.inr 3), some (.inl th), some (.inl 1), some (.inl i), some (.inl (drawnF xs L9 (wrap (1 + i)))), none]) (st' := [.inl 24, .inl (drawnF xs L9 (wrap (1 + i))), .inl 24]) rfl ?_
        refine gm_div dg_law_96 (by decide) ?_
        refine gm_ops (S := ([], ν)) (S' := ([], ν)) og_law_97_3 (by decide) (L' := [some (.inr 0), some (.inr 1), some (.inr 2), some (.inr 3), some (.inl th), some (.inl 1), some (.inl i), some (.inl (drawnF xs L9 (wrap (1 + i)))), none]) (st' := [.inl (wrap ((wrap (24 * (jdiv (drawnF xs L9 (wrap (1 + i))) 24))) + 6))]) rfl ?_
        refine gm_goto dg_law_101 (tgt := 125) (by rfl) ?_
        exact gm_st (by unfold lawX; rw [if_neg hc2, if_pos hc3]) hJ1
    · refine gm_ops (S := ([], ν)) (S' := ([], ν)) og_law_67_3 (by decide) (L' := [some (.inr 0), some (.inr 1), some (.inr 2), some (.inr 3), some (.inl th), some (.inl 1), some (.inl i), some (.inl (drawnF xs L9 (wrap (1 + i)))), none]) (st' := [.inl 24, .inl (drawnF xs L9 (wrap (1 + i))), .inl 24]) rfl ?_
      refine gm_div dg_law_73 (by decide) ?_
      refine gm_ops (S := ([], ν)) (S' := ([], ν)) og_law_74_1 (by decide) (L' := [some (.inr 0), some (.inr 1), some (.inr 2), some (.inr 3), some (.inl th), some (.inl 1), some (.inl i), some (.inl (drawnF xs L9 (wrap (1 + i)))), none]) (st' := [.inl 3, .inl (jdiv (drawnF xs L9 (wrap (1 + i))) 24), .inl 24]) rfl ?_
      refine gm_div dg_law_75 (by decide) ?_
      refine gm_ops (S := ([], ν)) (S' := ([], ν)) og_law_76_5 (by decide) (L' := [some (.inr 0), some (.inr 1), some (.inr 2), some (.inr 3), some (.inl th), some (.inl 1), some (.inl i), some (.inl (drawnF xs L9 (wrap (1 + i)))), none]) (st' := [.inl (wrap ((wrap (24 * (wrap ((jdiv (jdiv (drawnF xs L9 (wrap (1 + i))) 24) 3) * 3)))) + 15))]) rfl ?_
      refine gm_goto dg_law_82 (tgt := 125) (by rfl) ?_
      exact gm_st (by unfold lawX; rw [if_pos hc2]) hJ1
  refine gm_ops (S := ([], ν)) (S' := ([], ν)) og_law_125_1 (by decide) (L' := [some (.inr 0), some (.inr 1), some (.inr 2), some (.inr 3), some (.inl th), some (.inl 1), some (.inl i), some (.inl (lawX (drawnF xs L9 (wrap (1 + i))) i)), none]) (st' := []) rfl ?_
  exact hJX
set_option maxHeartbeats 4000000 in
theorem law_body {Inv : Sg → Sg → Sg → Prop} (HL : LawH l Inv) (hl : l.stackTraces = false) {kc : Nat} {th i x : Int} {σ1 σ2 ν : Sg} (hkc : kc ≤ 500000) (hax : ax[0]? = some (ax.getD 0 0)) (hay : ay[0]? = some (ay.getD 0 0)) (hx0 : 0 ≤ x) (hx1 : x < 2147483648) (hI : Inv σ1 σ2 ν)
    (kk : ∀ (kc2 : Nat) (z : Int) (p1 p2 ν' : Sg), kc2 ≤ kc + 400 → Inv p1 p2 ν' → GM p l e s m args below meth c D cI cZ Q b L9 xs ax ay an kc2 264 [some (.inr 0), some (.inr 1), some (.inr 2), some (.inr 3), some (.inl th), some (.inl 1), some (.inl i), some (.inl x), some (.inl z)] [] [p1, p2, ν']) : GM p l e s m args below meth c D cI cZ Q b L9 xs ax ay an (kc + 0) 127 [some (.inr 0), some (.inr 1), some (.inr 2), some (.inr 3), some (.inl th), some (.inl 1), some (.inl i), some (.inl x), none] [] [σ1, σ2, ν] := by
  refine gm_rbs (fun hr0 => ?_)
  have hν : ∀ i : Nat, inR (ν 0 i) := fun i => hr0 ν (by simp) 0 i
  obtain ⟨k, p1, p2, hA1, hA2, hI2⟩ := HL.act x hI hr0 hx0 hx1
  have hx9 : 0 ≤ jrem x 9973 ∧ jrem x 9973 < 10000 := ⟨(jrx hx0 9973 (by decide)).1, by have := (jrx hx0 9973 (by decide)).2; omega⟩
  have hx4 : 0 ≤ jrem x 499 ∧ jrem x 499 < 10000 := ⟨(jrx hx0 499 (by decide)).1, by have := (jrx hx0 499 (by decide)).2; omega⟩
  refine gm_ops (S := ([], ν)) (S' := ([], ν)) og_law_127_3 (by decide) (L' := [some (.inr 0), some (.inr 1), some (.inr 2), some (.inr 3), some (.inl th), some (.inl 1), some (.inl i), some (.inl x), none]) (st' := [.inl x, .inr 3, .inr 1]) rfl ?_
  refine gm_S (M1 := m_L_act) (g := 1) (F' := [(ax, LAYC), FN an]) (rs' := [ax.getD 0 0, an]) (as := [.inr 1, .inr 3, .inl x]) (as' := [.inr 0, .inr 1, .inl x]) (v1 := some k) dg_law_131 ln_12_176 sm_L_act mok_L_act rfl (Nat.le_of_ble_eq_true rfl) rfl (by omega) sel_3_02 (vrs_c (vr_rr rfl rfl) (vrs_c (vr_rr rfl rfl) (cv_n (vs := [x])))) (lc_act l hl 161 (Nat.le_refl _) ax an _ hax x σ1 ν p1 k hν hA1) _ rfl ?_
  refine gm_ops (S := ([], ν)) (S' := ([], ν)) og_law_134_5 (by decide) (L' := [some (.inr 0), some (.inr 1), some (.inr 2), some (.inr 3), some (.inl th), some (.inl 1), some (.inl i), some (.inl x), some (.inl k)]) (st' := [.inl 9973, .inl x, .inr 3, .inr 2]) rfl ?_
  refine gm_rem dg_law_143 (by decide) ?_
  refine gm_S (M1 := m_L_refuses) (g := 70) (F' := [(ay, LAYC), FN an]) (rs' := [ay.getD 0 0, an]) (as := [.inr 2, .inr 3, .inl (jrem x 9973)]) (as' := [.inr 0, .inr 1, .inl (jrem x 9973)]) (v1 := some 1) dg_law_144 ln_12_180 sm_L_refuses mok_L_refuses rfl (Nat.le_of_ble_eq_true rfl) rfl (by omega) sel_3_12 (vrs_c (vr_rr rfl rfl) (vrs_c (vr_rr rfl rfl) (cv_n (vs := [jrem x 9973])))) (HL.ref (jrem x 9973) hI hr0 hx9 161 ay an _ (Nat.le_refl _) hay) _ rfl ?_
  refine gm_if_eq dg_law_147 (tgt := 166) (by rfl) (fun hc => absurd hc (by decide)) (fun _ => ?_)
  refine gm_ops (S := ([], ν)) (S' := ([], ν)) og_law_150_3 (by decide) (L' := [some (.inr 0), some (.inr 1), some (.inr 2), some (.inr 3), some (.inl th), some (.inl 1), some (.inl i), some (.inl x), some (.inl k)]) (st' := [.inl x, .inr 3, .inr 2]) rfl ?_
  refine gm_S (M1 := m_L_act) (g := 1) (F' := [(ay, LAYC), FN an]) (rs' := [ay.getD 0 0, an]) (as := [.inr 2, .inr 3, .inl x]) (as' := [.inr 0, .inr 1, .inl x]) (v1 := some k) dg_law_154 ln_12_176 sm_L_act mok_L_act rfl (Nat.le_of_ble_eq_true rfl) rfl (by omega) sel_3_12 (vrs_c (vr_rr rfl rfl) (vrs_c (vr_rr rfl rfl) (cv_n (vs := [x])))) (lc_act l hl 161 (Nat.le_refl _) ay an _ hay x σ2 ν p2 k hν hA2) _ rfl ?_
  refine gm_ops (S := ([], ν)) (S' := ([], ν)) og_law_157_1 (by decide) (L' := [some (.inr 0), some (.inr 1), some (.inr 2), some (.inr 3), some (.inl th), some (.inl 1), some (.inl i), some (.inl x), some (.inl k)]) (st' := [.inl k, .inl k]) rfl ?_
  refine gm_icmp_ne dg_law_159 (tgt := 166) (by rfl) (fun hc => absurd rfl hc) (fun _ => ?_)
  refine gm_ops (S := ([], ν)) (S' := ([], ν)) og_law_162_1 (by decide) (L' := [some (.inr 0), some (.inr 1), some (.inr 2), some (.inr 3), some (.inl th), some (.inl 1), some (.inl i), some (.inl x), some (.inl k)]) (st' := [.inl 1]) rfl ?_
  refine gm_goto dg_law_163 (tgt := 167) (by rfl) ?_
  refine gm_ops (S := ([], ν)) (S' := ([], ν)) og_law_167_4 (by decide) (L' := [some (.inr 0), some (.inr 1), some (.inr 2), some (.inr 3), some (.inl th), some (.inl 1), some (.inl i), some (.inl x), some (.inl k)]) (st' := [.inl k, .inl x, .inr 3]) rfl ?_
  refine gm_S (M1 := m_L_keep) (g := 0) (F' := [FN an]) (rs' := [an]) (as := [.inr 3, .inl x, .inl k]) (as' := [.inr 0, .inl x, .inl k]) (v1 := none) dg_law_174 ln_12_184 sm_L_keep mok_L_keep rfl (Nat.le_of_ble_eq_true rfl) rfl (by omega) sel_3_2 (vrs_c (vr_rr rfl rfl) (cv_n (vs := [x, k]))) (lc_keep l 161 an x k ν) _ rfl ?_
  refine gm_ops (S := ([], ν)) (S' := ([], ν)) og_law_177_1 (by decide) (L' := [some (.inr 0), some (.inr 1), some (.inr 2), some (.inr 3), some (.inl th), some (.inl 1), some (.inl i), some (.inl x), some (.inl k)]) (st' := [.inl 1]) rfl ?_
  refine gm_if_eq dg_law_179 (tgt := 261) (by rfl) (fun hc => absurd hc (by decide)) (fun _ => ?_)
  refine gm_ops (S := ([], ν)) (S' := ([], ν)) og_law_182_2 (by decide) (L' := [some (.inr 0), some (.inr 1), some (.inr 2), some (.inr 3), some (.inl th), some (.inl 1), some (.inl i), some (.inl x), some (.inl k)]) (st' := [.inl 3, .inl i]) rfl ?_
  refine gm_rem dg_law_185 (by decide) ?_
  refine gm_if_gt dg_law_186 (tgt := 203) (by rfl) (fun hc5 => ?_) (fun hc5 => ?_)
  · refine gm_ops (S := ([], ν)) (S' := ([], ν)) og_law_203_2 (by decide) (L' := [some (.inr 0), some (.inr 1), some (.inr 2), some (.inr 3), some (.inl th), some (.inl 1), some (.inl i), some (.inl x), some (.inl k)]) (st' := [.inl 3, .inl i]) rfl ?_
    refine gm_rem dg_law_206 (by decide) ?_
    refine gm_ops (S := ([], ν)) (S' := ([], ν)) og_law_207_1 (by decide) (L' := [some (.inr 0), some (.inr 1), some (.inr 2), some (.inr 3), some (.inl th), some (.inl 1), some (.inl i), some (.inl x), some (.inl k)]) (st' := [.inl 1, .inl (jrem i 3)]) rfl ?_
    refine gm_icmp_gt dg_law_208 (tgt := 224) (by rfl) (fun hc6 => ?_) (fun hc6 => ?_)
    · refine gm_ops (S := ([], ν)) (S' := ([], ν)) og_law_224_2 (by decide) (L' := [some (.inr 0), some (.inr 1), some (.inr 2), some (.inr 3), some (.inl th), some (.inl 1), some (.inl i), some (.inl x), some (.inl k)]) (st' := [.inl 4, .inl i]) rfl ?_
      refine gm_rem dg_law_227 (by decide) ?_
      refine gm_if_gt dg_law_228 (tgt := 257) (by rfl) (fun hc7 => ?_) (fun hc7 => ?_)
      · refine gm_ops (S := ([], ν)) (S' := ([], ν)) og_law_257_1 (by decide) (L' := [some (.inr 0), some (.inr 1), some (.inr 2), some (.inr 3), some (.inl th), some (.inl 1), some (.inl i), some (.inl x), some (.inl k)]) (st' := [.inl 1]) rfl ?_
        refine gm_goto dg_law_258 (tgt := 262) (by rfl) ?_
        refine gm_ops (S := ([], ν)) (S' := ([], ν)) og_law_262_1 (by decide) (L' := [some (.inr 0), some (.inr 1), some (.inr 2), some (.inr 3), some (.inl th), some (.inl 1), some (.inl i), some (.inl x), some (.inl k)]) (st' := []) rfl ?_
        exact kk _ _ _ _ _ (by omega) hI2
      · refine gm_ops (S := ([], ν)) (S' := ([], ν)) og_law_231_4 (by decide) (L' := [some (.inr 0), some (.inr 1), some (.inr 2), some (.inr 3), some (.inl th), some (.inl 1), some (.inl i), some (.inl x), some (.inl k)]) (st' := [.inl 7, .inl x, .inr 3, .inr 1]) rfl ?_
        refine gm_div dg_law_237 (by decide) ?_
        refine gm_rbs (fun hr4 => ?_)
        obtain ⟨u4, v4, hI4, hl4, hm4⟩ := HL.agrees (jdiv x 7) hI2 hr4 (jdx ⟨hx0, hx1⟩ 7 (by decide)).1 (jdx ⟨hx0, hx1⟩ 7 (by decide)).2
        refine gm_S (M1 := m_L_agrees) (g := 64) (F' := [(ax, LAYC), FN an]) (rs' := [ax.getD 0 0, an]) (as := [.inr 1, .inr 3, .inl (jdiv x 7)]) (as' := [.inr 0, .inr 1, .inl (jdiv x 7)]) (v1 := some 1) dg_law_238 ln_12_192 sm_L_agrees mok_L_agrees rfl (Nat.le_of_ble_eq_true rfl) rfl (by omega) sel_3_02 (vrs_c (vr_rr rfl rfl) (vrs_c (vr_rr rfl rfl) (cv_n (vs := [jdiv x 7])))) (hl4 161 ax an _ (Nat.le_refl _) hax) _ rfl ?_
        refine gm_if_eq dg_law_241 (tgt := 261) (by rfl) (fun hc => absurd hc (by decide)) (fun _ => ?_)
        refine gm_ops (S := ([], ν)) (S' := ([], ν)) og_law_244_4 (by decide) (L' := [some (.inr 0), some (.inr 1), some (.inr 2), some (.inr 3), some (.inl th), some (.inl 1), some (.inl i), some (.inl x), some (.inl k)]) (st' := [.inl 7, .inl x, .inr 3, .inr 2]) rfl ?_
        refine gm_div dg_law_250 (by decide) ?_
        refine gm_S (M1 := m_L_agrees) (g := 64) (F' := [(ay, LAYC), FN an]) (rs' := [ay.getD 0 0, an]) (as := [.inr 2, .inr 3, .inl (jdiv x 7)]) (as' := [.inr 0, .inr 1, .inl (jdiv x 7)]) (v1 := some 1) dg_law_251 ln_12_192 sm_L_agrees mok_L_agrees rfl (Nat.le_of_ble_eq_true rfl) rfl (by omega) sel_3_12 (vrs_c (vr_rr rfl rfl) (vrs_c (vr_rr rfl rfl) (cv_n (vs := [jdiv x 7])))) (hm4 161 ay an _ (Nat.le_refl _) hay) _ rfl ?_
        refine gm_if_eq dg_law_254 (tgt := 261) (by rfl) (fun hc => absurd hc (by decide)) (fun _ => ?_)
        refine gm_ops (S := ([], ν)) (S' := ([], ν)) og_law_257_1 (by decide) (L' := [some (.inr 0), some (.inr 1), some (.inr 2), some (.inr 3), some (.inl th), some (.inl 1), some (.inl i), some (.inl x), some (.inl k)]) (st' := [.inl 1]) rfl ?_
        refine gm_goto dg_law_258 (tgt := 262) (by rfl) ?_
        refine gm_ops (S := ([], ν)) (S' := ([], ν)) og_law_262_1 (by decide) (L' := [some (.inr 0), some (.inr 1), some (.inr 2), some (.inr 3), some (.inl th), some (.inl 1), some (.inl i), some (.inl x), some (.inl k)]) (st' := []) rfl ?_
        exact kk _ _ _ _ _ (by omega) hI4
    · refine gm_ops (S := ([], ν)) (S' := ([], ν)) og_law_211_5 (by decide) (L' := [some (.inr 0), some (.inr 1), some (.inr 2), some (.inr 3), some (.inl th), some (.inl 1), some (.inl i), some (.inl x), some (.inl k)]) (st' := [.inl 3, .inl x, .inr 3, .inr 2, .inr 1]) rfl ?_
      refine gm_div dg_law_217 (by decide) ?_
      refine gm_rbs (fun hr6 => ?_)
      obtain ⟨u6, v6, hI6, hl6⟩ := HL.alike (jdiv x 3) hI2 hr6 (jdx ⟨hx0, hx1⟩ 3 (by decide)).1 (jdx ⟨hx0, hx1⟩ 3 (by decide)).2
      refine gm_S (M1 := m_L_alike) (g := 60) (F' := [(ax, LAYC), (ay, LAYC), FN an]) (rs' := [ax.getD 0 0, ay.getD 0 0, an]) (as := [.inr 1, .inr 2, .inr 3, .inl (jdiv x 3)]) (as' := [.inr 0, .inr 1, .inr 2, .inl (jdiv x 3)]) (v1 := some 1) dg_law_218 ln_12_188 sm_L_alike mok_L_alike rfl (Nat.le_of_ble_eq_true rfl) rfl (by omega) sel_3_012 (vrs_c (vr_rr rfl rfl) (vrs_c (vr_rr rfl rfl) (vrs_c (vr_rr rfl rfl) (cv_n (vs := [jdiv x 3]))))) (hl6 161 ax ay an _ _ (Nat.le_refl _) hax hay) _ rfl ?_
      refine gm_if_eq dg_law_221 (tgt := 261) (by rfl) (fun hc => absurd hc (by decide)) (fun _ => ?_)
      refine gm_ops (S := ([], ν)) (S' := ([], ν)) og_law_224_2 (by decide) (L' := [some (.inr 0), some (.inr 1), some (.inr 2), some (.inr 3), some (.inl th), some (.inl 1), some (.inl i), some (.inl x), some (.inl k)]) (st' := [.inl 4, .inl i]) rfl ?_
      refine gm_rem dg_law_227 (by decide) ?_
      refine gm_if_gt dg_law_228 (tgt := 257) (by rfl) (fun hc8 => ?_) (fun hc8 => ?_)
      · refine gm_ops (S := ([], ν)) (S' := ([], ν)) og_law_257_1 (by decide) (L' := [some (.inr 0), some (.inr 1), some (.inr 2), some (.inr 3), some (.inl th), some (.inl 1), some (.inl i), some (.inl x), some (.inl k)]) (st' := [.inl 1]) rfl ?_
        refine gm_goto dg_law_258 (tgt := 262) (by rfl) ?_
        refine gm_ops (S := ([], ν)) (S' := ([], ν)) og_law_262_1 (by decide) (L' := [some (.inr 0), some (.inr 1), some (.inr 2), some (.inr 3), some (.inl th), some (.inl 1), some (.inl i), some (.inl x), some (.inl k)]) (st' := []) rfl ?_
        exact kk _ _ _ _ _ (by omega) hI6
      · refine gm_ops (S := ([], ν)) (S' := ([], ν)) og_law_231_4 (by decide) (L' := [some (.inr 0), some (.inr 1), some (.inr 2), some (.inr 3), some (.inl th), some (.inl 1), some (.inl i), some (.inl x), some (.inl k)]) (st' := [.inl 7, .inl x, .inr 3, .inr 1]) rfl ?_
        refine gm_div dg_law_237 (by decide) ?_
        refine gm_rbs (fun hr7 => ?_)
        obtain ⟨u7, v7, hI7, hl7, hm7⟩ := HL.agrees (jdiv x 7) hI6 hr7 (jdx ⟨hx0, hx1⟩ 7 (by decide)).1 (jdx ⟨hx0, hx1⟩ 7 (by decide)).2
        refine gm_S (M1 := m_L_agrees) (g := 64) (F' := [(ax, LAYC), FN an]) (rs' := [ax.getD 0 0, an]) (as := [.inr 1, .inr 3, .inl (jdiv x 7)]) (as' := [.inr 0, .inr 1, .inl (jdiv x 7)]) (v1 := some 1) dg_law_238 ln_12_192 sm_L_agrees mok_L_agrees rfl (Nat.le_of_ble_eq_true rfl) rfl (by omega) sel_3_02 (vrs_c (vr_rr rfl rfl) (vrs_c (vr_rr rfl rfl) (cv_n (vs := [jdiv x 7])))) (hl7 161 ax an _ (Nat.le_refl _) hax) _ rfl ?_
        refine gm_if_eq dg_law_241 (tgt := 261) (by rfl) (fun hc => absurd hc (by decide)) (fun _ => ?_)
        refine gm_ops (S := ([], ν)) (S' := ([], ν)) og_law_244_4 (by decide) (L' := [some (.inr 0), some (.inr 1), some (.inr 2), some (.inr 3), some (.inl th), some (.inl 1), some (.inl i), some (.inl x), some (.inl k)]) (st' := [.inl 7, .inl x, .inr 3, .inr 2]) rfl ?_
        refine gm_div dg_law_250 (by decide) ?_
        refine gm_S (M1 := m_L_agrees) (g := 64) (F' := [(ay, LAYC), FN an]) (rs' := [ay.getD 0 0, an]) (as := [.inr 2, .inr 3, .inl (jdiv x 7)]) (as' := [.inr 0, .inr 1, .inl (jdiv x 7)]) (v1 := some 1) dg_law_251 ln_12_192 sm_L_agrees mok_L_agrees rfl (Nat.le_of_ble_eq_true rfl) rfl (by omega) sel_3_12 (vrs_c (vr_rr rfl rfl) (vrs_c (vr_rr rfl rfl) (cv_n (vs := [jdiv x 7])))) (hm7 161 ay an _ (Nat.le_refl _) hay) _ rfl ?_
        refine gm_if_eq dg_law_254 (tgt := 261) (by rfl) (fun hc => absurd hc (by decide)) (fun _ => ?_)
        refine gm_ops (S := ([], ν)) (S' := ([], ν)) og_law_257_1 (by decide) (L' := [some (.inr 0), some (.inr 1), some (.inr 2), some (.inr 3), some (.inl th), some (.inl 1), some (.inl i), some (.inl x), some (.inl k)]) (st' := [.inl 1]) rfl ?_
        refine gm_goto dg_law_258 (tgt := 262) (by rfl) ?_
        refine gm_ops (S := ([], ν)) (S' := ([], ν)) og_law_262_1 (by decide) (L' := [some (.inr 0), some (.inr 1), some (.inr 2), some (.inr 3), some (.inl th), some (.inl 1), some (.inl i), some (.inl x), some (.inl k)]) (st' := []) rfl ?_
        exact kk _ _ _ _ _ (by omega) hI7
  · refine gm_ops (S := ([], ν)) (S' := ([], ν)) og_law_189_4 (by decide) (L' := [some (.inr 0), some (.inr 1), some (.inr 2), some (.inr 3), some (.inl th), some (.inl 1), some (.inl i), some (.inl x), some (.inl k)]) (st' := [.inl 499, .inl x, .inr 3, .inr 2]) rfl ?_
    refine gm_rem dg_law_196 (by decide) ?_
    refine gm_rbs (fun hr9 => ?_)
    refine gm_S (M1 := m_L_refuses) (g := 70) (F' := [(ay, LAYC), FN an]) (rs' := [ay.getD 0 0, an]) (as := [.inr 2, .inr 3, .inl (jrem x 499)]) (as' := [.inr 0, .inr 1, .inl (jrem x 499)]) (v1 := some 1) dg_law_197 ln_12_180 sm_L_refuses mok_L_refuses rfl (Nat.le_of_ble_eq_true rfl) rfl (by omega) sel_3_12 (vrs_c (vr_rr rfl rfl) (vrs_c (vr_rr rfl rfl) (cv_n (vs := [jrem x 499])))) (HL.ref (jrem x 499) hI2 hr9 hx4 161 ay an _ (Nat.le_refl _) hay) _ rfl ?_
    refine gm_if_eq dg_law_200 (tgt := 261) (by rfl) (fun hc => absurd hc (by decide)) (fun _ => ?_)
    refine gm_ops (S := ([], ν)) (S' := ([], ν)) og_law_203_2 (by decide) (L' := [some (.inr 0), some (.inr 1), some (.inr 2), some (.inr 3), some (.inl th), some (.inl 1), some (.inl i), some (.inl x), some (.inl k)]) (st' := [.inl 3, .inl i]) rfl ?_
    refine gm_rem dg_law_206 (by decide) ?_
    refine gm_ops (S := ([], ν)) (S' := ([], ν)) og_law_207_1 (by decide) (L' := [some (.inr 0), some (.inr 1), some (.inr 2), some (.inr 3), some (.inl th), some (.inl 1), some (.inl i), some (.inl x), some (.inl k)]) (st' := [.inl 1, .inl (jrem i 3)]) rfl ?_
    refine gm_icmp_gt dg_law_208 (tgt := 224) (by rfl) (fun hc9 => ?_) (fun hc9 => ?_)
    · refine gm_ops (S := ([], ν)) (S' := ([], ν)) og_law_224_2 (by decide) (L' := [some (.inr 0), some (.inr 1), some (.inr 2), some (.inr 3), some (.inl th), some (.inl 1), some (.inl i), some (.inl x), some (.inl k)]) (st' := [.inl 4, .inl i]) rfl ?_
      refine gm_rem dg_law_227 (by decide) ?_
      refine gm_if_gt dg_law_228 (tgt := 257) (by rfl) (fun hc10 => ?_) (fun hc10 => ?_)
      · refine gm_ops (S := ([], ν)) (S' := ([], ν)) og_law_257_1 (by decide) (L' := [some (.inr 0), some (.inr 1), some (.inr 2), some (.inr 3), some (.inl th), some (.inl 1), some (.inl i), some (.inl x), some (.inl k)]) (st' := [.inl 1]) rfl ?_
        refine gm_goto dg_law_258 (tgt := 262) (by rfl) ?_
        refine gm_ops (S := ([], ν)) (S' := ([], ν)) og_law_262_1 (by decide) (L' := [some (.inr 0), some (.inr 1), some (.inr 2), some (.inr 3), some (.inl th), some (.inl 1), some (.inl i), some (.inl x), some (.inl k)]) (st' := []) rfl ?_
        exact kk _ _ _ _ _ (by omega) hI2
      · refine gm_ops (S := ([], ν)) (S' := ([], ν)) og_law_231_4 (by decide) (L' := [some (.inr 0), some (.inr 1), some (.inr 2), some (.inr 3), some (.inl th), some (.inl 1), some (.inl i), some (.inl x), some (.inl k)]) (st' := [.inl 7, .inl x, .inr 3, .inr 1]) rfl ?_
        refine gm_div dg_law_237 (by decide) ?_
        refine gm_rbs (fun hr10 => ?_)
        obtain ⟨u10, v10, hI10, hl10, hm10⟩ := HL.agrees (jdiv x 7) hI2 hr10 (jdx ⟨hx0, hx1⟩ 7 (by decide)).1 (jdx ⟨hx0, hx1⟩ 7 (by decide)).2
        refine gm_S (M1 := m_L_agrees) (g := 64) (F' := [(ax, LAYC), FN an]) (rs' := [ax.getD 0 0, an]) (as := [.inr 1, .inr 3, .inl (jdiv x 7)]) (as' := [.inr 0, .inr 1, .inl (jdiv x 7)]) (v1 := some 1) dg_law_238 ln_12_192 sm_L_agrees mok_L_agrees rfl (Nat.le_of_ble_eq_true rfl) rfl (by omega) sel_3_02 (vrs_c (vr_rr rfl rfl) (vrs_c (vr_rr rfl rfl) (cv_n (vs := [jdiv x 7])))) (hl10 161 ax an _ (Nat.le_refl _) hax) _ rfl ?_
        refine gm_if_eq dg_law_241 (tgt := 261) (by rfl) (fun hc => absurd hc (by decide)) (fun _ => ?_)
        refine gm_ops (S := ([], ν)) (S' := ([], ν)) og_law_244_4 (by decide) (L' := [some (.inr 0), some (.inr 1), some (.inr 2), some (.inr 3), some (.inl th), some (.inl 1), some (.inl i), some (.inl x), some (.inl k)]) (st' := [.inl 7, .inl x, .inr 3, .inr 2]) rfl ?_
        refine gm_div dg_law_250 (by decide) ?_
        refine gm_S (M1 := m_L_agrees) (g := 64) (F' := [(ay, LAYC), FN an]) (rs' := [ay.getD 0 0, an]) (as := [.inr 2, .inr 3, .inl (jdiv x 7)]) (as' := [.inr 0, .inr 1, .inl (jdiv x 7)]) (v1 := some 1) dg_law_251 ln_12_192 sm_L_agrees mok_L_agrees rfl (Nat.le_of_ble_eq_true rfl) rfl (by omega) sel_3_12 (vrs_c (vr_rr rfl rfl) (vrs_c (vr_rr rfl rfl) (cv_n (vs := [jdiv x 7])))) (hm10 161 ay an _ (Nat.le_refl _) hay) _ rfl ?_
        refine gm_if_eq dg_law_254 (tgt := 261) (by rfl) (fun hc => absurd hc (by decide)) (fun _ => ?_)
        refine gm_ops (S := ([], ν)) (S' := ([], ν)) og_law_257_1 (by decide) (L' := [some (.inr 0), some (.inr 1), some (.inr 2), some (.inr 3), some (.inl th), some (.inl 1), some (.inl i), some (.inl x), some (.inl k)]) (st' := [.inl 1]) rfl ?_
        refine gm_goto dg_law_258 (tgt := 262) (by rfl) ?_
        refine gm_ops (S := ([], ν)) (S' := ([], ν)) og_law_262_1 (by decide) (L' := [some (.inr 0), some (.inr 1), some (.inr 2), some (.inr 3), some (.inl th), some (.inl 1), some (.inl i), some (.inl x), some (.inl k)]) (st' := []) rfl ?_
        exact kk _ _ _ _ _ (by omega) hI10
    · refine gm_ops (S := ([], ν)) (S' := ([], ν)) og_law_211_5 (by decide) (L' := [some (.inr 0), some (.inr 1), some (.inr 2), some (.inr 3), some (.inl th), some (.inl 1), some (.inl i), some (.inl x), some (.inl k)]) (st' := [.inl 3, .inl x, .inr 3, .inr 2, .inr 1]) rfl ?_
      refine gm_div dg_law_217 (by decide) ?_
      refine gm_rbs (fun hr12 => ?_)
      obtain ⟨u12, v12, hI12, hl12⟩ := HL.alike (jdiv x 3) hI2 hr12 (jdx ⟨hx0, hx1⟩ 3 (by decide)).1 (jdx ⟨hx0, hx1⟩ 3 (by decide)).2
      refine gm_S (M1 := m_L_alike) (g := 60) (F' := [(ax, LAYC), (ay, LAYC), FN an]) (rs' := [ax.getD 0 0, ay.getD 0 0, an]) (as := [.inr 1, .inr 2, .inr 3, .inl (jdiv x 3)]) (as' := [.inr 0, .inr 1, .inr 2, .inl (jdiv x 3)]) (v1 := some 1) dg_law_218 ln_12_188 sm_L_alike mok_L_alike rfl (Nat.le_of_ble_eq_true rfl) rfl (by omega) sel_3_012 (vrs_c (vr_rr rfl rfl) (vrs_c (vr_rr rfl rfl) (vrs_c (vr_rr rfl rfl) (cv_n (vs := [jdiv x 3]))))) (hl12 161 ax ay an _ _ (Nat.le_refl _) hax hay) _ rfl ?_
      refine gm_if_eq dg_law_221 (tgt := 261) (by rfl) (fun hc => absurd hc (by decide)) (fun _ => ?_)
      refine gm_ops (S := ([], ν)) (S' := ([], ν)) og_law_224_2 (by decide) (L' := [some (.inr 0), some (.inr 1), some (.inr 2), some (.inr 3), some (.inl th), some (.inl 1), some (.inl i), some (.inl x), some (.inl k)]) (st' := [.inl 4, .inl i]) rfl ?_
      refine gm_rem dg_law_227 (by decide) ?_
      refine gm_if_gt dg_law_228 (tgt := 257) (by rfl) (fun hc11 => ?_) (fun hc11 => ?_)
      · refine gm_ops (S := ([], ν)) (S' := ([], ν)) og_law_257_1 (by decide) (L' := [some (.inr 0), some (.inr 1), some (.inr 2), some (.inr 3), some (.inl th), some (.inl 1), some (.inl i), some (.inl x), some (.inl k)]) (st' := [.inl 1]) rfl ?_
        refine gm_goto dg_law_258 (tgt := 262) (by rfl) ?_
        refine gm_ops (S := ([], ν)) (S' := ([], ν)) og_law_262_1 (by decide) (L' := [some (.inr 0), some (.inr 1), some (.inr 2), some (.inr 3), some (.inl th), some (.inl 1), some (.inl i), some (.inl x), some (.inl k)]) (st' := []) rfl ?_
        exact kk _ _ _ _ _ (by omega) hI12
      · refine gm_ops (S := ([], ν)) (S' := ([], ν)) og_law_231_4 (by decide) (L' := [some (.inr 0), some (.inr 1), some (.inr 2), some (.inr 3), some (.inl th), some (.inl 1), some (.inl i), some (.inl x), some (.inl k)]) (st' := [.inl 7, .inl x, .inr 3, .inr 1]) rfl ?_
        refine gm_div dg_law_237 (by decide) ?_
        refine gm_rbs (fun hr13 => ?_)
        obtain ⟨u13, v13, hI13, hl13, hm13⟩ := HL.agrees (jdiv x 7) hI12 hr13 (jdx ⟨hx0, hx1⟩ 7 (by decide)).1 (jdx ⟨hx0, hx1⟩ 7 (by decide)).2
        refine gm_S (M1 := m_L_agrees) (g := 64) (F' := [(ax, LAYC), FN an]) (rs' := [ax.getD 0 0, an]) (as := [.inr 1, .inr 3, .inl (jdiv x 7)]) (as' := [.inr 0, .inr 1, .inl (jdiv x 7)]) (v1 := some 1) dg_law_238 ln_12_192 sm_L_agrees mok_L_agrees rfl (Nat.le_of_ble_eq_true rfl) rfl (by omega) sel_3_02 (vrs_c (vr_rr rfl rfl) (vrs_c (vr_rr rfl rfl) (cv_n (vs := [jdiv x 7])))) (hl13 161 ax an _ (Nat.le_refl _) hax) _ rfl ?_
        refine gm_if_eq dg_law_241 (tgt := 261) (by rfl) (fun hc => absurd hc (by decide)) (fun _ => ?_)
        refine gm_ops (S := ([], ν)) (S' := ([], ν)) og_law_244_4 (by decide) (L' := [some (.inr 0), some (.inr 1), some (.inr 2), some (.inr 3), some (.inl th), some (.inl 1), some (.inl i), some (.inl x), some (.inl k)]) (st' := [.inl 7, .inl x, .inr 3, .inr 2]) rfl ?_
        refine gm_div dg_law_250 (by decide) ?_
        refine gm_S (M1 := m_L_agrees) (g := 64) (F' := [(ay, LAYC), FN an]) (rs' := [ay.getD 0 0, an]) (as := [.inr 2, .inr 3, .inl (jdiv x 7)]) (as' := [.inr 0, .inr 1, .inl (jdiv x 7)]) (v1 := some 1) dg_law_251 ln_12_192 sm_L_agrees mok_L_agrees rfl (Nat.le_of_ble_eq_true rfl) rfl (by omega) sel_3_12 (vrs_c (vr_rr rfl rfl) (vrs_c (vr_rr rfl rfl) (cv_n (vs := [jdiv x 7])))) (hm13 161 ay an _ (Nat.le_refl _) hay) _ rfl ?_
        refine gm_if_eq dg_law_254 (tgt := 261) (by rfl) (fun hc => absurd hc (by decide)) (fun _ => ?_)
        refine gm_ops (S := ([], ν)) (S' := ([], ν)) og_law_257_1 (by decide) (L' := [some (.inr 0), some (.inr 1), some (.inr 2), some (.inr 3), some (.inl th), some (.inl 1), some (.inl i), some (.inl x), some (.inl k)]) (st' := [.inl 1]) rfl ?_
        refine gm_goto dg_law_258 (tgt := 262) (by rfl) ?_
        refine gm_ops (S := ([], ν)) (S' := ([], ν)) og_law_262_1 (by decide) (L' := [some (.inr 0), some (.inr 1), some (.inr 2), some (.inr 3), some (.inl th), some (.inl 1), some (.inl i), some (.inl x), some (.inl k)]) (st' := []) rfl ?_
        exact kk _ _ _ _ _ (by omega) hI13
theorem law_loop {Inv : Sg → Sg → Sg → Prop} (HL : LawH l Inv) (hl : l.stackTraces = false) (hL9 : L9 ≤ 3000) (hax : ax[0]? = some (ax.getD 0 0)) (hay : ay[0]? = some (ay.getD 0 0)) (th : Int) (hth : th < 100) :
    ∀ (Dn : Nat) (kc : Nat) (i : Int) (σ1 σ2 ν : Sg), th ≤ i + (Dn : Int) → 0 ≤ i → kc + 400 * Dn ≤ 100000 → Inv σ1 σ2 ν →
      (∀ (kc2 : Nat) (j : Int) (p1 p2 ν' : Sg), kc2 ≤ kc + 400 * Dn → th ≤ j → Inv p1 p2 ν' → GM p l e s m args below meth c D cI cZ Q b L9 xs ax ay an kc2 39 [some (.inr 0), some (.inr 1), some (.inr 2), some (.inr 3), some (.inl th), some (.inl 1), some (.inl j), none, none] [] [p1, p2, ν']) →
      GM p l e s m args below meth c D cI cZ Q b L9 xs ax ay an kc 39 [some (.inr 0), some (.inr 1), some (.inr 2), some (.inr 3), some (.inl th), some (.inl 1), some (.inl i), none, none] [] [σ1, σ2, ν]
  | 0, kc, i, σ1, σ2, ν, h1, h2, h3, hI, kk => kk kc i σ1 σ2 ν (by omega) (by omega) hI
  | Dn + 1, kc, i, σ1, σ2, ν, h1, h2, h3, hI, kk => by
    by_cases hd : th ≤ i
    · exact kk kc i σ1 σ2 ν (by omega) hd hI
    have hw : wrap (1 + i) = 1 + i := wrap_id (by omega) (by omega)
    refine law_pick hL9 (by omega) hd (by omega) ?_
    have hr := lawX_rng (i := i) (drawn_rng xs L9 (wrap (1 + i)))
    refine law_body HL hl (by omega) hax hay hr.1 hr.2 hI (fun kc2 z p1 p2 ν' hk2 hI2 => ?_)
    refine gm_ops (S := ([], ν)) (S' := ([], ν)) og_law_264_1 (by decide) (L' := [some (.inr 0), some (.inr 1), some (.inr 2), some (.inr 3), some (.inl th), some (.inl 1), some (.inl (wrap (i + 1))), some (.inl (lawX (drawnF xs L9 (wrap (1 + i))) i)), some (.inl z)]) (st' := []) rfl ?_
    refine gm_goto dg_law_267 (tgt := 39) (by rfl) ?_
    rw [show wrap (i + 1) = i + 1 from wrap_id (by omega) (by omega)]
    refine gm_weak (L' := [some (.inr 0), some (.inr 1), some (.inr 2), some (.inr 3), some (.inl th), some (.inl 1), some (.inl (i + 1)), none, none]) (Nat.le_of_eq rfl) (fun q v hq => ?_) ?_
    · match q, hq with
      | 0, hq => exact hq
      | 1, hq => exact hq
      | 2, hq => exact hq
      | 3, hq => exact hq
      | 4, hq => exact hq
      | 5, hq => exact hq
      | 6, hq => exact hq
      | 7, hq => cases hq
      | 8, hq => cases hq
      | _ + 9, hq => cases hq
    refine gm_more (kc' := kc + 400) (by omega) ?_
    exact law_loop HL hl hL9 hax hay th hth Dn (kc + 400) (i + 1) p1 p2 ν' (by omega) (by omega) (by omega) hI2 (fun kc3 j q1 q2 ν2 g1 g2 g3 => kk kc3 j q1 q2 ν2 (by omega) g2 g3)
set_option maxHeartbeats 4000000 in
theorem law_end {Inv : Sg → Sg → Sg → Prop} (HL : LawH l Inv) (hl : l.stackTraces = false) (hL9 : L9 ≤ 3000) {kc : Nat} {th i : Int} {σ1 σ2 ν : Sg} (hkc : kc ≤ 500000) (hax : ax[0]? = some (ax.getD 0 0)) (hay : ay[0]? = some (ay.getD 0 0)) (hle : th ≤ i) (hI : Inv σ1 σ2 ν)
    (kx : ∀ (kc2 : Nat) (L : List (Option AV)) (p1 p2 ν' : Sg), kc2 ≤ 600086 → GM p l e s m args below meth c D cI cZ Q b L9 xs ax ay an kc2 346 L [.inl 1] [p1, p2, ν']) : GM p l e s m args below meth c D cI cZ Q b L9 xs ax ay an (kc + 0) 39 [some (.inr 0), some (.inr 1), some (.inr 2), some (.inr 3), some (.inl th), some (.inl 1), some (.inl i), none, none] [] [σ1, σ2, ν] := by
  have hdr := drawn_rng xs L9 0
  refine gm_ops (S := ([], ν)) (S' := ([], ν)) og_law_39_2 (by decide) (L' := [some (.inr 0), some (.inr 1), some (.inr 2), some (.inr 3), some (.inl th), some (.inl 1), some (.inl i), none, none]) (st' := [.inl th, .inl i]) rfl ?_
  refine gm_icmp_ge dg_law_43 (tgt := 270) (by rfl) (fun _ => ?_) (fun hc => absurd hle hc)
  refine gm_ops (S := ([], ν)) (S' := ([], ν)) og_law_270_1 (by decide) (L' := [some (.inr 0), some (.inr 1), some (.inr 2), some (.inr 3), some (.inl th), some (.inl 1), some (.inl i), none, none]) (st' := [.inl 1]) rfl ?_
  refine gm_if_eq dg_law_272 (tgt := 345) (by rfl) (fun hc => absurd hc (by decide)) (fun _ => ?_)
  refine gm_ops (S := ([], ν)) (S' := ([], ν)) og_law_275_5 (by decide) (L' := [some (.inr 0), some (.inr 1), some (.inr 2), some (.inr 3), some (.inl th), some (.inl 1), some (.inl i), none, none]) (st' := [.inl 0, .inr 0, .inr 3, .inr 2, .inr 1]) rfl ?_
  refine gm_drawn (by decide) hL9 (by omega) dg_law_280 (Nat.le_of_ble_eq_true rfl) ?_
  refine gm_ops (S := ([], ν)) (S' := ([], ν)) og_law_283_1 (by decide) (L' := [some (.inr 0), some (.inr 1), some (.inr 2), some (.inr 3), some (.inl th), some (.inl 1), some (.inl i), none, none]) (st' := [.inl 29, .inl (drawnF xs L9 0), .inr 3, .inr 2, .inr 1]) rfl ?_
  refine gm_div dg_law_285 (by decide) ?_
  refine gm_rbs (fun hr15 => ?_)
  obtain ⟨u15, v15, hI15, hl15⟩ := HL.alike (jdiv (drawnF xs L9 0) 29) hI hr15 (jdx hdr 29 (by decide)).1 (jdx hdr 29 (by decide)).2
  refine gm_S (M1 := m_L_alike) (g := 60) (F' := [(ax, LAYC), (ay, LAYC), FN an]) (rs' := [ax.getD 0 0, ay.getD 0 0, an]) (as := [.inr 1, .inr 2, .inr 3, .inl (jdiv (drawnF xs L9 0) 29)]) (as' := [.inr 0, .inr 1, .inr 2, .inl (jdiv (drawnF xs L9 0) 29)]) (v1 := some 1) dg_law_286 ln_12_188 sm_L_alike mok_L_alike rfl (Nat.le_of_ble_eq_true rfl) rfl (by omega) sel_3_012 (vrs_c (vr_rr rfl rfl) (vrs_c (vr_rr rfl rfl) (vrs_c (vr_rr rfl rfl) (cv_n (vs := [jdiv (drawnF xs L9 0) 29]))))) (hl15 161 ax ay an _ _ (Nat.le_refl _) hax hay) _ rfl ?_
  refine gm_if_eq dg_law_289 (tgt := 345) (by rfl) (fun hc => absurd hc (by decide)) (fun _ => ?_)
  refine gm_ops (S := ([], ν)) (S' := ([], ν)) og_law_292_4 (by decide) (L' := [some (.inr 0), some (.inr 1), some (.inr 2), some (.inr 3), some (.inl th), some (.inl 1), some (.inl i), none, none]) (st' := [.inl 0, .inr 0, .inr 3, .inr 1]) rfl ?_
  refine gm_drawn (by decide) hL9 (by omega) dg_law_296 (Nat.le_of_ble_eq_true rfl) ?_
  refine gm_ops (S := ([], ν)) (S' := ([], ν)) og_law_299_1 (by decide) (L' := [some (.inr 0), some (.inr 1), some (.inr 2), some (.inr 3), some (.inl th), some (.inl 1), some (.inl i), none, none]) (st' := [.inl 31, .inl (drawnF xs L9 0), .inr 3, .inr 1]) rfl ?_
  refine gm_div dg_law_301 (by decide) ?_
  refine gm_rbs (fun hr16 => ?_)
  obtain ⟨u16, v16, hI16, hl16, hm16⟩ := HL.agrees (jdiv (drawnF xs L9 0) 31) hI15 hr16 (jdx hdr 31 (by decide)).1 (jdx hdr 31 (by decide)).2
  refine gm_S (M1 := m_L_agrees) (g := 64) (F' := [(ax, LAYC), FN an]) (rs' := [ax.getD 0 0, an]) (as := [.inr 1, .inr 3, .inl (jdiv (drawnF xs L9 0) 31)]) (as' := [.inr 0, .inr 1, .inl (jdiv (drawnF xs L9 0) 31)]) (v1 := some 1) dg_law_302 ln_12_192 sm_L_agrees mok_L_agrees rfl (Nat.le_of_ble_eq_true rfl) rfl (by omega) sel_3_02 (vrs_c (vr_rr rfl rfl) (vrs_c (vr_rr rfl rfl) (cv_n (vs := [jdiv (drawnF xs L9 0) 31])))) (hl16 161 ax an _ (Nat.le_refl _) hax) _ rfl ?_
  refine gm_if_eq dg_law_305 (tgt := 345) (by rfl) (fun hc => absurd hc (by decide)) (fun _ => ?_)
  refine gm_ops (S := ([], ν)) (S' := ([], ν)) og_law_308_4 (by decide) (L' := [some (.inr 0), some (.inr 1), some (.inr 2), some (.inr 3), some (.inl th), some (.inl 1), some (.inl i), none, none]) (st' := [.inl 0, .inr 0, .inr 3, .inr 2]) rfl ?_
  refine gm_drawn (by decide) hL9 (by omega) dg_law_312 (Nat.le_of_ble_eq_true rfl) ?_
  refine gm_ops (S := ([], ν)) (S' := ([], ν)) og_law_315_1 (by decide) (L' := [some (.inr 0), some (.inr 1), some (.inr 2), some (.inr 3), some (.inl th), some (.inl 1), some (.inl i), none, none]) (st' := [.inl 31, .inl (drawnF xs L9 0), .inr 3, .inr 2]) rfl ?_
  refine gm_div dg_law_317 (by decide) ?_
  refine gm_S (M1 := m_L_agrees) (g := 64) (F' := [(ay, LAYC), FN an]) (rs' := [ay.getD 0 0, an]) (as := [.inr 2, .inr 3, .inl (jdiv (drawnF xs L9 0) 31)]) (as' := [.inr 0, .inr 1, .inl (jdiv (drawnF xs L9 0) 31)]) (v1 := some 1) dg_law_318 ln_12_192 sm_L_agrees mok_L_agrees rfl (Nat.le_of_ble_eq_true rfl) rfl (by omega) sel_3_12 (vrs_c (vr_rr rfl rfl) (vrs_c (vr_rr rfl rfl) (cv_n (vs := [jdiv (drawnF xs L9 0) 31])))) (hm16 161 ay an _ (Nat.le_refl _) hay) _ rfl ?_
  refine gm_if_eq dg_law_321 (tgt := 345) (by rfl) (fun hc => absurd hc (by decide)) (fun _ => ?_)
  refine gm_ops (S := ([], ν)) (S' := ([], ν)) og_law_324_5 (by decide) (L' := [some (.inr 0), some (.inr 1), some (.inr 2), some (.inr 3), some (.inl th), some (.inl 1), some (.inl i), none, none]) (st' := [.inl 0, .inr 0, .inr 3, .inr 2, .inr 1]) rfl ?_
  refine gm_drawn (by decide) hL9 (by omega) dg_law_329 (Nat.le_of_ble_eq_true rfl) ?_
  refine gm_ops (S := ([], ν)) (S' := ([], ν)) og_law_332_1 (by decide) (L' := [some (.inr 0), some (.inr 1), some (.inr 2), some (.inr 3), some (.inl th), some (.inl 1), some (.inl i), none, none]) (st' := [.inl 37, .inl (drawnF xs L9 0), .inr 3, .inr 2, .inr 1]) rfl ?_
  refine gm_div dg_law_334 (by decide) ?_
  refine gm_rbs (fun hr18 => ?_)
  obtain ⟨u18, v18, hI18, hl18⟩ := HL.alike (jdiv (drawnF xs L9 0) 37) hI16 hr18 (jdx hdr 37 (by decide)).1 (jdx hdr 37 (by decide)).2
  refine gm_S (M1 := m_L_alike) (g := 60) (F' := [(ax, LAYC), (ay, LAYC), FN an]) (rs' := [ax.getD 0 0, ay.getD 0 0, an]) (as := [.inr 1, .inr 2, .inr 3, .inl (jdiv (drawnF xs L9 0) 37)]) (as' := [.inr 0, .inr 1, .inr 2, .inl (jdiv (drawnF xs L9 0) 37)]) (v1 := some 1) dg_law_335 ln_12_188 sm_L_alike mok_L_alike rfl (Nat.le_of_ble_eq_true rfl) rfl (by omega) sel_3_012 (vrs_c (vr_rr rfl rfl) (vrs_c (vr_rr rfl rfl) (vrs_c (vr_rr rfl rfl) (cv_n (vs := [jdiv (drawnF xs L9 0) 37]))))) (hl18 161 ax ay an _ _ (Nat.le_refl _) hax hay) _ rfl ?_
  refine gm_if_eq dg_law_338 (tgt := 345) (by rfl) (fun hc => absurd hc (by decide)) (fun _ => ?_)
  refine gm_ops (S := ([], ν)) (S' := ([], ν)) og_law_341_1 (by decide) (L' := [some (.inr 0), some (.inr 1), some (.inr 2), some (.inr 3), some (.inl th), some (.inl 1), some (.inl i), none, none]) (st' := [.inl 1]) rfl ?_
  refine gm_goto dg_law_342 (tgt := 346) (by rfl) ?_
  exact kx _ _ _ _ _ (by omega)
end LAWM
