/-! read off: X11_add .. X11_factAt -/
theorem dc_X11_add_8 : decode m_X11_add.2.2.1 8 = .ok (.invokestatic 171, 3) := by decide +kernel
theorem dc_X11_add_22 : decode m_X11_add.2.2.1 22 = .ok (.if_icmp .ge 151, 3) := by decide +kernel
theorem dc_X11_add_30 : decode m_X11_add.2.2.1 30 = .ok (.invokestatic 175, 3) := by decide +kernel
theorem dc_X11_add_41 : decode m_X11_add.2.2.1 41 = .ok (.if_icmp .ge 7, 3) := by decide +kernel
theorem dc_X11_add_45 : decode m_X11_add.2.2.1 45 = .ok (.goto 4, 3) := by decide +kernel
theorem dc_X11_add_54 : decode m_X11_add.2.2.1 54 = .ok (.invokevirtual 212, 3) := by decide +kernel
theorem dc_X11_add_61 : decode m_X11_add.2.2.1 61 = .ok (.ifCond .eq 17, 3) := by decide +kernel
theorem dc_X11_add_66 : decode m_X11_add.2.2.1 66 = .ok (.ifCond .eq 8, 3) := by decide +kernel
theorem dc_X11_add_71 : decode m_X11_add.2.2.1 71 = .ok (.ifCond .eq 7, 3) := by decide +kernel
theorem dc_X11_add_75 : decode m_X11_add.2.2.1 75 = .ok (.goto 4, 3) := by decide +kernel
theorem dc_X11_add_83 : decode m_X11_add.2.2.1 83 = .ok (.ifCond .eq 55, 3) := by decide +kernel
theorem dc_X11_add_88 : decode m_X11_add.2.2.1 88 = .ok (.ifCond .eq 40, 3) := by decide +kernel
theorem dc_X11_add_93 : decode m_X11_add.2.2.1 93 = .ok (.ifCond .eq 45, 3) := by decide +kernel
theorem dc_X11_add_105 : decode m_X11_add.2.2.1 105 = .ok (.iaload, 1) := by decide +kernel
theorem dc_X11_add_106 : decode m_X11_add.2.2.1 106 = .ok (.invokevirtual 215, 3) := by decide +kernel
theorem dc_X11_add_109 : decode m_X11_add.2.2.1 109 = .ok (.ifCond .eq 29, 3) := by decide +kernel
theorem dc_X11_add_118 : decode m_X11_add.2.2.1 118 = .ok (.iaload, 1) := by decide +kernel
theorem dc_X11_add_122 : decode m_X11_add.2.2.1 122 = .ok (.ifCond .ne 16, 3) := by decide +kernel
theorem dc_X11_add_125 : decode m_X11_add.2.2.1 125 = .ok (.goto 9, 3) := by decide +kernel
theorem dc_X11_add_131 : decode m_X11_add.2.2.1 131 = .ok (.if_icmp .ne 7, 3) := by decide +kernel
theorem dc_X11_add_135 : decode m_X11_add.2.2.1 135 = .ok (.goto 4, 3) := by decide +kernel
theorem dc_X11_add_145 : decode m_X11_add.2.2.1 145 = .ok (.ifCond .eq 18, 3) := by decide +kernel
theorem dc_X11_add_150 : decode m_X11_add.2.2.1 150 = .ok (.ifCond .eq 13, 3) := by decide +kernel
theorem dc_X11_add_159 : decode m_X11_add.2.2.1 159 = .ok (.iaload, 1) := by decide +kernel
theorem dc_X11_add_160 : decode m_X11_add.2.2.1 160 = .ok (.goto 4, 3) := by decide +kernel
theorem dc_X11_add_170 : decode m_X11_add.2.2.1 170 = .ok (.goto (-151), 3) := by decide +kernel
theorem dc_X11_add_176 : decode m_X11_add.2.2.1 176 = .ok (.ifCond .ne 7, 3) := by decide +kernel
theorem dc_X11_add_180 : decode m_X11_add.2.2.1 180 = .ok (.goto 33, 3) := by decide +kernel
theorem dc_X11_add_185 : decode m_X11_add.2.2.1 185 = .ok (.ifCond .ne 7, 3) := by decide +kernel
theorem dc_X11_add_189 : decode m_X11_add.2.2.1 189 = .ok (.goto 24, 3) := by decide +kernel
theorem dc_X11_add_196 : decode m_X11_add.2.2.1 196 = .ok (.ifCond .eq 12, 3) := by decide +kernel
theorem dc_X11_add_205 : decode m_X11_add.2.2.1 205 = .ok (.if_icmp .ne 7, 3) := by decide +kernel
theorem dc_X11_add_209 : decode m_X11_add.2.2.1 209 = .ok (.goto 4, 3) := by decide +kernel
theorem dc_X11_add_213 : decode m_X11_add.2.2.1 213 = .ok (.invokevirtual 183, 3) := by decide +kernel
theorem dc_X11_add_216 : decode m_X11_add.2.2.1 216 = .ok (.ifCond .eq 5, 3) := by decide +kernel
theorem dc_X11_add_220 : decode m_X11_add.2.2.1 220 = .ok (.ireturn, 1) := by decide +kernel
theorem dc_X11_add_230 : decode m_X11_add.2.2.1 230 = .ok (.invokevirtual 244, 3) := by decide +kernel
theorem dc_X11_add_239 : decode m_X11_add.2.2.1 239 = .ok (.if_icmp .ge 29, 3) := by decide +kernel
theorem dc_X11_add_258 : decode m_X11_add.2.2.1 258 = .ok (.invokestatic 175, 3) := by decide +kernel
theorem dc_X11_add_261 : decode m_X11_add.2.2.1 261 = .ok (.iastore, 1) := by decide +kernel
theorem dc_X11_add_265 : decode m_X11_add.2.2.1 265 = .ok (.goto (-29), 3) := by decide +kernel
theorem dc_X11_add_276 : decode m_X11_add.2.2.1 276 = .ok (.iastore, 1) := by decide +kernel
theorem dc_X11_add_279 : decode m_X11_add.2.2.1 279 = .ok (.ireturn, 1) := by decide +kernel
theorem ok_X11_add_0_5 : oks m_X11_add.1 m_X11_add.2.2.1 0 [(.iconst 1, 1, (0, 0, 0)), (.istore 5, 2, (0, 0, 0)), (.iload 4, 2, (0, 0, 0)), (.iconst 0, 1, (0, 0, 0)), (.bipush 99, 2, (0, 0, 0))] = true ∧ plen 0 [(.iconst 1, 1, (0, 0, 0)), (.istore 5, 2, (0, 0, 0)), (.iload 4, 2, (0, 0, 0)), (.iconst 0, 1, (0, 0, 0)), (.bipush 99, 2, (0, 0, 0))] = 8 := by decide +kernel
theorem ok_X11_add_11_5 : oks m_X11_add.1 m_X11_add.2.2.1 11 [(.istore 6, 2, (0, 0, 0)), (.iconst 0, 1, (0, 0, 0)), (.istore 7, 2, (0, 0, 0)), (.iconst 0, 1, (0, 0, 0)), (.istore 8, 2, (0, 0, 0))] = true ∧ plen 11 [(.istore 6, 2, (0, 0, 0)), (.iconst 0, 1, (0, 0, 0)), (.istore 7, 2, (0, 0, 0)), (.iconst 0, 1, (0, 0, 0)), (.istore 8, 2, (0, 0, 0))] = 19 := by decide +kernel
theorem ok_X11_add_19_2 : oks m_X11_add.1 m_X11_add.2.2.1 19 [(.iload 8, 2, (0, 0, 0)), (.iconst 3, 1, (0, 0, 0))] = true ∧ plen 19 [(.iload 8, 2, (0, 0, 0)), (.iconst 3, 1, (0, 0, 0))] = 22 := by decide +kernel
theorem ok_X11_add_25_4 : oks m_X11_add.1 m_X11_add.2.2.1 25 [(.iload_n 1, 1, (0, 0, 0)), (.iload_n 2, 1, (0, 0, 0)), (.iload_n 3, 1, (0, 0, 0)), (.iload 8, 2, (0, 0, 0))] = true ∧ plen 25 [(.iload_n 1, 1, (0, 0, 0)), (.iload_n 2, 1, (0, 0, 0)), (.iload_n 3, 1, (0, 0, 0)), (.iload 8, 2, (0, 0, 0))] = 30 := by decide +kernel
theorem ok_X11_add_33_4 : oks m_X11_add.1 m_X11_add.2.2.1 33 [(.istore 9, 2, (0, 0, 0)), (.iload 8, 2, (0, 0, 0)), (.aload_n 0, 1, (0, 0, 0)), (.getfield 231, 3, (11, 21, 0))] = true ∧ plen 33 [(.istore 9, 2, (0, 0, 0)), (.iload 8, 2, (0, 0, 0)), (.aload_n 0, 1, (0, 0, 0)), (.getfield 231, 3, (11, 21, 0))] = 41 := by decide +kernel
theorem ok_X11_add_44_1 : oks m_X11_add.1 m_X11_add.2.2.1 44 [(.iconst 1, 1, (0, 0, 0))] = true ∧ plen 44 [(.iconst 1, 1, (0, 0, 0))] = 45 := by decide +kernel
theorem ok_X11_add_48_1 : oks m_X11_add.1 m_X11_add.2.2.1 48 [(.iconst 0, 1, (0, 0, 0))] = true ∧ plen 48 [(.iconst 0, 1, (0, 0, 0))] = 49 := by decide +kernel
theorem ok_X11_add_49_3 : oks m_X11_add.1 m_X11_add.2.2.1 49 [(.istore 10, 2, (0, 0, 0)), (.aload_n 0, 1, (0, 0, 0)), (.iload 9, 2, (0, 0, 0))] = true ∧ plen 49 [(.istore 10, 2, (0, 0, 0)), (.aload_n 0, 1, (0, 0, 0)), (.iload 9, 2, (0, 0, 0))] = 54 := by decide +kernel
theorem ok_X11_add_57_2 : oks m_X11_add.1 m_X11_add.2.2.1 57 [(.istore 11, 2, (0, 0, 0)), (.iload 5, 2, (0, 0, 0))] = true ∧ plen 57 [(.istore 11, 2, (0, 0, 0)), (.iload 5, 2, (0, 0, 0))] = 61 := by decide +kernel
theorem ok_X11_add_64_1 : oks m_X11_add.1 m_X11_add.2.2.1 64 [(.iload 10, 2, (0, 0, 0))] = true ∧ plen 64 [(.iload 10, 2, (0, 0, 0))] = 66 := by decide +kernel
theorem ok_X11_add_69_1 : oks m_X11_add.1 m_X11_add.2.2.1 69 [(.iload 11, 2, (0, 0, 0))] = true ∧ plen 69 [(.iload 11, 2, (0, 0, 0))] = 71 := by decide +kernel
theorem ok_X11_add_74_1 : oks m_X11_add.1 m_X11_add.2.2.1 74 [(.iconst 1, 1, (0, 0, 0))] = true ∧ plen 74 [(.iconst 1, 1, (0, 0, 0))] = 75 := by decide +kernel
theorem ok_X11_add_78_1 : oks m_X11_add.1 m_X11_add.2.2.1 78 [(.iconst 0, 1, (0, 0, 0))] = true ∧ plen 78 [(.iconst 0, 1, (0, 0, 0))] = 79 := by decide +kernel
theorem ok_X11_add_79_2 : oks m_X11_add.1 m_X11_add.2.2.1 79 [(.istore 5, 2, (0, 0, 0)), (.iload 6, 2, (0, 0, 0))] = true ∧ plen 79 [(.istore 5, 2, (0, 0, 0)), (.iload 6, 2, (0, 0, 0))] = 83 := by decide +kernel
theorem ok_X11_add_86_1 : oks m_X11_add.1 m_X11_add.2.2.1 86 [(.iload 10, 2, (0, 0, 0))] = true ∧ plen 86 [(.iload 10, 2, (0, 0, 0))] = 88 := by decide +kernel
theorem ok_X11_add_91_1 : oks m_X11_add.1 m_X11_add.2.2.1 91 [(.iload 11, 2, (0, 0, 0))] = true ∧ plen 91 [(.iload 11, 2, (0, 0, 0))] = 93 := by decide +kernel
theorem ok_X11_add_96_5 : oks m_X11_add.1 m_X11_add.2.2.1 96 [(.aload_n 0, 1, (0, 0, 0)), (.iload 9, 2, (0, 0, 0)), (.aload_n 0, 1, (0, 0, 0)), (.getfield 65, 3, (11, 22, 0)), (.iload 8, 2, (0, 0, 0))] = true ∧ plen 96 [(.aload_n 0, 1, (0, 0, 0)), (.iload 9, 2, (0, 0, 0)), (.aload_n 0, 1, (0, 0, 0)), (.getfield 65, 3, (11, 22, 0)), (.iload 8, 2, (0, 0, 0))] = 105 := by decide +kernel
theorem ok_X11_add_112_3 : oks m_X11_add.1 m_X11_add.2.2.1 112 [(.aload_n 0, 1, (0, 0, 0)), (.getfield 52, 3, (11, 17, 0)), (.iload 9, 2, (0, 0, 0))] = true ∧ plen 112 [(.aload_n 0, 1, (0, 0, 0)), (.getfield 52, 3, (11, 17, 0)), (.iload 9, 2, (0, 0, 0))] = 118 := by decide +kernel
theorem ok_X11_add_119_2 : oks m_X11_add.1 m_X11_add.2.2.1 119 [(.iload 7, 2, (0, 0, 0)), (.iand, 1, (0, 0, 0))] = true ∧ plen 119 [(.iload 7, 2, (0, 0, 0)), (.iand, 1, (0, 0, 0))] = 122 := by decide +kernel
theorem ok_X11_add_128_2 : oks m_X11_add.1 m_X11_add.2.2.1 128 [(.iload 9, 2, (0, 0, 0)), (.iconst (-1), 1, (0, 0, 0))] = true ∧ plen 128 [(.iload 9, 2, (0, 0, 0)), (.iconst (-1), 1, (0, 0, 0))] = 131 := by decide +kernel
theorem ok_X11_add_134_1 : oks m_X11_add.1 m_X11_add.2.2.1 134 [(.iconst 1, 1, (0, 0, 0))] = true ∧ plen 134 [(.iconst 1, 1, (0, 0, 0))] = 135 := by decide +kernel
theorem ok_X11_add_138_1 : oks m_X11_add.1 m_X11_add.2.2.1 138 [(.iconst 0, 1, (0, 0, 0))] = true ∧ plen 138 [(.iconst 0, 1, (0, 0, 0))] = 139 := by decide +kernel
theorem ok_X11_add_139_3 : oks m_X11_add.1 m_X11_add.2.2.1 139 [(.istore 6, 2, (0, 0, 0)), (.iload 7, 2, (0, 0, 0)), (.iload 10, 2, (0, 0, 0))] = true ∧ plen 139 [(.istore 6, 2, (0, 0, 0)), (.iload 7, 2, (0, 0, 0)), (.iload 10, 2, (0, 0, 0))] = 145 := by decide +kernel
theorem ok_X11_add_148_1 : oks m_X11_add.1 m_X11_add.2.2.1 148 [(.iload 11, 2, (0, 0, 0))] = true ∧ plen 148 [(.iload 11, 2, (0, 0, 0))] = 150 := by decide +kernel
theorem ok_X11_add_153_3 : oks m_X11_add.1 m_X11_add.2.2.1 153 [(.aload_n 0, 1, (0, 0, 0)), (.getfield 52, 3, (11, 17, 0)), (.iload 9, 2, (0, 0, 0))] = true ∧ plen 153 [(.aload_n 0, 1, (0, 0, 0)), (.getfield 52, 3, (11, 17, 0)), (.iload 9, 2, (0, 0, 0))] = 159 := by decide +kernel
theorem ok_X11_add_163_1 : oks m_X11_add.1 m_X11_add.2.2.1 163 [(.iconst 0, 1, (0, 0, 0))] = true ∧ plen 163 [(.iconst 0, 1, (0, 0, 0))] = 164 := by decide +kernel
theorem ok_X11_add_164_3 : oks m_X11_add.1 m_X11_add.2.2.1 164 [(.ior, 1, (0, 0, 0)), (.istore 7, 2, (0, 0, 0)), (.iinc 8 1, 3, (0, 0, 0))] = true ∧ plen 164 [(.ior, 1, (0, 0, 0)), (.istore 7, 2, (0, 0, 0)), (.iinc 8 1, 3, (0, 0, 0))] = 170 := by decide +kernel
theorem ok_X11_add_173_2 : oks m_X11_add.1 m_X11_add.2.2.1 173 [(.aload_n 0, 1, (0, 0, 0)), (.iload 5, 2, (0, 0, 0))] = true ∧ plen 173 [(.aload_n 0, 1, (0, 0, 0)), (.iload 5, 2, (0, 0, 0))] = 176 := by decide +kernel
theorem ok_X11_add_179_1 : oks m_X11_add.1 m_X11_add.2.2.1 179 [(.iconst 1, 1, (0, 0, 0))] = true ∧ plen 179 [(.iconst 1, 1, (0, 0, 0))] = 180 := by decide +kernel
theorem ok_X11_add_183_1 : oks m_X11_add.1 m_X11_add.2.2.1 183 [(.iload 6, 2, (0, 0, 0))] = true ∧ plen 183 [(.iload 6, 2, (0, 0, 0))] = 185 := by decide +kernel
theorem ok_X11_add_188_1 : oks m_X11_add.1 m_X11_add.2.2.1 188 [(.iconst 2, 1, (0, 0, 0))] = true ∧ plen 188 [(.iconst 2, 1, (0, 0, 0))] = 189 := by decide +kernel
theorem ok_X11_add_192_2 : oks m_X11_add.1 m_X11_add.2.2.1 192 [(.aload_n 0, 1, (0, 0, 0)), (.getfield 231, 3, (11, 21, 0))] = true ∧ plen 192 [(.aload_n 0, 1, (0, 0, 0)), (.getfield 231, 3, (11, 21, 0))] = 196 := by decide +kernel
theorem ok_X11_add_199_3 : oks m_X11_add.1 m_X11_add.2.2.1 199 [(.aload_n 0, 1, (0, 0, 0)), (.getfield 228, 3, (11, 23, 0)), (.bipush 8, 2, (0, 0, 0))] = true ∧ plen 199 [(.aload_n 0, 1, (0, 0, 0)), (.getfield 228, 3, (11, 23, 0)), (.bipush 8, 2, (0, 0, 0))] = 205 := by decide +kernel
theorem ok_X11_add_208_1 : oks m_X11_add.1 m_X11_add.2.2.1 208 [(.iconst 3, 1, (0, 0, 0))] = true ∧ plen 208 [(.iconst 3, 1, (0, 0, 0))] = 209 := by decide +kernel
theorem ok_X11_add_212_1 : oks m_X11_add.1 m_X11_add.2.2.1 212 [(.iconst 0, 1, (0, 0, 0))] = true ∧ plen 212 [(.iconst 0, 1, (0, 0, 0))] = 213 := by decide +kernel
theorem ok_X11_add_219_1 : oks m_X11_add.1 m_X11_add.2.2.1 219 [(.iconst 0, 1, (0, 0, 0))] = true ∧ plen 219 [(.iconst 0, 1, (0, 0, 0))] = 220 := by decide +kernel
theorem ok_X11_add_221_5 : oks m_X11_add.1 m_X11_add.2.2.1 221 [(.aload_n 0, 1, (0, 0, 0)), (.getfield 228, 3, (11, 23, 0)), (.istore 8, 2, (0, 0, 0)), (.aload_n 0, 1, (0, 0, 0)), (.iload 8, 2, (0, 0, 0))] = true ∧ plen 221 [(.aload_n 0, 1, (0, 0, 0)), (.getfield 228, 3, (11, 23, 0)), (.istore 8, 2, (0, 0, 0)), (.aload_n 0, 1, (0, 0, 0)), (.iload 8, 2, (0, 0, 0))] = 230 := by decide +kernel
theorem ok_X11_add_233_2 : oks m_X11_add.1 m_X11_add.2.2.1 233 [(.iconst 0, 1, (0, 0, 0)), (.istore 9, 2, (0, 0, 0))] = true ∧ plen 233 [(.iconst 0, 1, (0, 0, 0)), (.istore 9, 2, (0, 0, 0))] = 236 := by decide +kernel
theorem ok_X11_add_236_2 : oks m_X11_add.1 m_X11_add.2.2.1 236 [(.iload 9, 2, (0, 0, 0)), (.iconst 3, 1, (0, 0, 0))] = true ∧ plen 236 [(.iload 9, 2, (0, 0, 0)), (.iconst 3, 1, (0, 0, 0))] = 239 := by decide +kernel
theorem ok_X11_add_242_11 : oks m_X11_add.1 m_X11_add.2.2.1 242 [(.aload_n 0, 1, (0, 0, 0)), (.getfield 68, 3, (11, 24, 0)), (.iconst 3, 1, (0, 0, 0)), (.iload 8, 2, (0, 0, 0)), (.imul, 1, (0, 0, 0)), (.iload 9, 2, (0, 0, 0)), (.iadd, 1, (0, 0, 0)), (.iload_n 1, 1, (0, 0, 0)), (.iload_n 2, 1, (0, 0, 0)), (.iload_n 3, 1, (0, 0, 0)), (.iload 9, 2, (0, 0, 0))] = true ∧ plen 242 [(.aload_n 0, 1, (0, 0, 0)), (.getfield 68, 3, (11, 24, 0)), (.iconst 3, 1, (0, 0, 0)), (.iload 8, 2, (0, 0, 0)), (.imul, 1, (0, 0, 0)), (.iload 9, 2, (0, 0, 0)), (.iadd, 1, (0, 0, 0)), (.iload_n 1, 1, (0, 0, 0)), (.iload_n 2, 1, (0, 0, 0)), (.iload_n 3, 1, (0, 0, 0)), (.iload 9, 2, (0, 0, 0))] = 258 := by decide +kernel
theorem ok_X11_add_262_1 : oks m_X11_add.1 m_X11_add.2.2.1 262 [(.iinc 9 1, 3, (0, 0, 0))] = true ∧ plen 262 [(.iinc 9 1, 3, (0, 0, 0))] = 265 := by decide +kernel
theorem ok_X11_add_268_4 : oks m_X11_add.1 m_X11_add.2.2.1 268 [(.aload_n 0, 1, (0, 0, 0)), (.getfield 71, 3, (11, 25, 0)), (.iload 8, 2, (0, 0, 0)), (.iload 4, 2, (0, 0, 0))] = true ∧ plen 268 [(.aload_n 0, 1, (0, 0, 0)), (.getfield 71, 3, (11, 25, 0)), (.iload 8, 2, (0, 0, 0)), (.iload 4, 2, (0, 0, 0))] = 276 := by decide +kernel
theorem ok_X11_add_277_1 : oks m_X11_add.1 m_X11_add.2.2.1 277 [(.iload 8, 2, (0, 0, 0))] = true ∧ plen 277 [(.iload 8, 2, (0, 0, 0))] = 279 := by decide +kernel
def B_X11_add_164 (x5 : Bool) (x6 : Bool) (x8 : Int) (y0 : Int) (y1 : Int) (σ : Sg) : Option ((Bool × Bool × Int × Int) ⊕ (Bool × Bool)) :=
bnd (jor y1 y0) fun v7 =>
some (.inl (x5, x6, v7, wrap (x8 + 1)))
def B_X11_add_163 (x5 : Bool) (x6 : Bool) (x8 : Int) (y0 : Int) (σ : Sg) : Option ((Bool × Bool × Int × Int) ⊕ (Bool × Bool)) :=
B_X11_add_164 x5 x6 x8 0 y0 σ
def B_X11_add_139 (x5 : Bool) (x7 : Int) (x8 : Int) (x9 : Int) (x10 : Bool) (x11 : Bool) (y0 : Bool) (σ : Sg) : Option ((Bool × Bool × Int × Int) ⊕ (Bool × Bool)) :=
if x10 = true then
if x11 = true then
(rdn 60 σ 15 x9).bind fun v9 =>
B_X11_add_164 x5 y0 x8 v9 x7 σ
else
B_X11_add_163 x5 y0 x8 x7 σ
else
B_X11_add_163 x5 y0 x8 x7 σ
def B_X11_add_138 (x5 : Bool) (x7 : Int) (x8 : Int) (x9 : Int) (x10 : Bool) (x11 : Bool) (σ : Sg) : Option ((Bool × Bool × Int × Int) ⊕ (Bool × Bool)) :=
B_X11_add_139 x5 x7 x8 x9 x10 x11 false σ
def B_X11_add_134 (x5 : Bool) (x7 : Int) (x8 : Int) (x9 : Int) (x10 : Bool) (x11 : Bool) (σ : Sg) : Option ((Bool × Bool × Int × Int) ⊕ (Bool × Bool)) :=
B_X11_add_139 x5 x7 x8 x9 x10 x11 true σ
def B_X11_add_79 (x6 : Bool) (x7 : Int) (x8 : Int) (x9 : Int) (x10 : Bool) (x11 : Bool) (y0 : Bool) (σ : Sg) : Option ((Bool × Bool × Int × Int) ⊕ (Bool × Bool)) :=
if x6 = true then
if x10 = true then
if x11 = true then
(rdn 3 σ 19 x8).bind fun v11 =>
(F_X11_suits x9 v11 σ).bind fun q13 =>
if q13 = true then
(rdn 60 σ 15 x9).bind fun v15 =>
if (jand v15 x7) = 0 then
B_X11_add_134 y0 x7 x8 x9 x10 x11 σ
else
B_X11_add_138 y0 x7 x8 x9 x10 x11 σ
else
B_X11_add_138 y0 x7 x8 x9 x10 x11 σ
else
B_X11_add_138 y0 x7 x8 x9 x10 x11 σ
else
if x9 = (-1) then
B_X11_add_134 y0 x7 x8 x9 x10 x11 σ
else
B_X11_add_138 y0 x7 x8 x9 x10 x11 σ
else
B_X11_add_138 y0 x7 x8 x9 x10 x11 σ
def B_X11_add_78 (x6 : Bool) (x7 : Int) (x8 : Int) (x9 : Int) (x10 : Bool) (x11 : Bool) (σ : Sg) : Option ((Bool × Bool × Int × Int) ⊕ (Bool × Bool)) :=
B_X11_add_79 x6 x7 x8 x9 x10 x11 false σ
def B_X11_add_74 (x6 : Bool) (x7 : Int) (x8 : Int) (x9 : Int) (x10 : Bool) (x11 : Bool) (σ : Sg) : Option ((Bool × Bool × Int × Int) ⊕ (Bool × Bool)) :=
B_X11_add_79 x6 x7 x8 x9 x10 x11 true σ
def B_X11_add_49 (x5 : Bool) (x6 : Bool) (x7 : Int) (x8 : Int) (x9 : Int) (y0 : Bool) (σ : Sg) : Option ((Bool × Bool × Int × Int) ⊕ (Bool × Bool)) :=
bnd (F_X11_isPattern x9 σ) fun v5 =>
if x5 = true then
if y0 = true then
if v5 = true then
B_X11_add_74 x6 x7 x8 x9 y0 v5 σ
else
B_X11_add_78 x6 x7 x8 x9 y0 v5 σ
else
B_X11_add_74 x6 x7 x8 x9 y0 v5 σ
else
B_X11_add_78 x6 x7 x8 x9 y0 v5 σ
def L_X11_add_19 (x1 : Int) (x2 : Int) (x3 : Int) (σ : Sg) (x5 : Bool) (x6 : Bool) (x7 : Int) (x8 : Int) : Option ((Bool × Bool × Int × Int) ⊕ (Bool × Bool)) :=
if 3 ≤ x8 then
some (.inr (x5, x6))
else
bnd (F_X11_pick x1 x2 x3 x8) fun v3 =>
if (σ 0 21) ≤ x8 then
B_X11_add_49 x5 x6 x7 x8 v3 false σ
else
B_X11_add_49 x5 x6 x7 x8 v3 true σ
def L_X11_add_236 (x1 : Int) (x2 : Int) (x3 : Int) (x8 : Int) (x9 : Int) (σ : Sg) : Option ((Int × Sg) ⊕ Sg) :=
if 3 ≤ x9 then
some (.inr σ)
else
(wrn 24 σ 20 (wrap ((wrap (3 * x8)) + x9)) (F_X11_pick x1 x2 x3 x9)).bind fun s25 =>
some (.inl (wrap (x9 + 1), s25))
def B_X11_add_213 (x1 : Int) (x2 : Int) (x3 : Int) (x4 : Int) (y0 : Int) (σ : Sg) : Option (Int × Sg) :=
bnd (F_X11_refused y0 σ) fun q19 =>
if q19.1 = true then
some (0, q19.2)
else
bnd (q19.2 0 23) fun v21 =>
(F_X11_open v21 q19.2).bind fun q23 =>
(iter (fun a : (Int × Sg) => L_X11_add_236 x1 x2 x3 v21 a.1 a.2) 4 (0, q23)).bind fun y27 =>
(wrn 8 y27 21 v21 x4).bind fun s29 =>
some (v21, s29)
def B_X11_add_208 (x1 : Int) (x2 : Int) (x3 : Int) (x4 : Int) (σ : Sg) : Option (Int × Sg) :=
B_X11_add_213 x1 x2 x3 x4 3 σ
def F_X11_add (a1 : Int) (a2 : Int) (a3 : Int) (a4 : Int) (σ : Sg) : Option (Int × Sg) :=
bnd (F_X11_in a4 0 99) fun v1 =>
(iter (fun a : (Bool × Bool × Int × Int) => L_X11_add_19 a1 a2 a3 σ a.1 a.2.1 a.2.2.1 a.2.2.2) 4 (true, v1, 0, 0)).bind fun y17 =>
if y17.1 = true then
if y17.2 = true then
if (σ 0 21) = 0 then
B_X11_add_208 a1 a2 a3 a4 σ
else
if (σ 0 23) = 8 then
B_X11_add_208 a1 a2 a3 a4 σ
else
B_X11_add_213 a1 a2 a3 a4 0 σ
else
B_X11_add_213 a1 a2 a3 a4 2 σ
else
B_X11_add_213 a1 a2 a3 a4 1 σ
theorem lk_X11_add (l : Launch) (d : Nat) (hd : 2 ≤ d) (a1 : Int) (a2 : Int) (a3 : Int) (a4 : Int) (σ : Sg) (q : (Int × Sg)) (h : F_X11_add a1 a2 a3 a4 σ = some q) : CT l d m_X11_add.2.1 m_X11_add.2.2.1 m_X11_add.2.2.2.1 m_X11_add.2.2.2.2 [.inr 0, .inl a1, .inl a2, .inl a3, .inl a4] (LAYM, σ) (some (.inl q.1)) (LAYM, q.2) := by
  obtain ⟨d, rfl⟩ : ∃ e, d = e + 1 := ⟨d - 1, by omega⟩
  have key : Go l m_X11_add (d + 1) LAYM (.inl (some (.inl q.1))) q.2 0 [some (.inr 0), some (.inl a1), some (.inl a2), some (.inl a3), some (.inl a4), none, none, none, none, none, none, none] [] σ := by
    unfold F_X11_add at h
    have hL_X11_add_19 : ∀ (x1 : Int) (x2 : Int) (x3 : Int) (x4 : Int) (σ : Sg) (n : Nat) (a : (Bool × Bool × Int × Int)) (y : (Bool × Bool)), iter (fun a : (Bool × Bool × Int × Int) => L_X11_add_19 x1 x2 x3 σ a.1 a.2.1 a.2.2.1 a.2.2.2) n a = some y → (fun y : (Bool × Bool) => Go l m_X11_add (d + 1) LAYM (.inl (some (.inl q.1))) q.2 173 [some (.inr 0), some (.inl x1), some (.inl x2), some (.inl x3), some (.inl x4), some (.inl (b2i y.1)), some (.inl (b2i y.2)), none, none, none, none, none] [] σ) y → (fun a : (Bool × Bool × Int × Int) => Go l m_X11_add (d + 1) LAYM (.inl (some (.inl q.1))) q.2 19 [some (.inr 0), some (.inl x1), some (.inl x2), some (.inl x3), some (.inl x4), some (.inl (b2i a.1)), some (.inl (b2i a.2.1)), some (.inl a.2.2.1), some (.inl a.2.2.2), none, none, none] [] σ) a := by
      intro x1 x2 x3 x4 σ
      refine go_iter (G := fun a : (Bool × Bool × Int × Int) => Go l m_X11_add (d + 1) LAYM (.inl (some (.inl q.1))) q.2 19 [some (.inr 0), some (.inl x1), some (.inl x2), some (.inl x3), some (.inl x4), some (.inl (b2i a.1)), some (.inl (b2i a.2.1)), some (.inl a.2.2.1), some (.inl a.2.2.2), none, none, none] [] σ) (K := fun y : (Bool × Bool) => Go l m_X11_add (d + 1) LAYM (.inl (some (.inl q.1))) q.2 173 [some (.inr 0), some (.inl x1), some (.inl x2), some (.inl x3), some (.inl x4), some (.inl (b2i y.1)), some (.inl (b2i y.2)), none, none, none, none, none] [] σ) ?_
      rintro ⟨x5, x6, x7, x8⟩ w h hK
      replace h : L_X11_add_19 x1 x2 x3 σ x5 x6 x7 x8 = some w := h
      show Go l m_X11_add (d + 1) LAYM (.inl (some (.inl q.1))) q.2 19 [some (.inr 0), some (.inl x1), some (.inl x2), some (.inl x3), some (.inl x4), some (.inl (b2i x5)), some (.inl (b2i x6)), some (.inl x7), some (.inl x8), none, none, none] [] σ
      unfold L_X11_add_19 at h
      have hB_X11_add_164 : ∀ (x5 : Bool) (x6 : Bool) (x8 : Int) (y0 : Int) (y1 : Int), B_X11_add_164 x5 x6 x8 y0 y1 σ = some w → Go l m_X11_add (d + 1) LAYM (.inl (some (.inl q.1))) q.2 164 [some (.inr 0), some (.inl x1), some (.inl x2), some (.inl x3), some (.inl x4), some (.inl (b2i x5)), some (.inl (b2i x6)), none, some (.inl x8), none, none, none] [.inl y0, .inl y1] σ := by
        intro x5 x6 x8 y0 y1 h
        unfold B_X11_add_164 at h
        obtain ⟨v7, e8, h⟩ := bnd_inv h
        refine go_ops ok_X11_add_164_3 (L' := [some (.inr 0), some (.inl x1), some (.inl x2), some (.inl x3), some (.inl x4), some (.inl (b2i x5)), some (.inl (b2i x6)), some (.inl v7), some (.inl (wrap (x8 + 1))), none, none, none]) (st' := []) (σ1 := σ) (by subst e8; rfl) ?_
        refine go_goto dc_X11_add_170 (by rfl) ?_
        cases h
        exact hK
      have hB_X11_add_163 : ∀ (x5 : Bool) (x6 : Bool) (x8 : Int) (y0 : Int), B_X11_add_163 x5 x6 x8 y0 σ = some w → Go l m_X11_add (d + 1) LAYM (.inl (some (.inl q.1))) q.2 163 [some (.inr 0), some (.inl x1), some (.inl x2), some (.inl x3), some (.inl x4), some (.inl (b2i x5)), some (.inl (b2i x6)), none, some (.inl x8), none, none, none] [.inl y0] σ := by
        intro x5 x6 x8 y0 h
        unfold B_X11_add_163 at h
        refine go_ops ok_X11_add_163_1 (L' := [some (.inr 0), some (.inl x1), some (.inl x2), some (.inl x3), some (.inl x4), some (.inl (b2i x5)), some (.inl (b2i x6)), none, some (.inl x8), none, none, none]) (st' := [.inl 0, .inl y0]) (σ1 := σ) rfl ?_
        exact hB_X11_add_164 x5 x6 x8 0 y0 h
      have hB_X11_add_139 : ∀ (x5 : Bool) (x7 : Int) (x8 : Int) (x9 : Int) (x10 : Bool) (x11 : Bool) (y0 : Bool), B_X11_add_139 x5 x7 x8 x9 x10 x11 y0 σ = some w → Go l m_X11_add (d + 1) LAYM (.inl (some (.inl q.1))) q.2 139 [some (.inr 0), some (.inl x1), some (.inl x2), some (.inl x3), some (.inl x4), some (.inl (b2i x5)), none, some (.inl x7), some (.inl x8), some (.inl x9), some (.inl (b2i x10)), some (.inl (b2i x11))] [.inl (b2i y0)] σ := by
        intro x5 x7 x8 x9 x10 x11 y0 h
        unfold B_X11_add_139 at h
        refine go_ops ok_X11_add_139_3 (L' := [some (.inr 0), some (.inl x1), some (.inl x2), some (.inl x3), some (.inl x4), some (.inl (b2i x5)), some (.inl (b2i y0)), some (.inl x7), some (.inl x8), some (.inl x9), some (.inl (b2i x10)), some (.inl (b2i x11))]) (st' := [.inl (b2i x10), .inl x7]) (σ1 := σ) rfl ?_
        refine go_ifb_eq dc_X11_add_145 (by rfl) (fun hc => ?_) (fun hc => ?_)
        · replace h := (if_neg hc).symm.trans h
          refine go_wk (L' := [some (.inr 0), some (.inl x1), some (.inl x2), some (.inl x3), some (.inl x4), some (.inl (b2i x5)), some (.inl (b2i y0)), none, some (.inl x8), none, none, none]) ⟨rfl, rfl, rfl, rfl, rfl, rfl, rfl, rfl, trivial⟩ ?_
          exact hB_X11_add_163 x5 y0 x8 x7 h
        · replace h := (if_pos hc).symm.trans h
          refine go_ops ok_X11_add_148_1 (L' := [some (.inr 0), some (.inl x1), some (.inl x2), some (.inl x3), some (.inl x4), some (.inl (b2i x5)), some (.inl (b2i y0)), some (.inl x7), some (.inl x8), some (.inl x9), some (.inl (b2i x10)), some (.inl (b2i x11))]) (st' := [.inl (b2i x11), .inl x7]) (σ1 := σ) rfl ?_
          refine go_ifb_eq dc_X11_add_150 (by rfl) (fun hc => ?_) (fun hc => ?_)
          · replace h := (if_neg hc).symm.trans h
            refine go_wk (L' := [some (.inr 0), some (.inl x1), some (.inl x2), some (.inl x3), some (.inl x4), some (.inl (b2i x5)), some (.inl (b2i y0)), none, some (.inl x8), none, none, none]) ⟨rfl, rfl, rfl, rfl, rfl, rfl, rfl, rfl, trivial⟩ ?_
            exact hB_X11_add_163 x5 y0 x8 x7 h
          · replace h := (if_pos hc).symm.trans h
            refine go_ops ok_X11_add_153_3 (L' := [some (.inr 0), some (.inl x1), some (.inl x2), some (.inl x3), some (.inl x4), some (.inl (b2i x5)), some (.inl (b2i y0)), some (.inl x7), some (.inl x8), some (.inl x9), some (.inl (b2i x10)), some (.inl (b2i x11))]) (st' := [.inl x9, .inr 15, .inl x7]) (σ1 := σ) rfl ?_
            obtain ⟨v9, e10, h⟩ := bind_inv h
            refine go_rd (k := 15) dc_X11_add_159 rfl e10 ?_
            refine go_goto dc_X11_add_160 (by rfl) ?_
            refine go_wk (L' := [some (.inr 0), some (.inl x1), some (.inl x2), some (.inl x3), some (.inl x4), some (.inl (b2i x5)), some (.inl (b2i y0)), none, some (.inl x8), none, none, none]) ⟨rfl, rfl, rfl, rfl, rfl, rfl, rfl, rfl, trivial⟩ ?_
            exact hB_X11_add_164 x5 y0 x8 v9 x7 h
      have hB_X11_add_138 : ∀ (x5 : Bool) (x7 : Int) (x8 : Int) (x9 : Int) (x10 : Bool) (x11 : Bool), B_X11_add_138 x5 x7 x8 x9 x10 x11 σ = some w → Go l m_X11_add (d + 1) LAYM (.inl (some (.inl q.1))) q.2 138 [some (.inr 0), some (.inl x1), some (.inl x2), some (.inl x3), some (.inl x4), some (.inl (b2i x5)), none, some (.inl x7), some (.inl x8), some (.inl x9), some (.inl (b2i x10)), some (.inl (b2i x11))] [] σ := by
        intro x5 x7 x8 x9 x10 x11 h
        unfold B_X11_add_138 at h
        refine go_ops ok_X11_add_138_1 (L' := [some (.inr 0), some (.inl x1), some (.inl x2), some (.inl x3), some (.inl x4), some (.inl (b2i x5)), none, some (.inl x7), some (.inl x8), some (.inl x9), some (.inl (b2i x10)), some (.inl (b2i x11))]) (st' := [.inl 0]) (σ1 := σ) rfl ?_
        exact hB_X11_add_139 x5 x7 x8 x9 x10 x11 false h
      have hB_X11_add_134 : ∀ (x5 : Bool) (x7 : Int) (x8 : Int) (x9 : Int) (x10 : Bool) (x11 : Bool), B_X11_add_134 x5 x7 x8 x9 x10 x11 σ = some w → Go l m_X11_add (d + 1) LAYM (.inl (some (.inl q.1))) q.2 134 [some (.inr 0), some (.inl x1), some (.inl x2), some (.inl x3), some (.inl x4), some (.inl (b2i x5)), none, some (.inl x7), some (.inl x8), some (.inl x9), some (.inl (b2i x10)), some (.inl (b2i x11))] [] σ := by
        intro x5 x7 x8 x9 x10 x11 h
        unfold B_X11_add_134 at h
        refine go_ops ok_X11_add_134_1 (L' := [some (.inr 0), some (.inl x1), some (.inl x2), some (.inl x3), some (.inl x4), some (.inl (b2i x5)), none, some (.inl x7), some (.inl x8), some (.inl x9), some (.inl (b2i x10)), some (.inl (b2i x11))]) (st' := [.inl 1]) (σ1 := σ) rfl ?_
        refine go_goto dc_X11_add_135 (by rfl) ?_
        exact hB_X11_add_139 x5 x7 x8 x9 x10 x11 true h
      have hB_X11_add_79 : ∀ (x6 : Bool) (x7 : Int) (x8 : Int) (x9 : Int) (x10 : Bool) (x11 : Bool) (y0 : Bool), B_X11_add_79 x6 x7 x8 x9 x10 x11 y0 σ = some w → Go l m_X11_add (d + 1) LAYM (.inl (some (.inl q.1))) q.2 79 [some (.inr 0), some (.inl x1), some (.inl x2), some (.inl x3), some (.inl x4), none, some (.inl (b2i x6)), some (.inl x7), some (.inl x8), some (.inl x9), some (.inl (b2i x10)), some (.inl (b2i x11))] [.inl (b2i y0)] σ := by
        intro x6 x7 x8 x9 x10 x11 y0 h
        unfold B_X11_add_79 at h
        refine go_ops ok_X11_add_79_2 (L' := [some (.inr 0), some (.inl x1), some (.inl x2), some (.inl x3), some (.inl x4), some (.inl (b2i y0)), some (.inl (b2i x6)), some (.inl x7), some (.inl x8), some (.inl x9), some (.inl (b2i x10)), some (.inl (b2i x11))]) (st' := [.inl (b2i x6)]) (σ1 := σ) rfl ?_
        refine go_ifb_eq dc_X11_add_83 (by rfl) (fun hc => ?_) (fun hc => ?_)
        · replace h := (if_neg hc).symm.trans h
          refine go_wk (L' := [some (.inr 0), some (.inl x1), some (.inl x2), some (.inl x3), some (.inl x4), some (.inl (b2i y0)), none, some (.inl x7), some (.inl x8), some (.inl x9), some (.inl (b2i x10)), some (.inl (b2i x11))]) ⟨rfl, rfl, rfl, rfl, rfl, rfl, rfl, rfl, rfl, rfl, rfl, trivial⟩ ?_
          exact hB_X11_add_138 y0 x7 x8 x9 x10 x11 h
        · replace h := (if_pos hc).symm.trans h
          refine go_ops ok_X11_add_86_1 (L' := [some (.inr 0), some (.inl x1), some (.inl x2), some (.inl x3), some (.inl x4), some (.inl (b2i y0)), some (.inl (b2i x6)), some (.inl x7), some (.inl x8), some (.inl x9), some (.inl (b2i x10)), some (.inl (b2i x11))]) (st' := [.inl (b2i x10)]) (σ1 := σ) rfl ?_
          refine go_ifb_eq dc_X11_add_88 (by rfl) (fun hc => ?_) (fun hc => ?_)
          · replace h := (if_neg hc).symm.trans h
            refine go_ops ok_X11_add_128_2 (L' := [some (.inr 0), some (.inl x1), some (.inl x2), some (.inl x3), some (.inl x4), some (.inl (b2i y0)), some (.inl (b2i x6)), some (.inl x7), some (.inl x8), some (.inl x9), some (.inl (b2i x10)), some (.inl (b2i x11))]) (st' := [.inl (-1), .inl x9]) (σ1 := σ) rfl ?_
            refine go_icmp_ne dc_X11_add_131 (by rfl) (fun hc => ?_) (fun hc => ?_)
            · replace h := (if_neg hc).symm.trans h
              refine go_wk (L' := [some (.inr 0), some (.inl x1), some (.inl x2), some (.inl x3), some (.inl x4), some (.inl (b2i y0)), none, some (.inl x7), some (.inl x8), some (.inl x9), some (.inl (b2i x10)), some (.inl (b2i x11))]) ⟨rfl, rfl, rfl, rfl, rfl, rfl, rfl, rfl, rfl, rfl, rfl, trivial⟩ ?_
              exact hB_X11_add_138 y0 x7 x8 x9 x10 x11 h
            · replace h := (if_pos hc).symm.trans h
              refine go_wk (L' := [some (.inr 0), some (.inl x1), some (.inl x2), some (.inl x3), some (.inl x4), some (.inl (b2i y0)), none, some (.inl x7), some (.inl x8), some (.inl x9), some (.inl (b2i x10)), some (.inl (b2i x11))]) ⟨rfl, rfl, rfl, rfl, rfl, rfl, rfl, rfl, rfl, rfl, rfl, trivial⟩ ?_
              exact hB_X11_add_134 y0 x7 x8 x9 x10 x11 h
          · replace h := (if_pos hc).symm.trans h
            refine go_ops ok_X11_add_91_1 (L' := [some (.inr 0), some (.inl x1), some (.inl x2), some (.inl x3), some (.inl x4), some (.inl (b2i y0)), some (.inl (b2i x6)), some (.inl x7), some (.inl x8), some (.inl x9), some (.inl (b2i x10)), some (.inl (b2i x11))]) (st' := [.inl (b2i x11)]) (σ1 := σ) rfl ?_
            refine go_ifb_eq dc_X11_add_93 (by rfl) (fun hc => ?_) (fun hc => ?_)
            · replace h := (if_neg hc).symm.trans h
              refine go_wk (L' := [some (.inr 0), some (.inl x1), some (.inl x2), some (.inl x3), some (.inl x4), some (.inl (b2i y0)), none, some (.inl x7), some (.inl x8), some (.inl x9), some (.inl (b2i x10)), some (.inl (b2i x11))]) ⟨rfl, rfl, rfl, rfl, rfl, rfl, rfl, rfl, rfl, rfl, rfl, trivial⟩ ?_
              exact hB_X11_add_138 y0 x7 x8 x9 x10 x11 h
            · replace h := (if_pos hc).symm.trans h
              refine go_ops ok_X11_add_96_5 (L' := [some (.inr 0), some (.inl x1), some (.inl x2), some (.inl x3), some (.inl x4), some (.inl (b2i y0)), some (.inl (b2i x6)), some (.inl x7), some (.inl x8), some (.inl x9), some (.inl (b2i x10)), some (.inl (b2i x11))]) (st' := [.inl x8, .inr 19, .inl x9, .inr 0]) (σ1 := σ) rfl ?_
              obtain ⟨v11, e12, h⟩ := bind_inv h
              refine go_rd (k := 19) dc_X11_add_105 rfl e12 ?_
              obtain ⟨q13, e14, h⟩ := bind_inv h
              refine go_V (M1 := m_X11_suits) (as := [.inl x9, .inl v11]) (st := []) (k := 0) (ci := 11) dc_X11_add_106 ln_11_215 im_X11_suits (by decide) rfl rfl mk_X11_suits rfl (Nat.le_of_ble_eq_true rfl) (Nat.le_refl _) (v := (some (.inl (b2i q13)))) (σ1 := σ) (lk_X11_suits l d (by omega) x9 v11 σ q13 e14) _ rfl ?_
              refine go_ifb_eq dc_X11_add_109 (by rfl) (fun hc => ?_) (fun hc => ?_)
              · replace h := (if_neg hc).symm.trans h
                refine go_wk (L' := [some (.inr 0), some (.inl x1), some (.inl x2), some (.inl x3), some (.inl x4), some (.inl (b2i y0)), none, some (.inl x7), some (.inl x8), some (.inl x9), some (.inl (b2i x10)), some (.inl (b2i x11))]) ⟨rfl, rfl, rfl, rfl, rfl, rfl, rfl, rfl, rfl, rfl, rfl, trivial⟩ ?_
                exact hB_X11_add_138 y0 x7 x8 x9 x10 x11 h
              · replace h := (if_pos hc).symm.trans h
                refine go_ops ok_X11_add_112_3 (L' := [some (.inr 0), some (.inl x1), some (.inl x2), some (.inl x3), some (.inl x4), some (.inl (b2i y0)), some (.inl (b2i x6)), some (.inl x7), some (.inl x8), some (.inl x9), some (.inl (b2i x10)), some (.inl (b2i x11))]) (st' := [.inl x9, .inr 15]) (σ1 := σ) rfl ?_
                obtain ⟨v15, e16, h⟩ := bind_inv h
                refine go_rd (k := 15) dc_X11_add_118 rfl e16 ?_
                refine go_ops ok_X11_add_119_2 (L' := [some (.inr 0), some (.inl x1), some (.inl x2), some (.inl x3), some (.inl x4), some (.inl (b2i y0)), some (.inl (b2i x6)), some (.inl x7), some (.inl x8), some (.inl x9), some (.inl (b2i x10)), some (.inl (b2i x11))]) (st' := [.inl (jand v15 x7)]) (σ1 := σ) rfl ?_
                refine go_if_ne dc_X11_add_122 (by rfl) (fun hc => ?_) (fun hc => ?_)
                · replace h := (if_neg hc).symm.trans h
                  refine go_wk (L' := [some (.inr 0), some (.inl x1), some (.inl x2), some (.inl x3), some (.inl x4), some (.inl (b2i y0)), none, some (.inl x7), some (.inl x8), some (.inl x9), some (.inl (b2i x10)), some (.inl (b2i x11))]) ⟨rfl, rfl, rfl, rfl, rfl, rfl, rfl, rfl, rfl, rfl, rfl, trivial⟩ ?_
                  exact hB_X11_add_138 y0 x7 x8 x9 x10 x11 h
                · replace h := (if_pos hc).symm.trans h
                  refine go_goto dc_X11_add_125 (by rfl) ?_
                  refine go_wk (L' := [some (.inr 0), some (.inl x1), some (.inl x2), some (.inl x3), some (.inl x4), some (.inl (b2i y0)), none, some (.inl x7), some (.inl x8), some (.inl x9), some (.inl (b2i x10)), some (.inl (b2i x11))]) ⟨rfl, rfl, rfl, rfl, rfl, rfl, rfl, rfl, rfl, rfl, rfl, trivial⟩ ?_
                  exact hB_X11_add_134 y0 x7 x8 x9 x10 x11 h
      have hB_X11_add_78 : ∀ (x6 : Bool) (x7 : Int) (x8 : Int) (x9 : Int) (x10 : Bool) (x11 : Bool), B_X11_add_78 x6 x7 x8 x9 x10 x11 σ = some w → Go l m_X11_add (d + 1) LAYM (.inl (some (.inl q.1))) q.2 78 [some (.inr 0), some (.inl x1), some (.inl x2), some (.inl x3), some (.inl x4), none, some (.inl (b2i x6)), some (.inl x7), some (.inl x8), some (.inl x9), some (.inl (b2i x10)), some (.inl (b2i x11))] [] σ := by
        intro x6 x7 x8 x9 x10 x11 h
        unfold B_X11_add_78 at h
        refine go_ops ok_X11_add_78_1 (L' := [some (.inr 0), some (.inl x1), some (.inl x2), some (.inl x3), some (.inl x4), none, some (.inl (b2i x6)), some (.inl x7), some (.inl x8), some (.inl x9), some (.inl (b2i x10)), some (.inl (b2i x11))]) (st' := [.inl 0]) (σ1 := σ) rfl ?_
        exact hB_X11_add_79 x6 x7 x8 x9 x10 x11 false h
      have hB_X11_add_74 : ∀ (x6 : Bool) (x7 : Int) (x8 : Int) (x9 : Int) (x10 : Bool) (x11 : Bool), B_X11_add_74 x6 x7 x8 x9 x10 x11 σ = some w → Go l m_X11_add (d + 1) LAYM (.inl (some (.inl q.1))) q.2 74 [some (.inr 0), some (.inl x1), some (.inl x2), some (.inl x3), some (.inl x4), none, some (.inl (b2i x6)), some (.inl x7), some (.inl x8), some (.inl x9), some (.inl (b2i x10)), some (.inl (b2i x11))] [] σ := by
        intro x6 x7 x8 x9 x10 x11 h
        unfold B_X11_add_74 at h
        refine go_ops ok_X11_add_74_1 (L' := [some (.inr 0), some (.inl x1), some (.inl x2), some (.inl x3), some (.inl x4), none, some (.inl (b2i x6)), some (.inl x7), some (.inl x8), some (.inl x9), some (.inl (b2i x10)), some (.inl (b2i x11))]) (st' := [.inl 1]) (σ1 := σ) rfl ?_
        refine go_goto dc_X11_add_75 (by rfl) ?_
        exact hB_X11_add_79 x6 x7 x8 x9 x10 x11 true h
      have hB_X11_add_49 : ∀ (x5 : Bool) (x6 : Bool) (x7 : Int) (x8 : Int) (x9 : Int) (y0 : Bool), B_X11_add_49 x5 x6 x7 x8 x9 y0 σ = some w → Go l m_X11_add (d + 1) LAYM (.inl (some (.inl q.1))) q.2 49 [some (.inr 0), some (.inl x1), some (.inl x2), some (.inl x3), some (.inl x4), some (.inl (b2i x5)), some (.inl (b2i x6)), some (.inl x7), some (.inl x8), some (.inl x9), none, none] [.inl (b2i y0)] σ := by
        intro x5 x6 x7 x8 x9 y0 h
        unfold B_X11_add_49 at h
        refine go_ops ok_X11_add_49_3 (L' := [some (.inr 0), some (.inl x1), some (.inl x2), some (.inl x3), some (.inl x4), some (.inl (b2i x5)), some (.inl (b2i x6)), some (.inl x7), some (.inl x8), some (.inl x9), some (.inl (b2i y0)), none]) (st' := [.inl x9, .inr 0]) (σ1 := σ) rfl ?_
        refine go_V (M1 := m_X11_isPattern) (as := [.inl x9]) (st := []) (k := 0) (ci := 11) dc_X11_add_54 ln_11_212 im_X11_isPattern (by decide) rfl rfl mk_X11_isPattern rfl (Nat.le_of_ble_eq_true rfl) (Nat.le_refl _) (v := (some (.inl (b2i (F_X11_isPattern x9 σ))))) (σ1 := σ) (lk_X11_isPattern l d (by omega) x9 σ _ rfl) _ rfl ?_
        obtain ⟨v5, e6, h⟩ := bnd_inv h
        refine go_ops ok_X11_add_57_2 (L' := [some (.inr 0), some (.inl x1), some (.inl x2), some (.inl x3), some (.inl x4), some (.inl (b2i x5)), some (.inl (b2i x6)), some (.inl x7), some (.inl x8), some (.inl x9), some (.inl (b2i y0)), some (.inl (b2i v5))]) (st' := [.inl (b2i x5)]) (σ1 := σ) (by subst e6; rfl) ?_
        refine go_ifb_eq dc_X11_add_61 (by rfl) (fun hc => ?_) (fun hc => ?_)
        · replace h := (if_neg hc).symm.trans h
          refine go_wk (L' := [some (.inr 0), some (.inl x1), some (.inl x2), some (.inl x3), some (.inl x4), none, some (.inl (b2i x6)), some (.inl x7), some (.inl x8), some (.inl x9), some (.inl (b2i y0)), some (.inl (b2i v5))]) ⟨rfl, rfl, rfl, rfl, rfl, rfl, rfl, rfl, rfl, rfl, rfl, trivial⟩ ?_
          exact hB_X11_add_78 x6 x7 x8 x9 y0 v5 h
        · replace h := (if_pos hc).symm.trans h
          refine go_ops ok_X11_add_64_1 (L' := [some (.inr 0), some (.inl x1), some (.inl x2), some (.inl x3), some (.inl x4), some (.inl (b2i x5)), some (.inl (b2i x6)), some (.inl x7), some (.inl x8), some (.inl x9), some (.inl (b2i y0)), some (.inl (b2i v5))]) (st' := [.inl (b2i y0)]) (σ1 := σ) rfl ?_
          refine go_ifb_eq dc_X11_add_66 (by rfl) (fun hc => ?_) (fun hc => ?_)
          · replace h := (if_neg hc).symm.trans h
            refine go_wk (L' := [some (.inr 0), some (.inl x1), some (.inl x2), some (.inl x3), some (.inl x4), none, some (.inl (b2i x6)), some (.inl x7), some (.inl x8), some (.inl x9), some (.inl (b2i y0)), some (.inl (b2i v5))]) ⟨rfl, rfl, rfl, rfl, rfl, rfl, rfl, rfl, rfl, rfl, rfl, trivial⟩ ?_
            exact hB_X11_add_74 x6 x7 x8 x9 y0 v5 h
          · replace h := (if_pos hc).symm.trans h
            refine go_ops ok_X11_add_69_1 (L' := [some (.inr 0), some (.inl x1), some (.inl x2), some (.inl x3), some (.inl x4), some (.inl (b2i x5)), some (.inl (b2i x6)), some (.inl x7), some (.inl x8), some (.inl x9), some (.inl (b2i y0)), some (.inl (b2i v5))]) (st' := [.inl (b2i v5)]) (σ1 := σ) rfl ?_
            refine go_ifb_eq dc_X11_add_71 (by rfl) (fun hc => ?_) (fun hc => ?_)
            · replace h := (if_neg hc).symm.trans h
              refine go_wk (L' := [some (.inr 0), some (.inl x1), some (.inl x2), some (.inl x3), some (.inl x4), none, some (.inl (b2i x6)), some (.inl x7), some (.inl x8), some (.inl x9), some (.inl (b2i y0)), some (.inl (b2i v5))]) ⟨rfl, rfl, rfl, rfl, rfl, rfl, rfl, rfl, rfl, rfl, rfl, trivial⟩ ?_
              exact hB_X11_add_78 x6 x7 x8 x9 y0 v5 h
            · replace h := (if_pos hc).symm.trans h
              refine go_wk (L' := [some (.inr 0), some (.inl x1), some (.inl x2), some (.inl x3), some (.inl x4), none, some (.inl (b2i x6)), some (.inl x7), some (.inl x8), some (.inl x9), some (.inl (b2i y0)), some (.inl (b2i v5))]) ⟨rfl, rfl, rfl, rfl, rfl, rfl, rfl, rfl, rfl, rfl, rfl, trivial⟩ ?_
              exact hB_X11_add_74 x6 x7 x8 x9 y0 v5 h
      refine go_ops ok_X11_add_19_2 (L' := [some (.inr 0), some (.inl x1), some (.inl x2), some (.inl x3), some (.inl x4), some (.inl (b2i x5)), some (.inl (b2i x6)), some (.inl x7), some (.inl x8), none, none, none]) (st' := [.inl 3, .inl x8]) (σ1 := σ) rfl ?_
      refine go_icmp_ge dc_X11_add_22 (by rfl) (fun hc => ?_) (fun hc => ?_)
      · replace h := (if_pos hc).symm.trans h
        cases h
        refine go_wk (L' := [some (.inr 0), some (.inl x1), some (.inl x2), some (.inl x3), some (.inl x4), some (.inl (b2i x5)), some (.inl (b2i x6)), none, none, none, none, none]) ⟨rfl, rfl, rfl, rfl, rfl, rfl, rfl, trivial⟩ ?_
        exact hK
      · replace h := (if_neg hc).symm.trans h
        refine go_ops ok_X11_add_25_4 (L' := [some (.inr 0), some (.inl x1), some (.inl x2), some (.inl x3), some (.inl x4), some (.inl (b2i x5)), some (.inl (b2i x6)), some (.inl x7), some (.inl x8), none, none, none]) (st' := [.inl x8, .inl x3, .inl x2, .inl x1]) (σ1 := σ) rfl ?_
        refine go_S (M1 := m_X11_pick) (as := [.inl x1, .inl x2, .inl x3, .inl x8]) (st := []) dc_X11_add_30 ln_11_175 sm_X11_pick mk_X11_pick rfl (Nat.le_of_ble_eq_true rfl) (Nat.le_refl _) (v := (some (.inl (F_X11_pick x1 x2 x3 x8)))) (σ1 := σ) (lk_X11_pick l d (by omega) x1 x2 x3 x8 σ _ rfl) _ rfl ?_
        obtain ⟨v3, e4, h⟩ := bnd_inv h
        refine go_ops ok_X11_add_33_4 (L' := [some (.inr 0), some (.inl x1), some (.inl x2), some (.inl x3), some (.inl x4), some (.inl (b2i x5)), some (.inl (b2i x6)), some (.inl x7), some (.inl x8), some (.inl v3), none, none]) (st' := [.inl (σ 0 21), .inl x8]) (σ1 := σ) (by subst e4; rfl) ?_
        refine go_icmp_ge dc_X11_add_41 (by rfl) (fun hc => ?_) (fun hc => ?_)
        · replace h := (if_pos hc).symm.trans h
          refine go_ops ok_X11_add_48_1 (L' := [some (.inr 0), some (.inl x1), some (.inl x2), some (.inl x3), some (.inl x4), some (.inl (b2i x5)), some (.inl (b2i x6)), some (.inl x7), some (.inl x8), some (.inl v3), none, none]) (st' := [.inl 0]) (σ1 := σ) rfl ?_
          exact hB_X11_add_49 x5 x6 x7 x8 v3 false h
        · replace h := (if_neg hc).symm.trans h
          refine go_ops ok_X11_add_44_1 (L' := [some (.inr 0), some (.inl x1), some (.inl x2), some (.inl x3), some (.inl x4), some (.inl (b2i x5)), some (.inl (b2i x6)), some (.inl x7), some (.inl x8), some (.inl v3), none, none]) (st' := [.inl 1]) (σ1 := σ) rfl ?_
          refine go_goto dc_X11_add_45 (by rfl) ?_
          exact hB_X11_add_49 x5 x6 x7 x8 v3 true h
    have hL_X11_add_236 : ∀ (x1 : Int) (x2 : Int) (x3 : Int) (x4 : Int) (x8 : Int) (n : Nat) (a : (Int × Sg)) (y : Sg), iter (fun a : (Int × Sg) => L_X11_add_236 x1 x2 x3 x8 a.1 a.2) n a = some y → (fun y : Sg => Go l m_X11_add (d + 1) LAYM (.inl (some (.inl q.1))) q.2 268 [some (.inr 0), none, none, none, some (.inl x4), none, none, none, some (.inl x8), none, none, none] [] y) y → (fun a : (Int × Sg) => Go l m_X11_add (d + 1) LAYM (.inl (some (.inl q.1))) q.2 236 [some (.inr 0), some (.inl x1), some (.inl x2), some (.inl x3), some (.inl x4), none, none, none, some (.inl x8), some (.inl a.1), none, none] [] a.2) a := by
      intro x1 x2 x3 x4 x8
      refine go_iter (G := fun a : (Int × Sg) => Go l m_X11_add (d + 1) LAYM (.inl (some (.inl q.1))) q.2 236 [some (.inr 0), some (.inl x1), some (.inl x2), some (.inl x3), some (.inl x4), none, none, none, some (.inl x8), some (.inl a.1), none, none] [] a.2) (K := fun y : Sg => Go l m_X11_add (d + 1) LAYM (.inl (some (.inl q.1))) q.2 268 [some (.inr 0), none, none, none, some (.inl x4), none, none, none, some (.inl x8), none, none, none] [] y) ?_
      rintro ⟨x9, σ⟩ w h hK
      replace h : L_X11_add_236 x1 x2 x3 x8 x9 σ = some w := h
      show Go l m_X11_add (d + 1) LAYM (.inl (some (.inl q.1))) q.2 236 [some (.inr 0), some (.inl x1), some (.inl x2), some (.inl x3), some (.inl x4), none, none, none, some (.inl x8), some (.inl x9), none, none] [] σ
      unfold L_X11_add_236 at h
      refine go_ops ok_X11_add_236_2 (L' := [some (.inr 0), some (.inl x1), some (.inl x2), some (.inl x3), some (.inl x4), none, none, none, some (.inl x8), some (.inl x9), none, none]) (st' := [.inl 3, .inl x9]) (σ1 := σ) rfl ?_
      refine go_icmp_ge dc_X11_add_239 (by rfl) (fun hc => ?_) (fun hc => ?_)
      · replace h := (if_pos hc).symm.trans h
        cases h
        refine go_wk (L' := [some (.inr 0), none, none, none, some (.inl x4), none, none, none, some (.inl x8), none, none, none]) ⟨rfl, rfl, rfl, trivial⟩ ?_
        exact hK
      · replace h := (if_neg hc).symm.trans h
        refine go_ops ok_X11_add_242_11 (L' := [some (.inr 0), some (.inl x1), some (.inl x2), some (.inl x3), some (.inl x4), none, none, none, some (.inl x8), some (.inl x9), none, none]) (st' := [.inl x9, .inl x3, .inl x2, .inl x1, .inl (wrap ((wrap (3 * x8)) + x9)), .inr 20]) (σ1 := σ) rfl ?_
        refine go_S (M1 := m_X11_pick) (as := [.inl x1, .inl x2, .inl x3, .inl x9]) (st := [.inl (wrap ((wrap (3 * x8)) + x9)), .inr 20]) dc_X11_add_258 ln_11_175 sm_X11_pick mk_X11_pick rfl (Nat.le_of_ble_eq_true rfl) (Nat.le_refl _) (v := (some (.inl (F_X11_pick x1 x2 x3 x9)))) (σ1 := σ) (lk_X11_pick l d (by omega) x1 x2 x3 x9 σ _ rfl) _ rfl ?_
        obtain ⟨s25, e26, h⟩ := bind_inv h
        refine go_wr (k := 20) dc_X11_add_261 rfl e26 ?_
        refine go_ops ok_X11_add_262_1 (L' := [some (.inr 0), some (.inl x1), some (.inl x2), some (.inl x3), some (.inl x4), none, none, none, some (.inl x8), some (.inl (wrap (x9 + 1))), none, none]) (st' := []) (σ1 := s25) rfl ?_
        refine go_goto dc_X11_add_265 (by rfl) ?_
        cases h
        exact hK
    have hB_X11_add_213 : ∀ (x1 : Int) (x2 : Int) (x3 : Int) (x4 : Int) (y0 : Int) (σ : Sg), B_X11_add_213 x1 x2 x3 x4 y0 σ = some q → Go l m_X11_add (d + 1) LAYM (.inl (some (.inl q.1))) q.2 213 [some (.inr 0), some (.inl x1), some (.inl x2), some (.inl x3), some (.inl x4), none, none, none, none, none, none, none] [.inl y0, .inr 0] σ := by
      intro x1 x2 x3 x4 y0 σ h
      unfold B_X11_add_213 at h
      obtain ⟨q19, e20, h⟩ := bnd_inv h
      refine go_V (M1 := m_X11_refused) (as := [.inl y0]) (st := []) (k := 0) (ci := 11) dc_X11_add_213 ln_11_183 im_X11_refused (by decide) rfl rfl mk_X11_refused rfl (Nat.le_of_ble_eq_true rfl) (Nat.le_refl _) (v := (some (.inl (b2i q19.1)))) (σ1 := q19.2) (lk_X11_refused l d (by omega) y0 σ q19 e20.symm) _ rfl ?_
      refine go_ifb_eq dc_X11_add_216 (by rfl) (fun hc => ?_) (fun hc => ?_)
      · replace h := (if_neg hc).symm.trans h
        obtain ⟨v21, e22, h⟩ := bnd_inv h
        refine go_ops ok_X11_add_221_5 (L' := [some (.inr 0), some (.inl x1), some (.inl x2), some (.inl x3), some (.inl x4), none, none, none, some (.inl v21), none, none, none]) (st' := [.inl v21, .inr 0]) (σ1 := q19.2) (by subst e22; rfl) ?_
        obtain ⟨q23, e24, h⟩ := bind_inv h
        refine go_V (M1 := m_X11_open) (as := [.inl v21]) (st := []) (k := 0) (ci := 11) dc_X11_add_230 ln_11_244 im_X11_open (by decide) rfl rfl mk_X11_open rfl (Nat.le_of_ble_eq_true rfl) (Nat.le_refl _) (v := none) (σ1 := q23) (lk_X11_open l d (by omega) v21 q19.2 q23 e24) _ rfl ?_
        refine go_ops ok_X11_add_233_2 (L' := [some (.inr 0), some (.inl x1), some (.inl x2), some (.inl x3), some (.inl x4), none, none, none, some (.inl v21), some (.inl 0), none, none]) (st' := []) (σ1 := q23) rfl ?_
        obtain ⟨y27, e28, h⟩ := bind_inv h
        refine hL_X11_add_236 x1 x2 x3 x4 v21 4 (0, q23) y27 e28 ?_
        show Go l m_X11_add (d + 1) LAYM (.inl (some (.inl q.1))) q.2 268 [some (.inr 0), none, none, none, some (.inl x4), none, none, none, some (.inl v21), none, none, none] [] y27
        refine go_ops ok_X11_add_268_4 (L' := [some (.inr 0), none, none, none, some (.inl x4), none, none, none, some (.inl v21), none, none, none]) (st' := [.inl x4, .inl v21, .inr 21]) (σ1 := y27) rfl ?_
        obtain ⟨s29, e30, h⟩ := bind_inv h
        refine go_wr (k := 21) dc_X11_add_276 rfl e30 ?_
        refine go_ops ok_X11_add_277_1 (L' := [some (.inr 0), none, none, none, some (.inl x4), none, none, none, some (.inl v21), none, none, none]) (st' := [.inl v21]) (σ1 := s29) rfl ?_
        have h9 := Option.some.inj h
        subst h9
        exact go_iret dc_X11_add_279 rfl
      · replace h := (if_pos hc).symm.trans h
        refine go_ops ok_X11_add_219_1 (L' := [some (.inr 0), some (.inl x1), some (.inl x2), some (.inl x3), some (.inl x4), none, none, none, none, none, none, none]) (st' := [.inl 0]) (σ1 := q19.2) rfl ?_
        have h9 := Option.some.inj h
        subst h9
        exact go_iret dc_X11_add_220 rfl
    have hB_X11_add_208 : ∀ (x1 : Int) (x2 : Int) (x3 : Int) (x4 : Int) (σ : Sg), B_X11_add_208 x1 x2 x3 x4 σ = some q → Go l m_X11_add (d + 1) LAYM (.inl (some (.inl q.1))) q.2 208 [some (.inr 0), some (.inl x1), some (.inl x2), some (.inl x3), some (.inl x4), none, none, none, none, none, none, none] [.inr 0] σ := by
      intro x1 x2 x3 x4 σ h
      unfold B_X11_add_208 at h
      refine go_ops ok_X11_add_208_1 (L' := [some (.inr 0), some (.inl x1), some (.inl x2), some (.inl x3), some (.inl x4), none, none, none, none, none, none, none]) (st' := [.inl 3, .inr 0]) (σ1 := σ) rfl ?_
      refine go_goto dc_X11_add_209 (by rfl) ?_
      exact hB_X11_add_213 x1 x2 x3 x4 3 σ h
    refine go_ops ok_X11_add_0_5 (L' := [some (.inr 0), some (.inl a1), some (.inl a2), some (.inl a3), some (.inl a4), some (.inl 1), none, none, none, none, none, none]) (st' := [.inl 99, .inl 0, .inl a4]) (σ1 := σ) rfl ?_
    refine go_S (M1 := m_X11_in) (as := [.inl a4, .inl 0, .inl 99]) (st := []) dc_X11_add_8 ln_11_171 sm_X11_in mk_X11_in rfl (Nat.le_of_ble_eq_true rfl) (Nat.le_refl _) (v := (some (.inl (b2i (F_X11_in a4 0 99))))) (σ1 := σ) (lk_X11_in l d (by omega) a4 0 99 σ _ rfl) _ rfl ?_
    obtain ⟨v1, e2, h⟩ := bnd_inv h
    refine go_ops ok_X11_add_11_5 (L' := [some (.inr 0), some (.inl a1), some (.inl a2), some (.inl a3), some (.inl a4), some (.inl 1), some (.inl (b2i v1)), some (.inl 0), some (.inl 0), none, none, none]) (st' := []) (σ1 := σ) (by subst e2; rfl) ?_
    obtain ⟨y17, e18, h⟩ := bind_inv h
    refine hL_X11_add_19 a1 a2 a3 a4 σ 4 (true, v1, 0, 0) y17 e18 ?_
    show Go l m_X11_add (d + 1) LAYM (.inl (some (.inl q.1))) q.2 173 [some (.inr 0), some (.inl a1), some (.inl a2), some (.inl a3), some (.inl a4), some (.inl (b2i y17.1)), some (.inl (b2i y17.2)), none, none, none, none, none] [] σ
    refine go_ops ok_X11_add_173_2 (L' := [some (.inr 0), some (.inl a1), some (.inl a2), some (.inl a3), some (.inl a4), some (.inl (b2i y17.1)), some (.inl (b2i y17.2)), none, none, none, none, none]) (st' := [.inl (b2i y17.1), .inr 0]) (σ1 := σ) rfl ?_
    refine go_ifb_ne dc_X11_add_176 (by rfl) (fun hc => ?_) (fun hc => ?_)
    · replace h := (if_pos hc).symm.trans h
      refine go_ops ok_X11_add_183_1 (L' := [some (.inr 0), some (.inl a1), some (.inl a2), some (.inl a3), some (.inl a4), some (.inl (b2i y17.1)), some (.inl (b2i y17.2)), none, none, none, none, none]) (st' := [.inl (b2i y17.2), .inr 0]) (σ1 := σ) rfl ?_
      refine go_ifb_ne dc_X11_add_185 (by rfl) (fun hc => ?_) (fun hc => ?_)
      · replace h := (if_pos hc).symm.trans h
        refine go_ops ok_X11_add_192_2 (L' := [some (.inr 0), some (.inl a1), some (.inl a2), some (.inl a3), some (.inl a4), some (.inl (b2i y17.1)), some (.inl (b2i y17.2)), none, none, none, none, none]) (st' := [.inl (σ 0 21), .inr 0]) (σ1 := σ) rfl ?_
        refine go_if_eq dc_X11_add_196 (by rfl) (fun hc => ?_) (fun hc => ?_)
        · replace h := (if_pos hc).symm.trans h
          refine go_wk (L' := [some (.inr 0), some (.inl a1), some (.inl a2), some (.inl a3), some (.inl a4), none, none, none, none, none, none, none]) ⟨rfl, rfl, rfl, rfl, rfl, trivial⟩ ?_
          exact hB_X11_add_208 a1 a2 a3 a4 σ h
        · replace h := (if_neg hc).symm.trans h
          refine go_ops ok_X11_add_199_3 (L' := [some (.inr 0), some (.inl a1), some (.inl a2), some (.inl a3), some (.inl a4), some (.inl (b2i y17.1)), some (.inl (b2i y17.2)), none, none, none, none, none]) (st' := [.inl 8, .inl (σ 0 23), .inr 0]) (σ1 := σ) rfl ?_
          refine go_icmp_ne dc_X11_add_205 (by rfl) (fun hc => ?_) (fun hc => ?_)
          · replace h := (if_neg hc).symm.trans h
            refine go_ops ok_X11_add_212_1 (L' := [some (.inr 0), some (.inl a1), some (.inl a2), some (.inl a3), some (.inl a4), some (.inl (b2i y17.1)), some (.inl (b2i y17.2)), none, none, none, none, none]) (st' := [.inl 0, .inr 0]) (σ1 := σ) rfl ?_
            refine go_wk (L' := [some (.inr 0), some (.inl a1), some (.inl a2), some (.inl a3), some (.inl a4), none, none, none, none, none, none, none]) ⟨rfl, rfl, rfl, rfl, rfl, trivial⟩ ?_
            exact hB_X11_add_213 a1 a2 a3 a4 0 σ h
          · replace h := (if_pos hc).symm.trans h
            refine go_wk (L' := [some (.inr 0), some (.inl a1), some (.inl a2), some (.inl a3), some (.inl a4), none, none, none, none, none, none, none]) ⟨rfl, rfl, rfl, rfl, rfl, trivial⟩ ?_
            exact hB_X11_add_208 a1 a2 a3 a4 σ h
      · replace h := (if_neg hc).symm.trans h
        refine go_ops ok_X11_add_188_1 (L' := [some (.inr 0), some (.inl a1), some (.inl a2), some (.inl a3), some (.inl a4), some (.inl (b2i y17.1)), some (.inl (b2i y17.2)), none, none, none, none, none]) (st' := [.inl 2, .inr 0]) (σ1 := σ) rfl ?_
        refine go_goto dc_X11_add_189 (by rfl) ?_
        refine go_wk (L' := [some (.inr 0), some (.inl a1), some (.inl a2), some (.inl a3), some (.inl a4), none, none, none, none, none, none, none]) ⟨rfl, rfl, rfl, rfl, rfl, trivial⟩ ?_
        exact hB_X11_add_213 a1 a2 a3 a4 2 σ h
    · replace h := (if_neg hc).symm.trans h
      refine go_ops ok_X11_add_179_1 (L' := [some (.inr 0), some (.inl a1), some (.inl a2), some (.inl a3), some (.inl a4), some (.inl (b2i y17.1)), some (.inl (b2i y17.2)), none, none, none, none, none]) (st' := [.inl 1, .inr 0]) (σ1 := σ) rfl ?_
      refine go_goto dc_X11_add_180 (by rfl) ?_
      refine go_wk (L' := [some (.inr 0), some (.inl a1), some (.inl a2), some (.inl a3), some (.inl a4), none, none, none, none, none, none, none]) ⟨rfl, rfl, rfl, rfl, rfl, trivial⟩ ?_
      exact hB_X11_add_213 a1 a2 a3 a4 1 σ h
  have hf := go_ct (as := [.inr 0, .inl a1, .inl a2, .inl a3, .inl a4]) mk_X11_add (by rfl) (Nat.le_of_ble_eq_true rfl) key
  exact hf
theorem dc_X11_isCase_8 : decode m_X11_isCase.2.2.1 8 = .ok (.invokestatic 171, 3) := by decide +kernel
theorem dc_X11_isCase_11 : decode m_X11_isCase.2.2.1 11 = .ok (.ireturn, 1) := by decide +kernel
theorem ok_X11_isCase_0_6 : oks m_X11_isCase.1 m_X11_isCase.2.2.1 0 [(.iload_n 1, 1, (0, 0, 0)), (.iconst 0, 1, (0, 0, 0)), (.aload_n 0, 1, (0, 0, 0)), (.getfield 228, 3, (11, 23, 0)), (.iconst 1, 1, (0, 0, 0)), (.isub, 1, (0, 0, 0))] = true ∧ plen 0 [(.iload_n 1, 1, (0, 0, 0)), (.iconst 0, 1, (0, 0, 0)), (.aload_n 0, 1, (0, 0, 0)), (.getfield 228, 3, (11, 23, 0)), (.iconst 1, 1, (0, 0, 0)), (.isub, 1, (0, 0, 0))] = 8 := by decide +kernel
def F_X11_isCase (a1 : Int) (σ : Sg) : Bool :=
F_X11_in a1 0 (wrap ((σ 0 23) - 1))
theorem lk_X11_isCase (l : Launch) (d : Nat) (hd : 1 ≤ d) (a1 : Int) (σ : Sg) (q : Bool) (h : F_X11_isCase a1 σ = q) : CT l d m_X11_isCase.2.1 m_X11_isCase.2.2.1 m_X11_isCase.2.2.2.1 m_X11_isCase.2.2.2.2 [.inr 0, .inl a1] (LAYM, σ) (some (.inl (b2i q))) (LAYM, σ) := by
  obtain ⟨d, rfl⟩ : ∃ e, d = e + 1 := ⟨d - 1, by omega⟩
  have key : Go l m_X11_isCase (d + 1) LAYM (.inl (some (.inl (b2i q)))) σ 0 [some (.inr 0), some (.inl a1)] [] σ := by
    unfold F_X11_isCase at h
    refine go_ops ok_X11_isCase_0_6 (L' := [some (.inr 0), some (.inl a1)]) (st' := [.inl (wrap ((σ 0 23) - 1)), .inl 0, .inl a1]) (σ1 := σ) rfl ?_
    refine go_S (M1 := m_X11_in) (as := [.inl a1, .inl 0, .inl (wrap ((σ 0 23) - 1))]) (st := []) dc_X11_isCase_8 ln_11_171 sm_X11_in mk_X11_in rfl (Nat.le_of_ble_eq_true rfl) (Nat.le_refl _) (v := (some (.inl (b2i (F_X11_in a1 0 (wrap ((σ 0 23) - 1))))))) (σ1 := σ) (lk_X11_in l d (by omega) a1 0 (wrap ((σ 0 23) - 1)) σ _ rfl) _ rfl ?_
    subst h
    exact go_zret (x := (F_X11_in a1 0 (wrap ((σ 0 23) - 1)))) dc_X11_isCase_11 rfl
  have hf := go_ct (as := [.inr 0, .inl a1]) mk_X11_isCase (by rfl) (Nat.le_of_ble_eq_true rfl) key
  exact hf
theorem dc_X11_bindsNumber_17 : decode m_X11_bindsNumber.2.2.1 17 = .ok (.if_icmp .ge 42, 3) := by decide +kernel
theorem dc_X11_bindsNumber_35 : decode m_X11_bindsNumber.2.2.1 35 = .ok (.iaload, 1) := by decide +kernel
theorem dc_X11_bindsNumber_36 : decode m_X11_bindsNumber.2.2.1 36 = .ok (.iastore, 1) := by decide +kernel
theorem dc_X11_bindsNumber_48 : decode m_X11_bindsNumber.2.2.1 48 = .ok (.iaload, 1) := by decide +kernel
theorem dc_X11_bindsNumber_49 : decode m_X11_bindsNumber.2.2.1 49 = .ok (.iastore, 1) := by decide +kernel
theorem dc_X11_bindsNumber_56 : decode m_X11_bindsNumber.2.2.1 56 = .ok (.goto (-45), 3) := by decide +kernel
theorem dc_X11_bindsNumber_60 : decode m_X11_bindsNumber.2.2.1 60 = .ok (.ifCond .le 195, 3) := by decide +kernel
theorem dc_X11_bindsNumber_71 : decode m_X11_bindsNumber.2.2.1 71 = .ok (.iaload, 1) := by decide +kernel
theorem dc_X11_bindsNumber_79 : decode m_X11_bindsNumber.2.2.1 79 = .ok (.iaload, 1) := by decide +kernel
theorem dc_X11_bindsNumber_88 : decode m_X11_bindsNumber.2.2.1 88 = .ok (.iaload, 1) := by decide +kernel
theorem dc_X11_bindsNumber_90 : decode m_X11_bindsNumber.2.2.1 90 = .ok (.if_icmp .ne 18, 3) := by decide +kernel
theorem dc_X11_bindsNumber_99 : decode m_X11_bindsNumber.2.2.1 99 = .ok (.iaload, 1) := by decide +kernel
theorem dc_X11_bindsNumber_101 : decode m_X11_bindsNumber.2.2.1 101 = .ok (.if_icmp .ne 7, 3) := by decide +kernel
theorem dc_X11_bindsNumber_105 : decode m_X11_bindsNumber.2.2.1 105 = .ok (.goto 4, 3) := by decide +kernel
theorem dc_X11_bindsNumber_113 : decode m_X11_bindsNumber.2.2.1 113 = .ok (.ifCond .ne 8, 3) := by decide +kernel
theorem dc_X11_bindsNumber_118 : decode m_X11_bindsNumber.2.2.1 118 = .ok (.ifCond .eq 7, 3) := by decide +kernel
theorem dc_X11_bindsNumber_122 : decode m_X11_bindsNumber.2.2.1 122 = .ok (.goto 4, 3) := by decide +kernel
theorem dc_X11_bindsNumber_130 : decode m_X11_bindsNumber.2.2.1 130 = .ok (.ifCond .eq 18, 3) := by decide +kernel
theorem dc_X11_bindsNumber_135 : decode m_X11_bindsNumber.2.2.1 135 = .ok (.ifCond .eq 9, 3) := by decide +kernel
theorem dc_X11_bindsNumber_141 : decode m_X11_bindsNumber.2.2.1 141 = .ok (.if_icmp .ne 7, 3) := by decide +kernel
theorem dc_X11_bindsNumber_145 : decode m_X11_bindsNumber.2.2.1 145 = .ok (.goto 4, 3) := by decide +kernel
theorem dc_X11_bindsNumber_157 : decode m_X11_bindsNumber.2.2.1 157 = .ok (.if_icmp .ge 95, 3) := by decide +kernel
theorem dc_X11_bindsNumber_171 : decode m_X11_bindsNumber.2.2.1 171 = .ok (.iaload, 1) := by decide +kernel
theorem dc_X11_bindsNumber_177 : decode m_X11_bindsNumber.2.2.1 177 = .ok (.if_icmp .eq 69, 3) := by decide +kernel
theorem dc_X11_bindsNumber_187 : decode m_X11_bindsNumber.2.2.1 187 = .ok (.iastore, 1) := by decide +kernel
theorem dc_X11_bindsNumber_199 : decode m_X11_bindsNumber.2.2.1 199 = .ok (.iaload, 1) := by decide +kernel
theorem dc_X11_bindsNumber_201 : decode m_X11_bindsNumber.2.2.1 201 = .ok (.if_icmp .ne 23, 3) := by decide +kernel
theorem dc_X11_bindsNumber_215 : decode m_X11_bindsNumber.2.2.1 215 = .ok (.iaload, 1) := by decide +kernel
theorem dc_X11_bindsNumber_220 : decode m_X11_bindsNumber.2.2.1 220 = .ok (.iaload, 1) := by decide +kernel
theorem dc_X11_bindsNumber_221 : decode m_X11_bindsNumber.2.2.1 221 = .ok (.goto 21, 3) := by decide +kernel
theorem dc_X11_bindsNumber_230 : decode m_X11_bindsNumber.2.2.1 230 = .ok (.iaload, 1) := by decide +kernel
theorem dc_X11_bindsNumber_233 : decode m_X11_bindsNumber.2.2.1 233 = .ok (.if_icmp .ne 7, 3) := by decide +kernel
theorem dc_X11_bindsNumber_237 : decode m_X11_bindsNumber.2.2.1 237 = .ok (.goto 5, 3) := by decide +kernel
theorem dc_X11_bindsNumber_242 : decode m_X11_bindsNumber.2.2.1 242 = .ok (.iastore, 1) := by decide +kernel
theorem dc_X11_bindsNumber_249 : decode m_X11_bindsNumber.2.2.1 249 = .ok (.goto (-95), 3) := by decide +kernel
theorem dc_X11_bindsNumber_252 : decode m_X11_bindsNumber.2.2.1 252 = .ok (.goto (-193), 3) := by decide +kernel
theorem dc_X11_bindsNumber_257 : decode m_X11_bindsNumber.2.2.1 257 = .ok (.ifCond .eq 12, 3) := by decide +kernel
theorem dc_X11_bindsNumber_262 : decode m_X11_bindsNumber.2.2.1 262 = .ok (.ifCond .eq 7, 3) := by decide +kernel
theorem dc_X11_bindsNumber_266 : decode m_X11_bindsNumber.2.2.1 266 = .ok (.goto 4, 3) := by decide +kernel
theorem dc_X11_bindsNumber_270 : decode m_X11_bindsNumber.2.2.1 270 = .ok (.ireturn, 1) := by decide +kernel
theorem ok_X11_bindsNumber_0_8 : oks m_X11_bindsNumber.1 m_X11_bindsNumber.2.2.1 0 [(.iconst 0, 1, (0, 0, 0)), (.istore_n 3, 1, (0, 0, 0)), (.iconst 0, 1, (0, 0, 0)), (.istore 4, 2, (0, 0, 0)), (.iconst 1, 1, (0, 0, 0)), (.istore 5, 2, (0, 0, 0)), (.iconst 0, 1, (0, 0, 0)), (.istore 6, 2, (0, 0, 0))] = true ∧ plen 0 [(.iconst 0, 1, (0, 0, 0)), (.istore_n 3, 1, (0, 0, 0)), (.iconst 0, 1, (0, 0, 0)), (.istore 4, 2, (0, 0, 0)), (.iconst 1, 1, (0, 0, 0)), (.istore 5, 2, (0, 0, 0)), (.iconst 0, 1, (0, 0, 0)), (.istore 6, 2, (0, 0, 0))] = 11 := by decide +kernel
theorem ok_X11_bindsNumber_11_3 : oks m_X11_bindsNumber.1 m_X11_bindsNumber.2.2.1 11 [(.iload 6, 2, (0, 0, 0)), (.aload_n 0, 1, (0, 0, 0)), (.getfield 231, 3, (11, 21, 0))] = true ∧ plen 11 [(.iload 6, 2, (0, 0, 0)), (.aload_n 0, 1, (0, 0, 0)), (.getfield 231, 3, (11, 21, 0))] = 17 := by decide +kernel
theorem ok_X11_bindsNumber_20_10 : oks m_X11_bindsNumber.1 m_X11_bindsNumber.2.2.1 20 [(.aload_n 0, 1, (0, 0, 0)), (.getfield 86, 3, (11, 30, 0)), (.iload_n 3, 1, (0, 0, 0)), (.aload_n 0, 1, (0, 0, 0)), (.getfield 68, 3, (11, 24, 0)), (.iconst 3, 1, (0, 0, 0)), (.iload_n 1, 1, (0, 0, 0)), (.imul, 1, (0, 0, 0)), (.iload 6, 2, (0, 0, 0)), (.iadd, 1, (0, 0, 0))] = true ∧ plen 20 [(.aload_n 0, 1, (0, 0, 0)), (.getfield 86, 3, (11, 30, 0)), (.iload_n 3, 1, (0, 0, 0)), (.aload_n 0, 1, (0, 0, 0)), (.getfield 68, 3, (11, 24, 0)), (.iconst 3, 1, (0, 0, 0)), (.iload_n 1, 1, (0, 0, 0)), (.imul, 1, (0, 0, 0)), (.iload 6, 2, (0, 0, 0)), (.iadd, 1, (0, 0, 0))] = 35 := by decide +kernel
theorem ok_X11_bindsNumber_37_6 : oks m_X11_bindsNumber.1 m_X11_bindsNumber.2.2.1 37 [(.aload_n 0, 1, (0, 0, 0)), (.getfield 89, 3, (11, 31, 0)), (.iload_n 3, 1, (0, 0, 0)), (.aload_n 0, 1, (0, 0, 0)), (.getfield 65, 3, (11, 22, 0)), (.iload 6, 2, (0, 0, 0))] = true ∧ plen 37 [(.aload_n 0, 1, (0, 0, 0)), (.getfield 89, 3, (11, 31, 0)), (.iload_n 3, 1, (0, 0, 0)), (.aload_n 0, 1, (0, 0, 0)), (.getfield 65, 3, (11, 22, 0)), (.iload 6, 2, (0, 0, 0))] = 48 := by decide +kernel
theorem ok_X11_bindsNumber_50_2 : oks m_X11_bindsNumber.1 m_X11_bindsNumber.2.2.1 50 [(.iinc 3 1, 3, (0, 0, 0)), (.iinc 6 1, 3, (0, 0, 0))] = true ∧ plen 50 [(.iinc 3 1, 3, (0, 0, 0)), (.iinc 6 1, 3, (0, 0, 0))] = 56 := by decide +kernel
theorem ok_X11_bindsNumber_59_1 : oks m_X11_bindsNumber.1 m_X11_bindsNumber.2.2.1 59 [(.iload_n 3, 1, (0, 0, 0))] = true ∧ plen 59 [(.iload_n 3, 1, (0, 0, 0))] = 60 := by decide +kernel
theorem ok_X11_bindsNumber_63_4 : oks m_X11_bindsNumber.1 m_X11_bindsNumber.2.2.1 63 [(.iinc 3 (-1), 3, (0, 0, 0)), (.aload_n 0, 1, (0, 0, 0)), (.getfield 86, 3, (11, 30, 0)), (.iload_n 3, 1, (0, 0, 0))] = true ∧ plen 63 [(.iinc 3 (-1), 3, (0, 0, 0)), (.aload_n 0, 1, (0, 0, 0)), (.getfield 86, 3, (11, 30, 0)), (.iload_n 3, 1, (0, 0, 0))] = 71 := by decide +kernel
theorem ok_X11_bindsNumber_72_4 : oks m_X11_bindsNumber.1 m_X11_bindsNumber.2.2.1 72 [(.istore 6, 2, (0, 0, 0)), (.aload_n 0, 1, (0, 0, 0)), (.getfield 89, 3, (11, 31, 0)), (.iload_n 3, 1, (0, 0, 0))] = true ∧ plen 72 [(.istore 6, 2, (0, 0, 0)), (.aload_n 0, 1, (0, 0, 0)), (.getfield 89, 3, (11, 31, 0)), (.iload_n 3, 1, (0, 0, 0))] = 79 := by decide +kernel
theorem ok_X11_bindsNumber_80_4 : oks m_X11_bindsNumber.1 m_X11_bindsNumber.2.2.1 80 [(.istore 7, 2, (0, 0, 0)), (.aload_n 0, 1, (0, 0, 0)), (.getfield 31, 3, (11, 10, 0)), (.iload 6, 2, (0, 0, 0))] = true ∧ plen 80 [(.istore 7, 2, (0, 0, 0)), (.aload_n 0, 1, (0, 0, 0)), (.getfield 31, 3, (11, 10, 0)), (.iload 6, 2, (0, 0, 0))] = 88 := by decide +kernel
theorem ok_X11_bindsNumber_89_1 : oks m_X11_bindsNumber.1 m_X11_bindsNumber.2.2.1 89 [(.iconst 1, 1, (0, 0, 0))] = true ∧ plen 89 [(.iconst 1, 1, (0, 0, 0))] = 90 := by decide +kernel
theorem ok_X11_bindsNumber_93_3 : oks m_X11_bindsNumber.1 m_X11_bindsNumber.2.2.1 93 [(.aload_n 0, 1, (0, 0, 0)), (.getfield 34, 3, (11, 11, 0)), (.iload 6, 2, (0, 0, 0))] = true ∧ plen 93 [(.aload_n 0, 1, (0, 0, 0)), (.getfield 34, 3, (11, 11, 0)), (.iload 6, 2, (0, 0, 0))] = 99 := by decide +kernel
theorem ok_X11_bindsNumber_100_1 : oks m_X11_bindsNumber.1 m_X11_bindsNumber.2.2.1 100 [(.iload_n 2, 1, (0, 0, 0))] = true ∧ plen 100 [(.iload_n 2, 1, (0, 0, 0))] = 101 := by decide +kernel
theorem ok_X11_bindsNumber_104_1 : oks m_X11_bindsNumber.1 m_X11_bindsNumber.2.2.1 104 [(.iconst 1, 1, (0, 0, 0))] = true ∧ plen 104 [(.iconst 1, 1, (0, 0, 0))] = 105 := by decide +kernel
theorem ok_X11_bindsNumber_108_1 : oks m_X11_bindsNumber.1 m_X11_bindsNumber.2.2.1 108 [(.iconst 0, 1, (0, 0, 0))] = true ∧ plen 108 [(.iconst 0, 1, (0, 0, 0))] = 109 := by decide +kernel
theorem ok_X11_bindsNumber_109_2 : oks m_X11_bindsNumber.1 m_X11_bindsNumber.2.2.1 109 [(.istore 8, 2, (0, 0, 0)), (.iload 4, 2, (0, 0, 0))] = true ∧ plen 109 [(.istore 8, 2, (0, 0, 0)), (.iload 4, 2, (0, 0, 0))] = 113 := by decide +kernel
theorem ok_X11_bindsNumber_116_1 : oks m_X11_bindsNumber.1 m_X11_bindsNumber.2.2.1 116 [(.iload 8, 2, (0, 0, 0))] = true ∧ plen 116 [(.iload 8, 2, (0, 0, 0))] = 118 := by decide +kernel
theorem ok_X11_bindsNumber_121_1 : oks m_X11_bindsNumber.1 m_X11_bindsNumber.2.2.1 121 [(.iconst 1, 1, (0, 0, 0))] = true ∧ plen 121 [(.iconst 1, 1, (0, 0, 0))] = 122 := by decide +kernel
theorem ok_X11_bindsNumber_125_1 : oks m_X11_bindsNumber.1 m_X11_bindsNumber.2.2.1 125 [(.iconst 0, 1, (0, 0, 0))] = true ∧ plen 125 [(.iconst 0, 1, (0, 0, 0))] = 126 := by decide +kernel
theorem ok_X11_bindsNumber_126_2 : oks m_X11_bindsNumber.1 m_X11_bindsNumber.2.2.1 126 [(.istore 4, 2, (0, 0, 0)), (.iload 5, 2, (0, 0, 0))] = true ∧ plen 126 [(.istore 4, 2, (0, 0, 0)), (.iload 5, 2, (0, 0, 0))] = 130 := by decide +kernel
theorem ok_X11_bindsNumber_133_1 : oks m_X11_bindsNumber.1 m_X11_bindsNumber.2.2.1 133 [(.iload 8, 2, (0, 0, 0))] = true ∧ plen 133 [(.iload 8, 2, (0, 0, 0))] = 135 := by decide +kernel
theorem ok_X11_bindsNumber_138_2 : oks m_X11_bindsNumber.1 m_X11_bindsNumber.2.2.1 138 [(.iload 7, 2, (0, 0, 0)), (.iconst 4, 1, (0, 0, 0))] = true ∧ plen 138 [(.iload 7, 2, (0, 0, 0)), (.iconst 4, 1, (0, 0, 0))] = 141 := by decide +kernel
theorem ok_X11_bindsNumber_144_1 : oks m_X11_bindsNumber.1 m_X11_bindsNumber.2.2.1 144 [(.iconst 1, 1, (0, 0, 0))] = true ∧ plen 144 [(.iconst 1, 1, (0, 0, 0))] = 145 := by decide +kernel
theorem ok_X11_bindsNumber_148_1 : oks m_X11_bindsNumber.1 m_X11_bindsNumber.2.2.1 148 [(.iconst 0, 1, (0, 0, 0))] = true ∧ plen 148 [(.iconst 0, 1, (0, 0, 0))] = 149 := by decide +kernel
theorem ok_X11_bindsNumber_149_3 : oks m_X11_bindsNumber.1 m_X11_bindsNumber.2.2.1 149 [(.istore 5, 2, (0, 0, 0)), (.iconst 0, 1, (0, 0, 0)), (.istore 9, 2, (0, 0, 0))] = true ∧ plen 149 [(.istore 5, 2, (0, 0, 0)), (.iconst 0, 1, (0, 0, 0)), (.istore 9, 2, (0, 0, 0))] = 154 := by decide +kernel
theorem ok_X11_bindsNumber_154_2 : oks m_X11_bindsNumber.1 m_X11_bindsNumber.2.2.1 154 [(.iload 9, 2, (0, 0, 0)), (.iconst 3, 1, (0, 0, 0))] = true ∧ plen 154 [(.iload 9, 2, (0, 0, 0)), (.iconst 3, 1, (0, 0, 0))] = 157 := by decide +kernel
theorem ok_X11_bindsNumber_160_7 : oks m_X11_bindsNumber.1 m_X11_bindsNumber.2.2.1 160 [(.aload_n 0, 1, (0, 0, 0)), (.getfield 40, 3, (11, 13, 0)), (.iconst 3, 1, (0, 0, 0)), (.iload 6, 2, (0, 0, 0)), (.imul, 1, (0, 0, 0)), (.iload 9, 2, (0, 0, 0)), (.iadd, 1, (0, 0, 0))] = true ∧ plen 160 [(.aload_n 0, 1, (0, 0, 0)), (.getfield 40, 3, (11, 13, 0)), (.iconst 3, 1, (0, 0, 0)), (.iload 6, 2, (0, 0, 0)), (.imul, 1, (0, 0, 0)), (.iload 9, 2, (0, 0, 0)), (.iadd, 1, (0, 0, 0))] = 171 := by decide +kernel
theorem ok_X11_bindsNumber_172_3 : oks m_X11_bindsNumber.1 m_X11_bindsNumber.2.2.1 172 [(.istore 10, 2, (0, 0, 0)), (.iload 10, 2, (0, 0, 0)), (.iconst (-1), 1, (0, 0, 0))] = true ∧ plen 172 [(.istore 10, 2, (0, 0, 0)), (.iload 10, 2, (0, 0, 0)), (.iconst (-1), 1, (0, 0, 0))] = 177 := by decide +kernel
theorem ok_X11_bindsNumber_180_4 : oks m_X11_bindsNumber.1 m_X11_bindsNumber.2.2.1 180 [(.aload_n 0, 1, (0, 0, 0)), (.getfield 86, 3, (11, 30, 0)), (.iload_n 3, 1, (0, 0, 0)), (.iload 10, 2, (0, 0, 0))] = true ∧ plen 180 [(.aload_n 0, 1, (0, 0, 0)), (.getfield 86, 3, (11, 30, 0)), (.iload_n 3, 1, (0, 0, 0)), (.iload 10, 2, (0, 0, 0))] = 187 := by decide +kernel
theorem ok_X11_bindsNumber_188_6 : oks m_X11_bindsNumber.1 m_X11_bindsNumber.2.2.1 188 [(.aload_n 0, 1, (0, 0, 0)), (.getfield 89, 3, (11, 31, 0)), (.iload_n 3, 1, (0, 0, 0)), (.aload_n 0, 1, (0, 0, 0)), (.getfield 31, 3, (11, 10, 0)), (.iload 6, 2, (0, 0, 0))] = true ∧ plen 188 [(.aload_n 0, 1, (0, 0, 0)), (.getfield 89, 3, (11, 31, 0)), (.iload_n 3, 1, (0, 0, 0)), (.aload_n 0, 1, (0, 0, 0)), (.getfield 31, 3, (11, 10, 0)), (.iload 6, 2, (0, 0, 0))] = 199 := by decide +kernel
theorem ok_X11_bindsNumber_200_1 : oks m_X11_bindsNumber.1 m_X11_bindsNumber.2.2.1 200 [(.iconst 3, 1, (0, 0, 0))] = true ∧ plen 200 [(.iconst 3, 1, (0, 0, 0))] = 201 := by decide +kernel
theorem ok_X11_bindsNumber_204_6 : oks m_X11_bindsNumber.1 m_X11_bindsNumber.2.2.1 204 [(.aload_n 0, 1, (0, 0, 0)), (.getfield 16, 3, (11, 3, 0)), (.iconst 3, 1, (0, 0, 0)), (.aload_n 0, 1, (0, 0, 0)), (.getfield 34, 3, (11, 11, 0)), (.iload 6, 2, (0, 0, 0))] = true ∧ plen 204 [(.aload_n 0, 1, (0, 0, 0)), (.getfield 16, 3, (11, 3, 0)), (.iconst 3, 1, (0, 0, 0)), (.aload_n 0, 1, (0, 0, 0)), (.getfield 34, 3, (11, 11, 0)), (.iload 6, 2, (0, 0, 0))] = 215 := by decide +kernel
theorem ok_X11_bindsNumber_216_3 : oks m_X11_bindsNumber.1 m_X11_bindsNumber.2.2.1 216 [(.imul, 1, (0, 0, 0)), (.iload 9, 2, (0, 0, 0)), (.iadd, 1, (0, 0, 0))] = true ∧ plen 216 [(.imul, 1, (0, 0, 0)), (.iload 9, 2, (0, 0, 0)), (.iadd, 1, (0, 0, 0))] = 220 := by decide +kernel
theorem ok_X11_bindsNumber_224_3 : oks m_X11_bindsNumber.1 m_X11_bindsNumber.2.2.1 224 [(.aload_n 0, 1, (0, 0, 0)), (.getfield 31, 3, (11, 10, 0)), (.iload 6, 2, (0, 0, 0))] = true ∧ plen 224 [(.aload_n 0, 1, (0, 0, 0)), (.getfield 31, 3, (11, 10, 0)), (.iload 6, 2, (0, 0, 0))] = 230 := by decide +kernel
theorem ok_X11_bindsNumber_231_1 : oks m_X11_bindsNumber.1 m_X11_bindsNumber.2.2.1 231 [(.bipush 6, 2, (0, 0, 0))] = true ∧ plen 231 [(.bipush 6, 2, (0, 0, 0))] = 233 := by decide +kernel
theorem ok_X11_bindsNumber_236_1 : oks m_X11_bindsNumber.1 m_X11_bindsNumber.2.2.1 236 [(.iconst 4, 1, (0, 0, 0))] = true ∧ plen 236 [(.iconst 4, 1, (0, 0, 0))] = 237 := by decide +kernel
theorem ok_X11_bindsNumber_240_1 : oks m_X11_bindsNumber.1 m_X11_bindsNumber.2.2.1 240 [(.iload 7, 2, (0, 0, 0))] = true ∧ plen 240 [(.iload 7, 2, (0, 0, 0))] = 242 := by decide +kernel
theorem ok_X11_bindsNumber_243_1 : oks m_X11_bindsNumber.1 m_X11_bindsNumber.2.2.1 243 [(.iinc 3 1, 3, (0, 0, 0))] = true ∧ plen 243 [(.iinc 3 1, 3, (0, 0, 0))] = 246 := by decide +kernel
theorem ok_X11_bindsNumber_246_1 : oks m_X11_bindsNumber.1 m_X11_bindsNumber.2.2.1 246 [(.iinc 9 1, 3, (0, 0, 0))] = true ∧ plen 246 [(.iinc 9 1, 3, (0, 0, 0))] = 249 := by decide +kernel
theorem ok_X11_bindsNumber_255_1 : oks m_X11_bindsNumber.1 m_X11_bindsNumber.2.2.1 255 [(.iload 4, 2, (0, 0, 0))] = true ∧ plen 255 [(.iload 4, 2, (0, 0, 0))] = 257 := by decide +kernel
theorem ok_X11_bindsNumber_260_1 : oks m_X11_bindsNumber.1 m_X11_bindsNumber.2.2.1 260 [(.iload 5, 2, (0, 0, 0))] = true ∧ plen 260 [(.iload 5, 2, (0, 0, 0))] = 262 := by decide +kernel
theorem ok_X11_bindsNumber_265_1 : oks m_X11_bindsNumber.1 m_X11_bindsNumber.2.2.1 265 [(.iconst 1, 1, (0, 0, 0))] = true ∧ plen 265 [(.iconst 1, 1, (0, 0, 0))] = 266 := by decide +kernel
theorem ok_X11_bindsNumber_269_1 : oks m_X11_bindsNumber.1 m_X11_bindsNumber.2.2.1 269 [(.iconst 0, 1, (0, 0, 0))] = true ∧ plen 269 [(.iconst 0, 1, (0, 0, 0))] = 270 := by decide +kernel
def L_X11_bindsNumber_11 (x1 : Int) (x3 : Int) (x6 : Int) (σ : Sg) : Option ((Int × Int × Sg) ⊕ (Int × Sg)) :=
if (σ 0 21) ≤ x6 then
some (.inr (x3, σ))
else
(rdn 24 σ 20 (wrap ((wrap (3 * x1)) + x6))).bind fun v1 =>
(wrn 256 σ 26 x3 v1).bind fun s3 =>
(rdn 3 s3 19 x6).bind fun v5 =>
(wrn 256 s3 27 x3 v5).bind fun s7 =>
some (.inl (wrap (x3 + 1), wrap (x6 + 1), s7))
def B_X11_bindsNumber_246 (x3 : Int) (x9 : Int) (σ : Sg) : Option ((Int × Int × Sg) ⊕ (Int × Sg)) :=
some (.inl (x3, wrap (x9 + 1), σ))
def B_X11_bindsNumber_242 (x3 : Int) (x9 : Int) (y0 : Int) (y1 : Int) (σ : Sg) : Option ((Int × Int × Sg) ⊕ (Int × Sg)) :=
(wrn 256 σ 27 y1 y0).bind fun s25 =>
B_X11_bindsNumber_246 (wrap (x3 + 1)) x9 s25
def L_X11_bindsNumber_154 (x6 : Int) (x7 : Int) (x3 : Int) (x9 : Int) (σ : Sg) : Option ((Int × Int × Sg) ⊕ (Int × Sg)) :=
if 3 ≤ x9 then
some (.inr (x3, σ))
else
(rdn 180 σ 11 (wrap ((wrap (3 * x6)) + x9))).bind fun v17 =>
if v17 = (-1) then
B_X11_bindsNumber_246 x3 x9 σ
else
(wrn 256 σ 26 x3 v17).bind fun s19 =>
(rdn 60 s19 8 x6).bind fun v21 =>
if v21 = 3 then
(rdn 60 s19 9 x6).bind fun v27 =>
(rdn 48 s19 3 (wrap ((wrap (3 * v27)) + x9))).bind fun v29 =>
B_X11_bindsNumber_242 x3 x9 v29 x3 s19
else
(rdn 60 s19 8 x6).bind fun v23 =>
if v23 = 6 then
B_X11_bindsNumber_242 x3 x9 4 x3 s19
else
B_X11_bindsNumber_242 x3 x9 x7 x3 s19
def B_X11_bindsNumber_149 (x3 : Int) (x4 : Bool) (x6 : Int) (x7 : Int) (y0 : Bool) (σ : Sg) : Option ((Int × Bool × Bool × Sg) ⊕ (Bool × Bool × Sg)) :=
(iter (fun a : (Int × Int × Sg) => L_X11_bindsNumber_154 x6 x7 a.1 a.2.1 a.2.2) 4 (x3, 0, σ)).bind fun y31 =>
some (.inl (y31.1, x4, y0, y31.2))
def B_X11_bindsNumber_148 (x3 : Int) (x4 : Bool) (x6 : Int) (x7 : Int) (σ : Sg) : Option ((Int × Bool × Bool × Sg) ⊕ (Bool × Bool × Sg)) :=
B_X11_bindsNumber_149 x3 x4 x6 x7 false σ
def B_X11_bindsNumber_144 (x3 : Int) (x4 : Bool) (x6 : Int) (x7 : Int) (σ : Sg) : Option ((Int × Bool × Bool × Sg) ⊕ (Bool × Bool × Sg)) :=
B_X11_bindsNumber_149 x3 x4 x6 x7 true σ
def B_X11_bindsNumber_126 (x3 : Int) (x5 : Bool) (x6 : Int) (x7 : Int) (x8 : Bool) (y0 : Bool) (σ : Sg) : Option ((Int × Bool × Bool × Sg) ⊕ (Bool × Bool × Sg)) :=
if x5 = true then
if x8 = true then
if x7 = 4 then
B_X11_bindsNumber_144 x3 y0 x6 x7 σ
else
B_X11_bindsNumber_148 x3 y0 x6 x7 σ
else
B_X11_bindsNumber_144 x3 y0 x6 x7 σ
else
B_X11_bindsNumber_148 x3 y0 x6 x7 σ
def B_X11_bindsNumber_121 (x3 : Int) (x5 : Bool) (x6 : Int) (x7 : Int) (x8 : Bool) (σ : Sg) : Option ((Int × Bool × Bool × Sg) ⊕ (Bool × Bool × Sg)) :=
B_X11_bindsNumber_126 x3 x5 x6 x7 x8 true σ
def B_X11_bindsNumber_109 (x3 : Int) (x4 : Bool) (x5 : Bool) (x6 : Int) (x7 : Int) (y0 : Bool) (σ : Sg) : Option ((Int × Bool × Bool × Sg) ⊕ (Bool × Bool × Sg)) :=
if x4 = true then
B_X11_bindsNumber_121 x3 x5 x6 x7 y0 σ
else
if y0 = true then
B_X11_bindsNumber_121 x3 x5 x6 x7 y0 σ
else
B_X11_bindsNumber_126 x3 x5 x6 x7 y0 false σ
def B_X11_bindsNumber_108 (x3 : Int) (x4 : Bool) (x5 : Bool) (x6 : Int) (x7 : Int) (σ : Sg) : Option ((Int × Bool × Bool × Sg) ⊕ (Bool × Bool × Sg)) :=
B_X11_bindsNumber_109 x3 x4 x5 x6 x7 false σ
def L_X11_bindsNumber_59 (x2 : Int) (x3 : Int) (x4 : Bool) (x5 : Bool) (σ : Sg) : Option ((Int × Bool × Bool × Sg) ⊕ (Bool × Bool × Sg)) :=
if x3 ≤ 0 then
some (.inr (x4, x5, σ))
else
(rdn 256 σ 26 (wrap (x3 + (-1)))).bind fun v11 =>
(rdn 256 σ 27 (wrap (x3 + (-1)))).bind fun v13 =>
(rdn 60 σ 8 v11).bind fun v15 =>
if v15 = 1 then
(rdn 60 σ 9 v11).bind fun v33 =>
if v33 = x2 then
B_X11_bindsNumber_109 (wrap (x3 + (-1))) x4 x5 v11 v13 true σ
else
B_X11_bindsNumber_108 (wrap (x3 + (-1))) x4 x5 v11 v13 σ
else
B_X11_bindsNumber_108 (wrap (x3 + (-1))) x4 x5 v11 v13 σ
def F_X11_bindsNumber (a1 : Int) (a2 : Int) (σ : Sg) : Option (Bool × Sg) :=
(iter (fun a : (Int × Int × Sg) => L_X11_bindsNumber_11 a1 a.1 a.2.1 a.2.2) 3000 (0, 0, σ)).bind fun y9 =>
(iter (fun a : (Int × Bool × Bool × Sg) => L_X11_bindsNumber_59 a2 a.1 a.2.1 a.2.2.1 a.2.2.2) 3000 (y9.1, false, true, y9.2)).bind fun y35 =>
if y35.1 = true then
if y35.2.1 = true then
some (true, y35.2.2)
else
some (false, y35.2.2)
else
some (false, y35.2.2)
theorem lk_X11_bindsNumber (l : Launch) (d : Nat) (hd : 0 ≤ d) (a1 : Int) (a2 : Int) (σ : Sg) (q : (Bool × Sg)) (h : F_X11_bindsNumber a1 a2 σ = some q) : CT l d m_X11_bindsNumber.2.1 m_X11_bindsNumber.2.2.1 m_X11_bindsNumber.2.2.2.1 m_X11_bindsNumber.2.2.2.2 [.inr 0, .inl a1, .inl a2] (LAYM, σ) (some (.inl (b2i q.1))) (LAYM, q.2) := by
  skip
  have key : Go l m_X11_bindsNumber d LAYM (.inl (some (.inl (b2i q.1)))) q.2 0 [some (.inr 0), some (.inl a1), some (.inl a2), none, none, none, none, none, none, none, none] [] σ := by
    unfold F_X11_bindsNumber at h
    have hL_X11_bindsNumber_11 : ∀ (x1 : Int) (x2 : Int) (x4 : Bool) (x5 : Bool) (n : Nat) (a : (Int × Int × Sg)) (y : (Int × Sg)), iter (fun a : (Int × Int × Sg) => L_X11_bindsNumber_11 x1 a.1 a.2.1 a.2.2) n a = some y → (fun y : (Int × Sg) => Go l m_X11_bindsNumber d LAYM (.inl (some (.inl (b2i q.1)))) q.2 59 [some (.inr 0), none, some (.inl x2), some (.inl y.1), some (.inl (b2i x4)), some (.inl (b2i x5)), none, none, none, none, none] [] y.2) y → (fun a : (Int × Int × Sg) => Go l m_X11_bindsNumber d LAYM (.inl (some (.inl (b2i q.1)))) q.2 11 [some (.inr 0), some (.inl x1), some (.inl x2), some (.inl a.1), some (.inl (b2i x4)), some (.inl (b2i x5)), some (.inl a.2.1), none, none, none, none] [] a.2.2) a := by
      intro x1 x2 x4 x5
      refine go_iter (G := fun a : (Int × Int × Sg) => Go l m_X11_bindsNumber d LAYM (.inl (some (.inl (b2i q.1)))) q.2 11 [some (.inr 0), some (.inl x1), some (.inl x2), some (.inl a.1), some (.inl (b2i x4)), some (.inl (b2i x5)), some (.inl a.2.1), none, none, none, none] [] a.2.2) (K := fun y : (Int × Sg) => Go l m_X11_bindsNumber d LAYM (.inl (some (.inl (b2i q.1)))) q.2 59 [some (.inr 0), none, some (.inl x2), some (.inl y.1), some (.inl (b2i x4)), some (.inl (b2i x5)), none, none, none, none, none] [] y.2) ?_
      rintro ⟨x3, x6, σ⟩ w h hK
      replace h : L_X11_bindsNumber_11 x1 x3 x6 σ = some w := h
      show Go l m_X11_bindsNumber d LAYM (.inl (some (.inl (b2i q.1)))) q.2 11 [some (.inr 0), some (.inl x1), some (.inl x2), some (.inl x3), some (.inl (b2i x4)), some (.inl (b2i x5)), some (.inl x6), none, none, none, none] [] σ
      unfold L_X11_bindsNumber_11 at h
      refine go_ops ok_X11_bindsNumber_11_3 (L' := [some (.inr 0), some (.inl x1), some (.inl x2), some (.inl x3), some (.inl (b2i x4)), some (.inl (b2i x5)), some (.inl x6), none, none, none, none]) (st' := [.inl (σ 0 21), .inl x6]) (σ1 := σ) rfl ?_
      refine go_icmp_ge dc_X11_bindsNumber_17 (by rfl) (fun hc => ?_) (fun hc => ?_)
      · replace h := (if_pos hc).symm.trans h
        cases h
        refine go_wk (L' := [some (.inr 0), none, some (.inl x2), some (.inl x3), some (.inl (b2i x4)), some (.inl (b2i x5)), none, none, none, none, none]) ⟨rfl, rfl, rfl, rfl, rfl, trivial⟩ ?_
        exact hK
      · replace h := (if_neg hc).symm.trans h
        refine go_ops ok_X11_bindsNumber_20_10 (L' := [some (.inr 0), some (.inl x1), some (.inl x2), some (.inl x3), some (.inl (b2i x4)), some (.inl (b2i x5)), some (.inl x6), none, none, none, none]) (st' := [.inl (wrap ((wrap (3 * x1)) + x6)), .inr 20, .inl x3, .inr 26]) (σ1 := σ) rfl ?_
        obtain ⟨v1, e2, h⟩ := bind_inv h
        refine go_rd (k := 20) dc_X11_bindsNumber_35 rfl e2 ?_
        obtain ⟨s3, e4, h⟩ := bind_inv h
        refine go_wr (k := 26) dc_X11_bindsNumber_36 rfl e4 ?_
        refine go_ops ok_X11_bindsNumber_37_6 (L' := [some (.inr 0), some (.inl x1), some (.inl x2), some (.inl x3), some (.inl (b2i x4)), some (.inl (b2i x5)), some (.inl x6), none, none, none, none]) (st' := [.inl x6, .inr 19, .inl x3, .inr 27]) (σ1 := s3) rfl ?_
        obtain ⟨v5, e6, h⟩ := bind_inv h
        refine go_rd (k := 19) dc_X11_bindsNumber_48 rfl e6 ?_
        obtain ⟨s7, e8, h⟩ := bind_inv h
        refine go_wr (k := 27) dc_X11_bindsNumber_49 rfl e8 ?_
        refine go_ops ok_X11_bindsNumber_50_2 (L' := [some (.inr 0), some (.inl x1), some (.inl x2), some (.inl (wrap (x3 + 1))), some (.inl (b2i x4)), some (.inl (b2i x5)), some (.inl (wrap (x6 + 1))), none, none, none, none]) (st' := []) (σ1 := s7) rfl ?_
        refine go_goto dc_X11_bindsNumber_56 (by rfl) ?_
        cases h
        exact hK
    have hL_X11_bindsNumber_59 : ∀ (x2 : Int) (n : Nat) (a : (Int × Bool × Bool × Sg)) (y : (Bool × Bool × Sg)), iter (fun a : (Int × Bool × Bool × Sg) => L_X11_bindsNumber_59 x2 a.1 a.2.1 a.2.2.1 a.2.2.2) n a = some y → (fun y : (Bool × Bool × Sg) => Go l m_X11_bindsNumber d LAYM (.inl (some (.inl (b2i q.1)))) q.2 255 [none, none, none, none, some (.inl (b2i y.1)), some (.inl (b2i y.2.1)), none, none, none, none, none] [] y.2.2) y → (fun a : (Int × Bool × Bool × Sg) => Go l m_X11_bindsNumber d LAYM (.inl (some (.inl (b2i q.1)))) q.2 59 [some (.inr 0), none, some (.inl x2), some (.inl a.1), some (.inl (b2i a.2.1)), some (.inl (b2i a.2.2.1)), none, none, none, none, none] [] a.2.2.2) a := by
      intro x2
      refine go_iter (G := fun a : (Int × Bool × Bool × Sg) => Go l m_X11_bindsNumber d LAYM (.inl (some (.inl (b2i q.1)))) q.2 59 [some (.inr 0), none, some (.inl x2), some (.inl a.1), some (.inl (b2i a.2.1)), some (.inl (b2i a.2.2.1)), none, none, none, none, none] [] a.2.2.2) (K := fun y : (Bool × Bool × Sg) => Go l m_X11_bindsNumber d LAYM (.inl (some (.inl (b2i q.1)))) q.2 255 [none, none, none, none, some (.inl (b2i y.1)), some (.inl (b2i y.2.1)), none, none, none, none, none] [] y.2.2) ?_
      rintro ⟨x3, x4, x5, σ⟩ w h hK
      replace h : L_X11_bindsNumber_59 x2 x3 x4 x5 σ = some w := h
      show Go l m_X11_bindsNumber d LAYM (.inl (some (.inl (b2i q.1)))) q.2 59 [some (.inr 0), none, some (.inl x2), some (.inl x3), some (.inl (b2i x4)), some (.inl (b2i x5)), none, none, none, none, none] [] σ
      unfold L_X11_bindsNumber_59 at h
      have hL_X11_bindsNumber_154 : ∀ (x2 : Int) (x4 : Bool) (x5 : Bool) (x6 : Int) (x7 : Int) (n : Nat) (a : (Int × Int × Sg)) (y : (Int × Sg)), iter (fun a : (Int × Int × Sg) => L_X11_bindsNumber_154 x6 x7 a.1 a.2.1 a.2.2) n a = some y → (fun y : (Int × Sg) => Go l m_X11_bindsNumber d LAYM (.inl (some (.inl (b2i q.1)))) q.2 252 [some (.inr 0), none, some (.inl x2), some (.inl y.1), some (.inl (b2i x4)), some (.inl (b2i x5)), none, none, none, none, none] [] y.2) y → (fun a : (Int × Int × Sg) => Go l m_X11_bindsNumber d LAYM (.inl (some (.inl (b2i q.1)))) q.2 154 [some (.inr 0), none, some (.inl x2), some (.inl a.1), some (.inl (b2i x4)), some (.inl (b2i x5)), some (.inl x6), some (.inl x7), none, some (.inl a.2.1), none] [] a.2.2) a := by
        intro x2 x4 x5 x6 x7
        refine go_iter (G := fun a : (Int × Int × Sg) => Go l m_X11_bindsNumber d LAYM (.inl (some (.inl (b2i q.1)))) q.2 154 [some (.inr 0), none, some (.inl x2), some (.inl a.1), some (.inl (b2i x4)), some (.inl (b2i x5)), some (.inl x6), some (.inl x7), none, some (.inl a.2.1), none] [] a.2.2) (K := fun y : (Int × Sg) => Go l m_X11_bindsNumber d LAYM (.inl (some (.inl (b2i q.1)))) q.2 252 [some (.inr 0), none, some (.inl x2), some (.inl y.1), some (.inl (b2i x4)), some (.inl (b2i x5)), none, none, none, none, none] [] y.2) ?_
        rintro ⟨x3, x9, σ⟩ w h hK
        replace h : L_X11_bindsNumber_154 x6 x7 x3 x9 σ = some w := h
        show Go l m_X11_bindsNumber d LAYM (.inl (some (.inl (b2i q.1)))) q.2 154 [some (.inr 0), none, some (.inl x2), some (.inl x3), some (.inl (b2i x4)), some (.inl (b2i x5)), some (.inl x6), some (.inl x7), none, some (.inl x9), none] [] σ
        unfold L_X11_bindsNumber_154 at h
        have hB_X11_bindsNumber_246 : ∀ (x3 : Int) (x9 : Int) (σ : Sg), B_X11_bindsNumber_246 x3 x9 σ = some w → Go l m_X11_bindsNumber d LAYM (.inl (some (.inl (b2i q.1)))) q.2 246 [some (.inr 0), none, some (.inl x2), some (.inl x3), some (.inl (b2i x4)), some (.inl (b2i x5)), some (.inl x6), some (.inl x7), none, some (.inl x9), none] [] σ := by
          intro x3 x9 σ h
          unfold B_X11_bindsNumber_246 at h
          refine go_ops ok_X11_bindsNumber_246_1 (L' := [some (.inr 0), none, some (.inl x2), some (.inl x3), some (.inl (b2i x4)), some (.inl (b2i x5)), some (.inl x6), some (.inl x7), none, some (.inl (wrap (x9 + 1))), none]) (st' := []) (σ1 := σ) rfl ?_
          refine go_goto dc_X11_bindsNumber_249 (by rfl) ?_
          cases h
          exact hK
        have hB_X11_bindsNumber_242 : ∀ (x3 : Int) (x9 : Int) (y0 : Int) (y1 : Int) (σ : Sg), B_X11_bindsNumber_242 x3 x9 y0 y1 σ = some w → Go l m_X11_bindsNumber d LAYM (.inl (some (.inl (b2i q.1)))) q.2 242 [some (.inr 0), none, some (.inl x2), some (.inl x3), some (.inl (b2i x4)), some (.inl (b2i x5)), some (.inl x6), some (.inl x7), none, some (.inl x9), none] [.inl y0, .inl y1, .inr 27] σ := by
          intro x3 x9 y0 y1 σ h
          unfold B_X11_bindsNumber_242 at h
          obtain ⟨s25, e26, h⟩ := bind_inv h
          refine go_wr (k := 27) dc_X11_bindsNumber_242 rfl e26 ?_
          refine go_ops ok_X11_bindsNumber_243_1 (L' := [some (.inr 0), none, some (.inl x2), some (.inl (wrap (x3 + 1))), some (.inl (b2i x4)), some (.inl (b2i x5)), some (.inl x6), some (.inl x7), none, some (.inl x9), none]) (st' := []) (σ1 := s25) rfl ?_
          exact hB_X11_bindsNumber_246 (wrap (x3 + 1)) x9 s25 h
        refine go_ops ok_X11_bindsNumber_154_2 (L' := [some (.inr 0), none, some (.inl x2), some (.inl x3), some (.inl (b2i x4)), some (.inl (b2i x5)), some (.inl x6), some (.inl x7), none, some (.inl x9), none]) (st' := [.inl 3, .inl x9]) (σ1 := σ) rfl ?_
        refine go_icmp_ge dc_X11_bindsNumber_157 (by rfl) (fun hc => ?_) (fun hc => ?_)
        · replace h := (if_pos hc).symm.trans h
          cases h
          refine go_wk (L' := [some (.inr 0), none, some (.inl x2), some (.inl x3), some (.inl (b2i x4)), some (.inl (b2i x5)), none, none, none, none, none]) ⟨rfl, rfl, rfl, rfl, rfl, trivial⟩ ?_
          exact hK
        · replace h := (if_neg hc).symm.trans h
          refine go_ops ok_X11_bindsNumber_160_7 (L' := [some (.inr 0), none, some (.inl x2), some (.inl x3), some (.inl (b2i x4)), some (.inl (b2i x5)), some (.inl x6), some (.inl x7), none, some (.inl x9), none]) (st' := [.inl (wrap ((wrap (3 * x6)) + x9)), .inr 11]) (σ1 := σ) rfl ?_
          obtain ⟨v17, e18, h⟩ := bind_inv h
          refine go_rd (k := 11) dc_X11_bindsNumber_171 rfl e18 ?_
          refine go_ops ok_X11_bindsNumber_172_3 (L' := [some (.inr 0), none, some (.inl x2), some (.inl x3), some (.inl (b2i x4)), some (.inl (b2i x5)), some (.inl x6), some (.inl x7), none, some (.inl x9), some (.inl v17)]) (st' := [.inl (-1), .inl v17]) (σ1 := σ) rfl ?_
          refine go_icmp_eq dc_X11_bindsNumber_177 (by rfl) (fun hc => ?_) (fun hc => ?_)
          · replace h := (if_pos hc).symm.trans h
            refine go_wk (L' := [some (.inr 0), none, some (.inl x2), some (.inl x3), some (.inl (b2i x4)), some (.inl (b2i x5)), some (.inl x6), some (.inl x7), none, some (.inl x9), none]) ⟨rfl, rfl, rfl, rfl, rfl, rfl, rfl, rfl, trivial⟩ ?_
            exact hB_X11_bindsNumber_246 x3 x9 σ h
          · replace h := (if_neg hc).symm.trans h
            refine go_ops ok_X11_bindsNumber_180_4 (L' := [some (.inr 0), none, some (.inl x2), some (.inl x3), some (.inl (b2i x4)), some (.inl (b2i x5)), some (.inl x6), some (.inl x7), none, some (.inl x9), some (.inl v17)]) (st' := [.inl v17, .inl x3, .inr 26]) (σ1 := σ) rfl ?_
            obtain ⟨s19, e20, h⟩ := bind_inv h
            refine go_wr (k := 26) dc_X11_bindsNumber_187 rfl e20 ?_
            refine go_ops ok_X11_bindsNumber_188_6 (L' := [some (.inr 0), none, some (.inl x2), some (.inl x3), some (.inl (b2i x4)), some (.inl (b2i x5)), some (.inl x6), some (.inl x7), none, some (.inl x9), some (.inl v17)]) (st' := [.inl x6, .inr 8, .inl x3, .inr 27]) (σ1 := s19) rfl ?_
            obtain ⟨v21, e22, h⟩ := bind_inv h
            refine go_rd (k := 8) dc_X11_bindsNumber_199 rfl e22 ?_
            refine go_ops ok_X11_bindsNumber_200_1 (L' := [some (.inr 0), none, some (.inl x2), some (.inl x3), some (.inl (b2i x4)), some (.inl (b2i x5)), some (.inl x6), some (.inl x7), none, some (.inl x9), some (.inl v17)]) (st' := [.inl 3, .inl v21, .inl x3, .inr 27]) (σ1 := s19) rfl ?_
            refine go_icmp_ne dc_X11_bindsNumber_201 (by rfl) (fun hc => ?_) (fun hc => ?_)
            · replace h := (if_neg hc).symm.trans h
              refine go_ops ok_X11_bindsNumber_224_3 (L' := [some (.inr 0), none, some (.inl x2), some (.inl x3), some (.inl (b2i x4)), some (.inl (b2i x5)), some (.inl x6), some (.inl x7), none, some (.inl x9), some (.inl v17)]) (st' := [.inl x6, .inr 8, .inl x3, .inr 27]) (σ1 := s19) rfl ?_
              obtain ⟨v23, e24, h⟩ := bind_inv h
              refine go_rd (k := 8) dc_X11_bindsNumber_230 rfl e24 ?_
              refine go_ops ok_X11_bindsNumber_231_1 (L' := [some (.inr 0), none, some (.inl x2), some (.inl x3), some (.inl (b2i x4)), some (.inl (b2i x5)), some (.inl x6), some (.inl x7), none, some (.inl x9), some (.inl v17)]) (st' := [.inl 6, .inl v23, .inl x3, .inr 27]) (σ1 := s19) rfl ?_
              refine go_icmp_ne dc_X11_bindsNumber_233 (by rfl) (fun hc => ?_) (fun hc => ?_)
              · replace h := (if_neg hc).symm.trans h
                refine go_ops ok_X11_bindsNumber_240_1 (L' := [some (.inr 0), none, some (.inl x2), some (.inl x3), some (.inl (b2i x4)), some (.inl (b2i x5)), some (.inl x6), some (.inl x7), none, some (.inl x9), some (.inl v17)]) (st' := [.inl x7, .inl x3, .inr 27]) (σ1 := s19) rfl ?_
                refine go_wk (L' := [some (.inr 0), none, some (.inl x2), some (.inl x3), some (.inl (b2i x4)), some (.inl (b2i x5)), some (.inl x6), some (.inl x7), none, some (.inl x9), none]) ⟨rfl, rfl, rfl, rfl, rfl, rfl, rfl, rfl, trivial⟩ ?_
                exact hB_X11_bindsNumber_242 x3 x9 x7 x3 s19 h
              · replace h := (if_pos hc).symm.trans h
                refine go_ops ok_X11_bindsNumber_236_1 (L' := [some (.inr 0), none, some (.inl x2), some (.inl x3), some (.inl (b2i x4)), some (.inl (b2i x5)), some (.inl x6), some (.inl x7), none, some (.inl x9), some (.inl v17)]) (st' := [.inl 4, .inl x3, .inr 27]) (σ1 := s19) rfl ?_
                refine go_goto dc_X11_bindsNumber_237 (by rfl) ?_
                refine go_wk (L' := [some (.inr 0), none, some (.inl x2), some (.inl x3), some (.inl (b2i x4)), some (.inl (b2i x5)), some (.inl x6), some (.inl x7), none, some (.inl x9), none]) ⟨rfl, rfl, rfl, rfl, rfl, rfl, rfl, rfl, trivial⟩ ?_
                exact hB_X11_bindsNumber_242 x3 x9 4 x3 s19 h
            · replace h := (if_pos hc).symm.trans h
              refine go_ops ok_X11_bindsNumber_204_6 (L' := [some (.inr 0), none, some (.inl x2), some (.inl x3), some (.inl (b2i x4)), some (.inl (b2i x5)), some (.inl x6), some (.inl x7), none, some (.inl x9), some (.inl v17)]) (st' := [.inl x6, .inr 9, .inl 3, .inr 3, .inl x3, .inr 27]) (σ1 := s19) rfl ?_
              obtain ⟨v27, e28, h⟩ := bind_inv h
              refine go_rd (k := 9) dc_X11_bindsNumber_215 rfl e28 ?_
              refine go_ops ok_X11_bindsNumber_216_3 (L' := [some (.inr 0), none, some (.inl x2), some (.inl x3), some (.inl (b2i x4)), some (.inl (b2i x5)), some (.inl x6), some (.inl x7), none, some (.inl x9), some (.inl v17)]) (st' := [.inl (wrap ((wrap (3 * v27)) + x9)), .inr 3, .inl x3, .inr 27]) (σ1 := s19) rfl ?_
              obtain ⟨v29, e30, h⟩ := bind_inv h
              refine go_rd (k := 3) dc_X11_bindsNumber_220 rfl e30 ?_
              refine go_goto dc_X11_bindsNumber_221 (by rfl) ?_
              refine go_wk (L' := [some (.inr 0), none, some (.inl x2), some (.inl x3), some (.inl (b2i x4)), some (.inl (b2i x5)), some (.inl x6), some (.inl x7), none, some (.inl x9), none]) ⟨rfl, rfl, rfl, rfl, rfl, rfl, rfl, rfl, trivial⟩ ?_
              exact hB_X11_bindsNumber_242 x3 x9 v29 x3 s19 h
      have hB_X11_bindsNumber_149 : ∀ (x3 : Int) (x4 : Bool) (x6 : Int) (x7 : Int) (y0 : Bool) (σ : Sg), B_X11_bindsNumber_149 x3 x4 x6 x7 y0 σ = some w → Go l m_X11_bindsNumber d LAYM (.inl (some (.inl (b2i q.1)))) q.2 149 [some (.inr 0), none, some (.inl x2), some (.inl x3), some (.inl (b2i x4)), none, some (.inl x6), some (.inl x7), none, none, none] [.inl (b2i y0)] σ := by
        intro x3 x4 x6 x7 y0 σ h
        unfold B_X11_bindsNumber_149 at h
        refine go_ops ok_X11_bindsNumber_149_3 (L' := [some (.inr 0), none, some (.inl x2), some (.inl x3), some (.inl (b2i x4)), some (.inl (b2i y0)), some (.inl x6), some (.inl x7), none, some (.inl 0), none]) (st' := []) (σ1 := σ) rfl ?_
        obtain ⟨y31, e32, h⟩ := bind_inv h
        refine hL_X11_bindsNumber_154 x2 x4 y0 x6 x7 4 (x3, 0, σ) y31 e32 ?_
        show Go l m_X11_bindsNumber d LAYM (.inl (some (.inl (b2i q.1)))) q.2 252 [some (.inr 0), none, some (.inl x2), some (.inl y31.1), some (.inl (b2i x4)), some (.inl (b2i y0)), none, none, none, none, none] [] y31.2
        refine go_goto dc_X11_bindsNumber_252 (by rfl) ?_
        cases h
        exact hK
      have hB_X11_bindsNumber_148 : ∀ (x3 : Int) (x4 : Bool) (x6 : Int) (x7 : Int) (σ : Sg), B_X11_bindsNumber_148 x3 x4 x6 x7 σ = some w → Go l m_X11_bindsNumber d LAYM (.inl (some (.inl (b2i q.1)))) q.2 148 [some (.inr 0), none, some (.inl x2), some (.inl x3), some (.inl (b2i x4)), none, some (.inl x6), some (.inl x7), none, none, none] [] σ := by
        intro x3 x4 x6 x7 σ h
        unfold B_X11_bindsNumber_148 at h
        refine go_ops ok_X11_bindsNumber_148_1 (L' := [some (.inr 0), none, some (.inl x2), some (.inl x3), some (.inl (b2i x4)), none, some (.inl x6), some (.inl x7), none, none, none]) (st' := [.inl 0]) (σ1 := σ) rfl ?_
        exact hB_X11_bindsNumber_149 x3 x4 x6 x7 false σ h
      have hB_X11_bindsNumber_144 : ∀ (x3 : Int) (x4 : Bool) (x6 : Int) (x7 : Int) (σ : Sg), B_X11_bindsNumber_144 x3 x4 x6 x7 σ = some w → Go l m_X11_bindsNumber d LAYM (.inl (some (.inl (b2i q.1)))) q.2 144 [some (.inr 0), none, some (.inl x2), some (.inl x3), some (.inl (b2i x4)), none, some (.inl x6), some (.inl x7), none, none, none] [] σ := by
        intro x3 x4 x6 x7 σ h
        unfold B_X11_bindsNumber_144 at h
        refine go_ops ok_X11_bindsNumber_144_1 (L' := [some (.inr 0), none, some (.inl x2), some (.inl x3), some (.inl (b2i x4)), none, some (.inl x6), some (.inl x7), none, none, none]) (st' := [.inl 1]) (σ1 := σ) rfl ?_
        refine go_goto dc_X11_bindsNumber_145 (by rfl) ?_
        exact hB_X11_bindsNumber_149 x3 x4 x6 x7 true σ h
      have hB_X11_bindsNumber_126 : ∀ (x3 : Int) (x5 : Bool) (x6 : Int) (x7 : Int) (x8 : Bool) (y0 : Bool) (σ : Sg), B_X11_bindsNumber_126 x3 x5 x6 x7 x8 y0 σ = some w → Go l m_X11_bindsNumber d LAYM (.inl (some (.inl (b2i q.1)))) q.2 126 [some (.inr 0), none, some (.inl x2), some (.inl x3), none, some (.inl (b2i x5)), some (.inl x6), some (.inl x7), some (.inl (b2i x8)), none, none] [.inl (b2i y0)] σ := by
        intro x3 x5 x6 x7 x8 y0 σ h
        unfold B_X11_bindsNumber_126 at h
        refine go_ops ok_X11_bindsNumber_126_2 (L' := [some (.inr 0), none, some (.inl x2), some (.inl x3), some (.inl (b2i y0)), some (.inl (b2i x5)), some (.inl x6), some (.inl x7), some (.inl (b2i x8)), none, none]) (st' := [.inl (b2i x5)]) (σ1 := σ) rfl ?_
        refine go_ifb_eq dc_X11_bindsNumber_130 (by rfl) (fun hc => ?_) (fun hc => ?_)
        · replace h := (if_neg hc).symm.trans h
          refine go_wk (L' := [some (.inr 0), none, some (.inl x2), some (.inl x3), some (.inl (b2i y0)), none, some (.inl x6), some (.inl x7), none, none, none]) ⟨rfl, rfl, rfl, rfl, rfl, rfl, trivial⟩ ?_
          exact hB_X11_bindsNumber_148 x3 y0 x6 x7 σ h
        · replace h := (if_pos hc).symm.trans h
          refine go_ops ok_X11_bindsNumber_133_1 (L' := [some (.inr 0), none, some (.inl x2), some (.inl x3), some (.inl (b2i y0)), some (.inl (b2i x5)), some (.inl x6), some (.inl x7), some (.inl (b2i x8)), none, none]) (st' := [.inl (b2i x8)]) (σ1 := σ) rfl ?_
          refine go_ifb_eq dc_X11_bindsNumber_135 (by rfl) (fun hc => ?_) (fun hc => ?_)
          · replace h := (if_neg hc).symm.trans h
            refine go_wk (L' := [some (.inr 0), none, some (.inl x2), some (.inl x3), some (.inl (b2i y0)), none, some (.inl x6), some (.inl x7), none, none, none]) ⟨rfl, rfl, rfl, rfl, rfl, rfl, trivial⟩ ?_
            exact hB_X11_bindsNumber_144 x3 y0 x6 x7 σ h
          · replace h := (if_pos hc).symm.trans h
            refine go_ops ok_X11_bindsNumber_138_2 (L' := [some (.inr 0), none, some (.inl x2), some (.inl x3), some (.inl (b2i y0)), some (.inl (b2i x5)), some (.inl x6), some (.inl x7), some (.inl (b2i x8)), none, none]) (st' := [.inl 4, .inl x7]) (σ1 := σ) rfl ?_
            refine go_icmp_ne dc_X11_bindsNumber_141 (by rfl) (fun hc => ?_) (fun hc => ?_)
            · replace h := (if_neg hc).symm.trans h
              refine go_wk (L' := [some (.inr 0), none, some (.inl x2), some (.inl x3), some (.inl (b2i y0)), none, some (.inl x6), some (.inl x7), none, none, none]) ⟨rfl, rfl, rfl, rfl, rfl, rfl, trivial⟩ ?_
              exact hB_X11_bindsNumber_148 x3 y0 x6 x7 σ h
            · replace h := (if_pos hc).symm.trans h
              refine go_wk (L' := [some (.inr 0), none, some (.inl x2), some (.inl x3), some (.inl (b2i y0)), none, some (.inl x6), some (.inl x7), none, none, none]) ⟨rfl, rfl, rfl, rfl, rfl, rfl, trivial⟩ ?_
              exact hB_X11_bindsNumber_144 x3 y0 x6 x7 σ h
      have hB_X11_bindsNumber_121 : ∀ (x3 : Int) (x5 : Bool) (x6 : Int) (x7 : Int) (x8 : Bool) (σ : Sg), B_X11_bindsNumber_121 x3 x5 x6 x7 x8 σ = some w → Go l m_X11_bindsNumber d LAYM (.inl (some (.inl (b2i q.1)))) q.2 121 [some (.inr 0), none, some (.inl x2), some (.inl x3), none, some (.inl (b2i x5)), some (.inl x6), some (.inl x7), some (.inl (b2i x8)), none, none] [] σ := by
        intro x3 x5 x6 x7 x8 σ h
        unfold B_X11_bindsNumber_121 at h
        refine go_ops ok_X11_bindsNumber_121_1 (L' := [some (.inr 0), none, some (.inl x2), some (.inl x3), none, some (.inl (b2i x5)), some (.inl x6), some (.inl x7), some (.inl (b2i x8)), none, none]) (st' := [.inl 1]) (σ1 := σ) rfl ?_
        refine go_goto dc_X11_bindsNumber_122 (by rfl) ?_
        exact hB_X11_bindsNumber_126 x3 x5 x6 x7 x8 true σ h
      have hB_X11_bindsNumber_109 : ∀ (x3 : Int) (x4 : Bool) (x5 : Bool) (x6 : Int) (x7 : Int) (y0 : Bool) (σ : Sg), B_X11_bindsNumber_109 x3 x4 x5 x6 x7 y0 σ = some w → Go l m_X11_bindsNumber d LAYM (.inl (some (.inl (b2i q.1)))) q.2 109 [some (.inr 0), none, some (.inl x2), some (.inl x3), some (.inl (b2i x4)), some (.inl (b2i x5)), some (.inl x6), some (.inl x7), none, none, none] [.inl (b2i y0)] σ := by
        intro x3 x4 x5 x6 x7 y0 σ h
        unfold B_X11_bindsNumber_109 at h
        refine go_ops ok_X11_bindsNumber_109_2 (L' := [some (.inr 0), none, some (.inl x2), some (.inl x3), some (.inl (b2i x4)), some (.inl (b2i x5)), some (.inl x6), some (.inl x7), some (.inl (b2i y0)), none, none]) (st' := [.inl (b2i x4)]) (σ1 := σ) rfl ?_
        refine go_ifb_ne dc_X11_bindsNumber_113 (by rfl) (fun hc => ?_) (fun hc => ?_)
        · replace h := (if_pos hc).symm.trans h
          refine go_wk (L' := [some (.inr 0), none, some (.inl x2), some (.inl x3), none, some (.inl (b2i x5)), some (.inl x6), some (.inl x7), some (.inl (b2i y0)), none, none]) ⟨rfl, rfl, rfl, rfl, rfl, rfl, rfl, trivial⟩ ?_
          exact hB_X11_bindsNumber_121 x3 x5 x6 x7 y0 σ h
        · replace h := (if_neg hc).symm.trans h
          refine go_ops ok_X11_bindsNumber_116_1 (L' := [some (.inr 0), none, some (.inl x2), some (.inl x3), some (.inl (b2i x4)), some (.inl (b2i x5)), some (.inl x6), some (.inl x7), some (.inl (b2i y0)), none, none]) (st' := [.inl (b2i y0)]) (σ1 := σ) rfl ?_
          refine go_ifb_eq dc_X11_bindsNumber_118 (by rfl) (fun hc => ?_) (fun hc => ?_)
          · replace h := (if_neg hc).symm.trans h
            refine go_ops ok_X11_bindsNumber_125_1 (L' := [some (.inr 0), none, some (.inl x2), some (.inl x3), some (.inl (b2i x4)), some (.inl (b2i x5)), some (.inl x6), some (.inl x7), some (.inl (b2i y0)), none, none]) (st' := [.inl 0]) (σ1 := σ) rfl ?_
            refine go_wk (L' := [some (.inr 0), none, some (.inl x2), some (.inl x3), none, some (.inl (b2i x5)), some (.inl x6), some (.inl x7), some (.inl (b2i y0)), none, none]) ⟨rfl, rfl, rfl, rfl, rfl, rfl, rfl, trivial⟩ ?_
            exact hB_X11_bindsNumber_126 x3 x5 x6 x7 y0 false σ h
          · replace h := (if_pos hc).symm.trans h
            refine go_wk (L' := [some (.inr 0), none, some (.inl x2), some (.inl x3), none, some (.inl (b2i x5)), some (.inl x6), some (.inl x7), some (.inl (b2i y0)), none, none]) ⟨rfl, rfl, rfl, rfl, rfl, rfl, rfl, trivial⟩ ?_
            exact hB_X11_bindsNumber_121 x3 x5 x6 x7 y0 σ h
      have hB_X11_bindsNumber_108 : ∀ (x3 : Int) (x4 : Bool) (x5 : Bool) (x6 : Int) (x7 : Int) (σ : Sg), B_X11_bindsNumber_108 x3 x4 x5 x6 x7 σ = some w → Go l m_X11_bindsNumber d LAYM (.inl (some (.inl (b2i q.1)))) q.2 108 [some (.inr 0), none, some (.inl x2), some (.inl x3), some (.inl (b2i x4)), some (.inl (b2i x5)), some (.inl x6), some (.inl x7), none, none, none] [] σ := by
        intro x3 x4 x5 x6 x7 σ h
        unfold B_X11_bindsNumber_108 at h
        refine go_ops ok_X11_bindsNumber_108_1 (L' := [some (.inr 0), none, some (.inl x2), some (.inl x3), some (.inl (b2i x4)), some (.inl (b2i x5)), some (.inl x6), some (.inl x7), none, none, none]) (st' := [.inl 0]) (σ1 := σ) rfl ?_
        exact hB_X11_bindsNumber_109 x3 x4 x5 x6 x7 false σ h
      refine go_ops ok_X11_bindsNumber_59_1 (L' := [some (.inr 0), none, some (.inl x2), some (.inl x3), some (.inl (b2i x4)), some (.inl (b2i x5)), none, none, none, none, none]) (st' := [.inl x3]) (σ1 := σ) rfl ?_
      refine go_if_le dc_X11_bindsNumber_60 (by rfl) (fun hc => ?_) (fun hc => ?_)
      · replace h := (if_pos hc).symm.trans h
        cases h
        refine go_wk (L' := [none, none, none, none, some (.inl (b2i x4)), some (.inl (b2i x5)), none, none, none, none, none]) ⟨rfl, rfl, trivial⟩ ?_
        exact hK
      · replace h := (if_neg hc).symm.trans h
        refine go_ops ok_X11_bindsNumber_63_4 (L' := [some (.inr 0), none, some (.inl x2), some (.inl (wrap (x3 + (-1)))), some (.inl (b2i x4)), some (.inl (b2i x5)), none, none, none, none, none]) (st' := [.inl (wrap (x3 + (-1))), .inr 26]) (σ1 := σ) rfl ?_
        obtain ⟨v11, e12, h⟩ := bind_inv h
        refine go_rd (k := 26) dc_X11_bindsNumber_71 rfl e12 ?_
        refine go_ops ok_X11_bindsNumber_72_4 (L' := [some (.inr 0), none, some (.inl x2), some (.inl (wrap (x3 + (-1)))), some (.inl (b2i x4)), some (.inl (b2i x5)), some (.inl v11), none, none, none, none]) (st' := [.inl (wrap (x3 + (-1))), .inr 27]) (σ1 := σ) rfl ?_
        obtain ⟨v13, e14, h⟩ := bind_inv h
        refine go_rd (k := 27) dc_X11_bindsNumber_79 rfl e14 ?_
        refine go_ops ok_X11_bindsNumber_80_4 (L' := [some (.inr 0), none, some (.inl x2), some (.inl (wrap (x3 + (-1)))), some (.inl (b2i x4)), some (.inl (b2i x5)), some (.inl v11), some (.inl v13), none, none, none]) (st' := [.inl v11, .inr 8]) (σ1 := σ) rfl ?_
        obtain ⟨v15, e16, h⟩ := bind_inv h
        refine go_rd (k := 8) dc_X11_bindsNumber_88 rfl e16 ?_
        refine go_ops ok_X11_bindsNumber_89_1 (L' := [some (.inr 0), none, some (.inl x2), some (.inl (wrap (x3 + (-1)))), some (.inl (b2i x4)), some (.inl (b2i x5)), some (.inl v11), some (.inl v13), none, none, none]) (st' := [.inl 1, .inl v15]) (σ1 := σ) rfl ?_
        refine go_icmp_ne dc_X11_bindsNumber_90 (by rfl) (fun hc => ?_) (fun hc => ?_)
        · replace h := (if_neg hc).symm.trans h
          exact hB_X11_bindsNumber_108 (wrap (x3 + (-1))) x4 x5 v11 v13 σ h
        · replace h := (if_pos hc).symm.trans h
          refine go_ops ok_X11_bindsNumber_93_3 (L' := [some (.inr 0), none, some (.inl x2), some (.inl (wrap (x3 + (-1)))), some (.inl (b2i x4)), some (.inl (b2i x5)), some (.inl v11), some (.inl v13), none, none, none]) (st' := [.inl v11, .inr 9]) (σ1 := σ) rfl ?_
          obtain ⟨v33, e34, h⟩ := bind_inv h
          refine go_rd (k := 9) dc_X11_bindsNumber_99 rfl e34 ?_
          refine go_ops ok_X11_bindsNumber_100_1 (L' := [some (.inr 0), none, some (.inl x2), some (.inl (wrap (x3 + (-1)))), some (.inl (b2i x4)), some (.inl (b2i x5)), some (.inl v11), some (.inl v13), none, none, none]) (st' := [.inl x2, .inl v33]) (σ1 := σ) rfl ?_
          refine go_icmp_ne dc_X11_bindsNumber_101 (by rfl) (fun hc => ?_) (fun hc => ?_)
          · replace h := (if_neg hc).symm.trans h
            exact hB_X11_bindsNumber_108 (wrap (x3 + (-1))) x4 x5 v11 v13 σ h
          · replace h := (if_pos hc).symm.trans h
            refine go_ops ok_X11_bindsNumber_104_1 (L' := [some (.inr 0), none, some (.inl x2), some (.inl (wrap (x3 + (-1)))), some (.inl (b2i x4)), some (.inl (b2i x5)), some (.inl v11), some (.inl v13), none, none, none]) (st' := [.inl 1]) (σ1 := σ) rfl ?_
            refine go_goto dc_X11_bindsNumber_105 (by rfl) ?_
            exact hB_X11_bindsNumber_109 (wrap (x3 + (-1))) x4 x5 v11 v13 true σ h
    refine go_ops ok_X11_bindsNumber_0_8 (L' := [some (.inr 0), some (.inl a1), some (.inl a2), some (.inl 0), some (.inl 0), some (.inl 1), some (.inl 0), none, none, none, none]) (st' := []) (σ1 := σ) rfl ?_
    obtain ⟨y9, e10, h⟩ := bind_inv h
    refine hL_X11_bindsNumber_11 a1 a2 false true 3000 (0, 0, σ) y9 e10 ?_
    show Go l m_X11_bindsNumber d LAYM (.inl (some (.inl (b2i q.1)))) q.2 59 [some (.inr 0), none, some (.inl a2), some (.inl y9.1), some (.inl 0), some (.inl 1), none, none, none, none, none] [] y9.2
    obtain ⟨y35, e36, h⟩ := bind_inv h
    refine hL_X11_bindsNumber_59 a2 3000 (y9.1, false, true, y9.2) y35 e36 ?_
    show Go l m_X11_bindsNumber d LAYM (.inl (some (.inl (b2i q.1)))) q.2 255 [none, none, none, none, some (.inl (b2i y35.1)), some (.inl (b2i y35.2.1)), none, none, none, none, none] [] y35.2.2
    refine go_ops ok_X11_bindsNumber_255_1 (L' := [none, none, none, none, some (.inl (b2i y35.1)), some (.inl (b2i y35.2.1)), none, none, none, none, none]) (st' := [.inl (b2i y35.1)]) (σ1 := y35.2.2) rfl ?_
    refine go_ifb_eq dc_X11_bindsNumber_257 (by rfl) (fun hc => ?_) (fun hc => ?_)
    · replace h := (if_neg hc).symm.trans h
      refine go_ops ok_X11_bindsNumber_269_1 (L' := [none, none, none, none, some (.inl (b2i y35.1)), some (.inl (b2i y35.2.1)), none, none, none, none, none]) (st' := [.inl 0]) (σ1 := y35.2.2) rfl ?_
      have h9 := Option.some.inj h
      subst h9
      exact go_zret (x := false) dc_X11_bindsNumber_270 rfl
    · replace h := (if_pos hc).symm.trans h
      refine go_ops ok_X11_bindsNumber_260_1 (L' := [none, none, none, none, some (.inl (b2i y35.1)), some (.inl (b2i y35.2.1)), none, none, none, none, none]) (st' := [.inl (b2i y35.2.1)]) (σ1 := y35.2.2) rfl ?_
      refine go_ifb_eq dc_X11_bindsNumber_262 (by rfl) (fun hc => ?_) (fun hc => ?_)
      · replace h := (if_neg hc).symm.trans h
        refine go_ops ok_X11_bindsNumber_269_1 (L' := [none, none, none, none, some (.inl (b2i y35.1)), some (.inl (b2i y35.2.1)), none, none, none, none, none]) (st' := [.inl 0]) (σ1 := y35.2.2) rfl ?_
        have h9 := Option.some.inj h
        subst h9
        exact go_zret (x := false) dc_X11_bindsNumber_270 rfl
      · replace h := (if_pos hc).symm.trans h
        refine go_ops ok_X11_bindsNumber_265_1 (L' := [none, none, none, none, some (.inl (b2i y35.1)), some (.inl (b2i y35.2.1)), none, none, none, none, none]) (st' := [.inl 1]) (σ1 := y35.2.2) rfl ?_
        refine go_goto dc_X11_bindsNumber_266 (by rfl) ?_
        have h9 := Option.some.inj h
        subst h9
        exact go_zret (x := true) dc_X11_bindsNumber_270 rfl
  have hf := go_ct (as := [.inr 0, .inl a1, .inl a2]) mk_X11_bindsNumber (by rfl) (Nat.le_of_ble_eq_true rfl) key
  exact hf
theorem dc_X11_guard_2 : decode m_X11_guard.2.2.1 2 = .ok (.invokevirtual 248, 3) := by decide +kernel
theorem dc_X11_guard_5 : decode m_X11_guard.2.2.1 5 = .ok (.ifCond .eq 25, 3) := by decide +kernel
theorem dc_X11_guard_11 : decode m_X11_guard.2.2.1 11 = .ok (.invokestatic 171, 3) := by decide +kernel
theorem dc_X11_guard_14 : decode m_X11_guard.2.2.1 14 = .ok (.ifCond .eq 16, 3) := by decide +kernel
theorem dc_X11_guard_20 : decode m_X11_guard.2.2.1 20 = .ok (.invokestatic 171, 3) := by decide +kernel
theorem dc_X11_guard_23 : decode m_X11_guard.2.2.1 23 = .ok (.ifCond .eq 7, 3) := by decide +kernel
theorem dc_X11_guard_27 : decode m_X11_guard.2.2.1 27 = .ok (.goto 4, 3) := by decide +kernel
theorem dc_X11_guard_35 : decode m_X11_guard.2.2.1 35 = .ok (.ifCond .eq 39, 3) := by decide +kernel
theorem dc_X11_guard_43 : decode m_X11_guard.2.2.1 43 = .ok (.invokestatic 171, 3) := by decide +kernel
theorem dc_X11_guard_46 : decode m_X11_guard.2.2.1 46 = .ok (.ifCond .eq 28, 3) := by decide +kernel
theorem dc_X11_guard_51 : decode m_X11_guard.2.2.1 51 = .ok (.if_icmp .ne 10, 3) := by decide +kernel
theorem dc_X11_guard_55 : decode m_X11_guard.2.2.1 55 = .ok (.ifCond .ne 19, 3) := by decide +kernel
theorem dc_X11_guard_58 : decode m_X11_guard.2.2.1 58 = .ok (.goto 12, 3) := by decide +kernel
theorem dc_X11_guard_64 : decode m_X11_guard.2.2.1 64 = .ok (.invokevirtual 251, 3) := by decide +kernel
theorem dc_X11_guard_67 : decode m_X11_guard.2.2.1 67 = .ok (.ifCond .eq 7, 3) := by decide +kernel
theorem dc_X11_guard_71 : decode m_X11_guard.2.2.1 71 = .ok (.goto 4, 3) := by decide +kernel
theorem dc_X11_guard_80 : decode m_X11_guard.2.2.1 80 = .ok (.ifCond .ne 7, 3) := by decide +kernel
theorem dc_X11_guard_84 : decode m_X11_guard.2.2.1 84 = .ok (.goto 13, 3) := by decide +kernel
theorem dc_X11_guard_89 : decode m_X11_guard.2.2.1 89 = .ok (.ifCond .eq 7, 3) := by decide +kernel
theorem dc_X11_guard_93 : decode m_X11_guard.2.2.1 93 = .ok (.goto 4, 3) := by decide +kernel
theorem dc_X11_guard_97 : decode m_X11_guard.2.2.1 97 = .ok (.invokevirtual 183, 3) := by decide +kernel
theorem dc_X11_guard_100 : decode m_X11_guard.2.2.1 100 = .ok (.ifCond .eq 5, 3) := by decide +kernel
theorem dc_X11_guard_104 : decode m_X11_guard.2.2.1 104 = .ok (.ireturn, 1) := by decide +kernel
theorem dc_X11_guard_110 : decode m_X11_guard.2.2.1 110 = .ok (.iaload, 1) := by decide +kernel
theorem dc_X11_guard_119 : decode m_X11_guard.2.2.1 119 = .ok (.iastore, 1) := by decide +kernel
theorem dc_X11_guard_126 : decode m_X11_guard.2.2.1 126 = .ok (.iastore, 1) := by decide +kernel
theorem dc_X11_guard_134 : decode m_X11_guard.2.2.1 134 = .ok (.iastore, 1) := by decide +kernel
theorem dc_X11_guard_142 : decode m_X11_guard.2.2.1 142 = .ok (.ireturn, 1) := by decide +kernel
theorem ok_X11_guard_0_2 : oks m_X11_guard.1 m_X11_guard.2.2.1 0 [(.aload_n 0, 1, (0, 0, 0)), (.iload_n 1, 1, (0, 0, 0))] = true ∧ plen 0 [(.aload_n 0, 1, (0, 0, 0)), (.iload_n 1, 1, (0, 0, 0))] = 2 := by decide +kernel
theorem ok_X11_guard_8_3 : oks m_X11_guard.1 m_X11_guard.2.2.1 8 [(.iload_n 2, 1, (0, 0, 0)), (.iconst (-1), 1, (0, 0, 0)), (.iconst 3, 1, (0, 0, 0))] = true ∧ plen 8 [(.iload_n 2, 1, (0, 0, 0)), (.iconst (-1), 1, (0, 0, 0)), (.iconst 3, 1, (0, 0, 0))] = 11 := by decide +kernel
theorem ok_X11_guard_17_3 : oks m_X11_guard.1 m_X11_guard.2.2.1 17 [(.iload_n 3, 1, (0, 0, 0)), (.iconst 0, 1, (0, 0, 0)), (.iconst 5, 1, (0, 0, 0))] = true ∧ plen 17 [(.iload_n 3, 1, (0, 0, 0)), (.iconst 0, 1, (0, 0, 0)), (.iconst 5, 1, (0, 0, 0))] = 20 := by decide +kernel
theorem ok_X11_guard_26_1 : oks m_X11_guard.1 m_X11_guard.2.2.1 26 [(.iconst 1, 1, (0, 0, 0))] = true ∧ plen 26 [(.iconst 1, 1, (0, 0, 0))] = 27 := by decide +kernel
theorem ok_X11_guard_30_1 : oks m_X11_guard.1 m_X11_guard.2.2.1 30 [(.iconst 0, 1, (0, 0, 0))] = true ∧ plen 30 [(.iconst 0, 1, (0, 0, 0))] = 31 := by decide +kernel
theorem ok_X11_guard_31_2 : oks m_X11_guard.1 m_X11_guard.2.2.1 31 [(.istore 5, 2, (0, 0, 0)), (.iload 5, 2, (0, 0, 0))] = true ∧ plen 31 [(.istore 5, 2, (0, 0, 0)), (.iload 5, 2, (0, 0, 0))] = 35 := by decide +kernel
theorem ok_X11_guard_38_3 : oks m_X11_guard.1 m_X11_guard.2.2.1 38 [(.iload 4, 2, (0, 0, 0)), (.iconst 0, 1, (0, 0, 0)), (.bipush 9, 2, (0, 0, 0))] = true ∧ plen 38 [(.iload 4, 2, (0, 0, 0)), (.iconst 0, 1, (0, 0, 0)), (.bipush 9, 2, (0, 0, 0))] = 43 := by decide +kernel
theorem ok_X11_guard_49_2 : oks m_X11_guard.1 m_X11_guard.2.2.1 49 [(.iload_n 2, 1, (0, 0, 0)), (.iconst (-1), 1, (0, 0, 0))] = true ∧ plen 49 [(.iload_n 2, 1, (0, 0, 0)), (.iconst (-1), 1, (0, 0, 0))] = 51 := by decide +kernel
theorem ok_X11_guard_54_1 : oks m_X11_guard.1 m_X11_guard.2.2.1 54 [(.iload_n 3, 1, (0, 0, 0))] = true ∧ plen 54 [(.iload_n 3, 1, (0, 0, 0))] = 55 := by decide +kernel
theorem ok_X11_guard_61_3 : oks m_X11_guard.1 m_X11_guard.2.2.1 61 [(.aload_n 0, 1, (0, 0, 0)), (.iload_n 1, 1, (0, 0, 0)), (.iload_n 3, 1, (0, 0, 0))] = true ∧ plen 61 [(.aload_n 0, 1, (0, 0, 0)), (.iload_n 1, 1, (0, 0, 0)), (.iload_n 3, 1, (0, 0, 0))] = 64 := by decide +kernel
theorem ok_X11_guard_70_1 : oks m_X11_guard.1 m_X11_guard.2.2.1 70 [(.iconst 1, 1, (0, 0, 0))] = true ∧ plen 70 [(.iconst 1, 1, (0, 0, 0))] = 71 := by decide +kernel
theorem ok_X11_guard_74_1 : oks m_X11_guard.1 m_X11_guard.2.2.1 74 [(.iconst 0, 1, (0, 0, 0))] = true ∧ plen 74 [(.iconst 0, 1, (0, 0, 0))] = 75 := by decide +kernel
theorem ok_X11_guard_75_3 : oks m_X11_guard.1 m_X11_guard.2.2.1 75 [(.istore 6, 2, (0, 0, 0)), (.aload_n 0, 1, (0, 0, 0)), (.iload 5, 2, (0, 0, 0))] = true ∧ plen 75 [(.istore 6, 2, (0, 0, 0)), (.aload_n 0, 1, (0, 0, 0)), (.iload 5, 2, (0, 0, 0))] = 80 := by decide +kernel
theorem ok_X11_guard_83_1 : oks m_X11_guard.1 m_X11_guard.2.2.1 83 [(.iconst 1, 1, (0, 0, 0))] = true ∧ plen 83 [(.iconst 1, 1, (0, 0, 0))] = 84 := by decide +kernel
theorem ok_X11_guard_87_1 : oks m_X11_guard.1 m_X11_guard.2.2.1 87 [(.iload 6, 2, (0, 0, 0))] = true ∧ plen 87 [(.iload 6, 2, (0, 0, 0))] = 89 := by decide +kernel
theorem ok_X11_guard_92_1 : oks m_X11_guard.1 m_X11_guard.2.2.1 92 [(.iconst 0, 1, (0, 0, 0))] = true ∧ plen 92 [(.iconst 0, 1, (0, 0, 0))] = 93 := by decide +kernel
theorem ok_X11_guard_96_1 : oks m_X11_guard.1 m_X11_guard.2.2.1 96 [(.iconst 2, 1, (0, 0, 0))] = true ∧ plen 96 [(.iconst 2, 1, (0, 0, 0))] = 97 := by decide +kernel
theorem ok_X11_guard_103_1 : oks m_X11_guard.1 m_X11_guard.2.2.1 103 [(.iconst 0, 1, (0, 0, 0))] = true ∧ plen 103 [(.iconst 0, 1, (0, 0, 0))] = 104 := by decide +kernel
theorem ok_X11_guard_105_3 : oks m_X11_guard.1 m_X11_guard.2.2.1 105 [(.aload_n 0, 1, (0, 0, 0)), (.getfield 74, 3, (11, 26, 0)), (.iload_n 1, 1, (0, 0, 0))] = true ∧ plen 105 [(.aload_n 0, 1, (0, 0, 0)), (.getfield 74, 3, (11, 26, 0)), (.iload_n 1, 1, (0, 0, 0))] = 110 := by decide +kernel
theorem ok_X11_guard_111_5 : oks m_X11_guard.1 m_X11_guard.2.2.1 111 [(.istore 7, 2, (0, 0, 0)), (.aload_n 0, 1, (0, 0, 0)), (.getfield 74, 3, (11, 26, 0)), (.iload_n 1, 1, (0, 0, 0)), (.iload_n 2, 1, (0, 0, 0))] = true ∧ plen 111 [(.istore 7, 2, (0, 0, 0)), (.aload_n 0, 1, (0, 0, 0)), (.getfield 74, 3, (11, 26, 0)), (.iload_n 1, 1, (0, 0, 0)), (.iload_n 2, 1, (0, 0, 0))] = 119 := by decide +kernel
theorem ok_X11_guard_120_4 : oks m_X11_guard.1 m_X11_guard.2.2.1 120 [(.aload_n 0, 1, (0, 0, 0)), (.getfield 77, 3, (11, 27, 0)), (.iload_n 1, 1, (0, 0, 0)), (.iload_n 3, 1, (0, 0, 0))] = true ∧ plen 120 [(.aload_n 0, 1, (0, 0, 0)), (.getfield 77, 3, (11, 27, 0)), (.iload_n 1, 1, (0, 0, 0)), (.iload_n 3, 1, (0, 0, 0))] = 126 := by decide +kernel
theorem ok_X11_guard_127_4 : oks m_X11_guard.1 m_X11_guard.2.2.1 127 [(.aload_n 0, 1, (0, 0, 0)), (.getfield 80, 3, (11, 28, 0)), (.iload_n 1, 1, (0, 0, 0)), (.iload 4, 2, (0, 0, 0))] = true ∧ plen 127 [(.aload_n 0, 1, (0, 0, 0)), (.getfield 80, 3, (11, 28, 0)), (.iload_n 1, 1, (0, 0, 0)), (.iload 4, 2, (0, 0, 0))] = 134 := by decide +kernel
theorem ok_X11_guard_135_4 : oks m_X11_guard.1 m_X11_guard.2.2.1 135 [(.aload_n 0, 1, (0, 0, 0)), (.iconst (-1), 1, (0, 0, 0)), (.putfield 161, 3, (11, 54, 0)), (.iload 7, 2, (0, 0, 0))] = true ∧ plen 135 [(.aload_n 0, 1, (0, 0, 0)), (.iconst (-1), 1, (0, 0, 0)), (.putfield 161, 3, (11, 54, 0)), (.iload 7, 2, (0, 0, 0))] = 142 := by decide +kernel
def B_X11_guard_97 (x1 : Int) (x2 : Int) (x3 : Int) (x4 : Int) (y0 : Int) (σ : Sg) : Option (Int × Sg) :=
bnd (F_X11_refused y0 σ) fun q1 =>
if q1.1 = true then
some (0, q1.2)
else
(rdn 8 q1.2 22 x1).bind fun v3 =>
(wrn 8 q1.2 22 x1 x2).bind fun s5 =>
(wrn 8 s5 23 x1 x3).bind fun s7 =>
(wrn 8 s7 24 x1 x4).bind fun s9 =>
bnd (up2 s9 0 54 (-1)) fun s11 =>
some (v3, s11)
def B_X11_guard_75 (x1 : Int) (x2 : Int) (x3 : Int) (x4 : Int) (x5 : Bool) (y0 : Bool) (σ : Sg) : Option (Int × Sg) :=
if x5 = true then
if y0 = true then
B_X11_guard_97 x1 x2 x3 x4 0 σ
else
B_X11_guard_97 x1 x2 x3 x4 2 σ
else
B_X11_guard_97 x1 x2 x3 x4 1 σ
def B_X11_guard_74 (x1 : Int) (x2 : Int) (x3 : Int) (x4 : Int) (x5 : Bool) (σ : Sg) : Option (Int × Sg) :=
B_X11_guard_75 x1 x2 x3 x4 x5 false σ
def B_X11_guard_70 (x1 : Int) (x2 : Int) (x3 : Int) (x4 : Int) (x5 : Bool) (σ : Sg) : Option (Int × Sg) :=
B_X11_guard_75 x1 x2 x3 x4 x5 true σ
def B_X11_guard_31 (x1 : Int) (x2 : Int) (x3 : Int) (x4 : Int) (y0 : Bool) (σ : Sg) : Option (Int × Sg) :=
if y0 = true then
if (F_X11_in x4 0 9) = true then
if x2 = (-1) then
if x3 = 0 then
B_X11_guard_70 x1 x2 x3 x4 y0 σ
else
B_X11_guard_74 x1 x2 x3 x4 y0 σ
else
(F_X11_bindsNumber x1 x3 σ).bind fun q13 =>
if q13.1 = true then
B_X11_guard_70 x1 x2 x3 x4 y0 q13.2
else
B_X11_guard_74 x1 x2 x3 x4 y0 q13.2
else
B_X11_guard_74 x1 x2 x3 x4 y0 σ
else
B_X11_guard_74 x1 x2 x3 x4 y0 σ
def B_X11_guard_30 (x1 : Int) (x2 : Int) (x3 : Int) (x4 : Int) (σ : Sg) : Option (Int × Sg) :=
B_X11_guard_31 x1 x2 x3 x4 false σ
def F_X11_guard (a1 : Int) (a2 : Int) (a3 : Int) (a4 : Int) (σ : Sg) : Option (Int × Sg) :=
if (F_X11_isCase a1 σ) = true then
if (F_X11_in a2 (-1) 3) = true then
if (F_X11_in a3 0 5) = true then
B_X11_guard_31 a1 a2 a3 a4 true σ
else
B_X11_guard_30 a1 a2 a3 a4 σ
else
B_X11_guard_30 a1 a2 a3 a4 σ
else
B_X11_guard_30 a1 a2 a3 a4 σ
theorem lk_X11_guard (l : Launch) (d : Nat) (hd : 2 ≤ d) (a1 : Int) (a2 : Int) (a3 : Int) (a4 : Int) (σ : Sg) (q : (Int × Sg)) (h : F_X11_guard a1 a2 a3 a4 σ = some q) : CT l d m_X11_guard.2.1 m_X11_guard.2.2.1 m_X11_guard.2.2.2.1 m_X11_guard.2.2.2.2 [.inr 0, .inl a1, .inl a2, .inl a3, .inl a4] (LAYM, σ) (some (.inl q.1)) (LAYM, q.2) := by
  obtain ⟨d, rfl⟩ : ∃ e, d = e + 1 := ⟨d - 1, by omega⟩
  have key : Go l m_X11_guard (d + 1) LAYM (.inl (some (.inl q.1))) q.2 0 [some (.inr 0), some (.inl a1), some (.inl a2), some (.inl a3), some (.inl a4), none, none, none] [] σ := by
    unfold F_X11_guard at h
    have hB_X11_guard_97 : ∀ (x1 : Int) (x2 : Int) (x3 : Int) (x4 : Int) (y0 : Int) (σ : Sg), B_X11_guard_97 x1 x2 x3 x4 y0 σ = some q → Go l m_X11_guard (d + 1) LAYM (.inl (some (.inl q.1))) q.2 97 [some (.inr 0), some (.inl x1), some (.inl x2), some (.inl x3), some (.inl x4), none, none, none] [.inl y0, .inr 0] σ := by
      intro x1 x2 x3 x4 y0 σ h
      unfold B_X11_guard_97 at h
      obtain ⟨q1, e2, h⟩ := bnd_inv h
      refine go_V (M1 := m_X11_refused) (as := [.inl y0]) (st := []) (k := 0) (ci := 11) dc_X11_guard_97 ln_11_183 im_X11_refused (by decide) rfl rfl mk_X11_refused rfl (Nat.le_of_ble_eq_true rfl) (Nat.le_refl _) (v := (some (.inl (b2i q1.1)))) (σ1 := q1.2) (lk_X11_refused l d (by omega) y0 σ q1 e2.symm) _ rfl ?_
      refine go_ifb_eq dc_X11_guard_100 (by rfl) (fun hc => ?_) (fun hc => ?_)
      · replace h := (if_neg hc).symm.trans h
        refine go_ops ok_X11_guard_105_3 (L' := [some (.inr 0), some (.inl x1), some (.inl x2), some (.inl x3), some (.inl x4), none, none, none]) (st' := [.inl x1, .inr 22]) (σ1 := q1.2) rfl ?_
        obtain ⟨v3, e4, h⟩ := bind_inv h
        refine go_rd (k := 22) dc_X11_guard_110 rfl e4 ?_
        refine go_ops ok_X11_guard_111_5 (L' := [some (.inr 0), some (.inl x1), some (.inl x2), some (.inl x3), some (.inl x4), none, none, some (.inl v3)]) (st' := [.inl x2, .inl x1, .inr 22]) (σ1 := q1.2) rfl ?_
        obtain ⟨s5, e6, h⟩ := bind_inv h
        refine go_wr (k := 22) dc_X11_guard_119 rfl e6 ?_
        refine go_ops ok_X11_guard_120_4 (L' := [some (.inr 0), some (.inl x1), some (.inl x2), some (.inl x3), some (.inl x4), none, none, some (.inl v3)]) (st' := [.inl x3, .inl x1, .inr 23]) (σ1 := s5) rfl ?_
        obtain ⟨s7, e8, h⟩ := bind_inv h
        refine go_wr (k := 23) dc_X11_guard_126 rfl e8 ?_
        refine go_ops ok_X11_guard_127_4 (L' := [some (.inr 0), some (.inl x1), some (.inl x2), some (.inl x3), some (.inl x4), none, none, some (.inl v3)]) (st' := [.inl x4, .inl x1, .inr 24]) (σ1 := s7) rfl ?_
        obtain ⟨s9, e10, h⟩ := bind_inv h
        refine go_wr (k := 24) dc_X11_guard_134 rfl e10 ?_
        obtain ⟨s11, e12, h⟩ := bnd_inv h
        refine go_ops ok_X11_guard_135_4 (L' := [some (.inr 0), some (.inl x1), some (.inl x2), some (.inl x3), some (.inl x4), none, none, some (.inl v3)]) (st' := [.inl v3]) (σ1 := s11) (by subst e12; rfl) ?_
        have h9 := Option.some.inj h
        subst h9
        exact go_iret dc_X11_guard_142 rfl
      · replace h := (if_pos hc).symm.trans h
        refine go_ops ok_X11_guard_103_1 (L' := [some (.inr 0), some (.inl x1), some (.inl x2), some (.inl x3), some (.inl x4), none, none, none]) (st' := [.inl 0]) (σ1 := q1.2) rfl ?_
        have h9 := Option.some.inj h
        subst h9
        exact go_iret dc_X11_guard_104 rfl
    have hB_X11_guard_75 : ∀ (x1 : Int) (x2 : Int) (x3 : Int) (x4 : Int) (x5 : Bool) (y0 : Bool) (σ : Sg), B_X11_guard_75 x1 x2 x3 x4 x5 y0 σ = some q → Go l m_X11_guard (d + 1) LAYM (.inl (some (.inl q.1))) q.2 75 [some (.inr 0), some (.inl x1), some (.inl x2), some (.inl x3), some (.inl x4), some (.inl (b2i x5)), none, none] [.inl (b2i y0)] σ := by
      intro x1 x2 x3 x4 x5 y0 σ h
      unfold B_X11_guard_75 at h
      refine go_ops ok_X11_guard_75_3 (L' := [some (.inr 0), some (.inl x1), some (.inl x2), some (.inl x3), some (.inl x4), some (.inl (b2i x5)), some (.inl (b2i y0)), none]) (st' := [.inl (b2i x5), .inr 0]) (σ1 := σ) rfl ?_
      refine go_ifb_ne dc_X11_guard_80 (by rfl) (fun hc => ?_) (fun hc => ?_)
      · replace h := (if_pos hc).symm.trans h
        refine go_ops ok_X11_guard_87_1 (L' := [some (.inr 0), some (.inl x1), some (.inl x2), some (.inl x3), some (.inl x4), some (.inl (b2i x5)), some (.inl (b2i y0)), none]) (st' := [.inl (b2i y0), .inr 0]) (σ1 := σ) rfl ?_
        refine go_ifb_eq dc_X11_guard_89 (by rfl) (fun hc => ?_) (fun hc => ?_)
        · replace h := (if_neg hc).symm.trans h
          refine go_ops ok_X11_guard_96_1 (L' := [some (.inr 0), some (.inl x1), some (.inl x2), some (.inl x3), some (.inl x4), some (.inl (b2i x5)), some (.inl (b2i y0)), none]) (st' := [.inl 2, .inr 0]) (σ1 := σ) rfl ?_
          refine go_wk (L' := [some (.inr 0), some (.inl x1), some (.inl x2), some (.inl x3), some (.inl x4), none, none, none]) ⟨rfl, rfl, rfl, rfl, rfl, trivial⟩ ?_
          exact hB_X11_guard_97 x1 x2 x3 x4 2 σ h
        · replace h := (if_pos hc).symm.trans h
          refine go_ops ok_X11_guard_92_1 (L' := [some (.inr 0), some (.inl x1), some (.inl x2), some (.inl x3), some (.inl x4), some (.inl (b2i x5)), some (.inl (b2i y0)), none]) (st' := [.inl 0, .inr 0]) (σ1 := σ) rfl ?_
          refine go_goto dc_X11_guard_93 (by rfl) ?_
          refine go_wk (L' := [some (.inr 0), some (.inl x1), some (.inl x2), some (.inl x3), some (.inl x4), none, none, none]) ⟨rfl, rfl, rfl, rfl, rfl, trivial⟩ ?_
          exact hB_X11_guard_97 x1 x2 x3 x4 0 σ h
      · replace h := (if_neg hc).symm.trans h
        refine go_ops ok_X11_guard_83_1 (L' := [some (.inr 0), some (.inl x1), some (.inl x2), some (.inl x3), some (.inl x4), some (.inl (b2i x5)), some (.inl (b2i y0)), none]) (st' := [.inl 1, .inr 0]) (σ1 := σ) rfl ?_
        refine go_goto dc_X11_guard_84 (by rfl) ?_
        refine go_wk (L' := [some (.inr 0), some (.inl x1), some (.inl x2), some (.inl x3), some (.inl x4), none, none, none]) ⟨rfl, rfl, rfl, rfl, rfl, trivial⟩ ?_
        exact hB_X11_guard_97 x1 x2 x3 x4 1 σ h
    have hB_X11_guard_74 : ∀ (x1 : Int) (x2 : Int) (x3 : Int) (x4 : Int) (x5 : Bool) (σ : Sg), B_X11_guard_74 x1 x2 x3 x4 x5 σ = some q → Go l m_X11_guard (d + 1) LAYM (.inl (some (.inl q.1))) q.2 74 [some (.inr 0), some (.inl x1), some (.inl x2), some (.inl x3), some (.inl x4), some (.inl (b2i x5)), none, none] [] σ := by
      intro x1 x2 x3 x4 x5 σ h
      unfold B_X11_guard_74 at h
      refine go_ops ok_X11_guard_74_1 (L' := [some (.inr 0), some (.inl x1), some (.inl x2), some (.inl x3), some (.inl x4), some (.inl (b2i x5)), none, none]) (st' := [.inl 0]) (σ1 := σ) rfl ?_
      exact hB_X11_guard_75 x1 x2 x3 x4 x5 false σ h
    have hB_X11_guard_70 : ∀ (x1 : Int) (x2 : Int) (x3 : Int) (x4 : Int) (x5 : Bool) (σ : Sg), B_X11_guard_70 x1 x2 x3 x4 x5 σ = some q → Go l m_X11_guard (d + 1) LAYM (.inl (some (.inl q.1))) q.2 70 [some (.inr 0), some (.inl x1), some (.inl x2), some (.inl x3), some (.inl x4), some (.inl (b2i x5)), none, none] [] σ := by
      intro x1 x2 x3 x4 x5 σ h
      unfold B_X11_guard_70 at h
      refine go_ops ok_X11_guard_70_1 (L' := [some (.inr 0), some (.inl x1), some (.inl x2), some (.inl x3), some (.inl x4), some (.inl (b2i x5)), none, none]) (st' := [.inl 1]) (σ1 := σ) rfl ?_
      refine go_goto dc_X11_guard_71 (by rfl) ?_
      exact hB_X11_guard_75 x1 x2 x3 x4 x5 true σ h
    have hB_X11_guard_31 : ∀ (x1 : Int) (x2 : Int) (x3 : Int) (x4 : Int) (y0 : Bool) (σ : Sg), B_X11_guard_31 x1 x2 x3 x4 y0 σ = some q → Go l m_X11_guard (d + 1) LAYM (.inl (some (.inl q.1))) q.2 31 [some (.inr 0), some (.inl x1), some (.inl x2), some (.inl x3), some (.inl x4), none, none, none] [.inl (b2i y0)] σ := by
      intro x1 x2 x3 x4 y0 σ h
      unfold B_X11_guard_31 at h
      refine go_ops ok_X11_guard_31_2 (L' := [some (.inr 0), some (.inl x1), some (.inl x2), some (.inl x3), some (.inl x4), some (.inl (b2i y0)), none, none]) (st' := [.inl (b2i y0)]) (σ1 := σ) rfl ?_
      refine go_ifb_eq dc_X11_guard_35 (by rfl) (fun hc => ?_) (fun hc => ?_)
      · replace h := (if_neg hc).symm.trans h
        exact hB_X11_guard_74 x1 x2 x3 x4 y0 σ h
      · replace h := (if_pos hc).symm.trans h
        refine go_ops ok_X11_guard_38_3 (L' := [some (.inr 0), some (.inl x1), some (.inl x2), some (.inl x3), some (.inl x4), some (.inl (b2i y0)), none, none]) (st' := [.inl 9, .inl 0, .inl x4]) (σ1 := σ) rfl ?_
        refine go_S (M1 := m_X11_in) (as := [.inl x4, .inl 0, .inl 9]) (st := []) dc_X11_guard_43 ln_11_171 sm_X11_in mk_X11_in rfl (Nat.le_of_ble_eq_true rfl) (Nat.le_refl _) (v := (some (.inl (b2i (F_X11_in x4 0 9))))) (σ1 := σ) (lk_X11_in l d (by omega) x4 0 9 σ _ rfl) _ rfl ?_
        refine go_ifb_eq dc_X11_guard_46 (by rfl) (fun hc => ?_) (fun hc => ?_)
        · replace h := (if_neg hc).symm.trans h
          exact hB_X11_guard_74 x1 x2 x3 x4 y0 σ h
        · replace h := (if_pos hc).symm.trans h
          refine go_ops ok_X11_guard_49_2 (L' := [some (.inr 0), some (.inl x1), some (.inl x2), some (.inl x3), some (.inl x4), some (.inl (b2i y0)), none, none]) (st' := [.inl (-1), .inl x2]) (σ1 := σ) rfl ?_
          refine go_icmp_ne dc_X11_guard_51 (by rfl) (fun hc => ?_) (fun hc => ?_)
          · replace h := (if_neg hc).symm.trans h
            refine go_ops ok_X11_guard_61_3 (L' := [some (.inr 0), some (.inl x1), some (.inl x2), some (.inl x3), some (.inl x4), some (.inl (b2i y0)), none, none]) (st' := [.inl x3, .inl x1, .inr 0]) (σ1 := σ) rfl ?_
            obtain ⟨q13, e14, h⟩ := bind_inv h
            refine go_V (M1 := m_X11_bindsNumber) (as := [.inl x1, .inl x3]) (st := []) (k := 0) (ci := 11) dc_X11_guard_64 ln_11_251 im_X11_bindsNumber (by decide) rfl rfl mk_X11_bindsNumber rfl (Nat.le_of_ble_eq_true rfl) (Nat.le_refl _) (v := (some (.inl (b2i q13.1)))) (σ1 := q13.2) (lk_X11_bindsNumber l d (by omega) x1 x3 σ q13 e14) _ rfl ?_
            refine go_ifb_eq dc_X11_guard_67 (by rfl) (fun hc => ?_) (fun hc => ?_)
            · replace h := (if_neg hc).symm.trans h
              exact hB_X11_guard_74 x1 x2 x3 x4 y0 q13.2 h
            · replace h := (if_pos hc).symm.trans h
              exact hB_X11_guard_70 x1 x2 x3 x4 y0 q13.2 h
          · replace h := (if_pos hc).symm.trans h
            refine go_ops ok_X11_guard_54_1 (L' := [some (.inr 0), some (.inl x1), some (.inl x2), some (.inl x3), some (.inl x4), some (.inl (b2i y0)), none, none]) (st' := [.inl x3]) (σ1 := σ) rfl ?_
            refine go_if_ne dc_X11_guard_55 (by rfl) (fun hc => ?_) (fun hc => ?_)
            · replace h := (if_neg hc).symm.trans h
              exact hB_X11_guard_74 x1 x2 x3 x4 y0 σ h
            · replace h := (if_pos hc).symm.trans h
              refine go_goto dc_X11_guard_58 (by rfl) ?_
              exact hB_X11_guard_70 x1 x2 x3 x4 y0 σ h
    have hB_X11_guard_30 : ∀ (x1 : Int) (x2 : Int) (x3 : Int) (x4 : Int) (σ : Sg), B_X11_guard_30 x1 x2 x3 x4 σ = some q → Go l m_X11_guard (d + 1) LAYM (.inl (some (.inl q.1))) q.2 30 [some (.inr 0), some (.inl x1), some (.inl x2), some (.inl x3), some (.inl x4), none, none, none] [] σ := by
      intro x1 x2 x3 x4 σ h
      unfold B_X11_guard_30 at h
      refine go_ops ok_X11_guard_30_1 (L' := [some (.inr 0), some (.inl x1), some (.inl x2), some (.inl x3), some (.inl x4), none, none, none]) (st' := [.inl 0]) (σ1 := σ) rfl ?_
      exact hB_X11_guard_31 x1 x2 x3 x4 false σ h
    refine go_ops ok_X11_guard_0_2 (L' := [some (.inr 0), some (.inl a1), some (.inl a2), some (.inl a3), some (.inl a4), none, none, none]) (st' := [.inl a1, .inr 0]) (σ1 := σ) rfl ?_
    refine go_V (M1 := m_X11_isCase) (as := [.inl a1]) (st := []) (k := 0) (ci := 11) dc_X11_guard_2 ln_11_248 im_X11_isCase (by decide) rfl rfl mk_X11_isCase rfl (Nat.le_of_ble_eq_true rfl) (Nat.le_refl _) (v := (some (.inl (b2i (F_X11_isCase a1 σ))))) (σ1 := σ) (lk_X11_isCase l d (by omega) a1 σ _ rfl) _ rfl ?_
    refine go_ifb_eq dc_X11_guard_5 (by rfl) (fun hc => ?_) (fun hc => ?_)
    · replace h := (if_neg hc).symm.trans h
      exact hB_X11_guard_30 a1 a2 a3 a4 σ h
    · replace h := (if_pos hc).symm.trans h
      refine go_ops ok_X11_guard_8_3 (L' := [some (.inr 0), some (.inl a1), some (.inl a2), some (.inl a3), some (.inl a4), none, none, none]) (st' := [.inl 3, .inl (-1), .inl a2]) (σ1 := σ) rfl ?_
      refine go_S (M1 := m_X11_in) (as := [.inl a2, .inl (-1), .inl 3]) (st := []) dc_X11_guard_11 ln_11_171 sm_X11_in mk_X11_in rfl (Nat.le_of_ble_eq_true rfl) (Nat.le_refl _) (v := (some (.inl (b2i (F_X11_in a2 (-1) 3))))) (σ1 := σ) (lk_X11_in l d (by omega) a2 (-1) 3 σ _ rfl) _ rfl ?_
      refine go_ifb_eq dc_X11_guard_14 (by rfl) (fun hc => ?_) (fun hc => ?_)
      · replace h := (if_neg hc).symm.trans h
        exact hB_X11_guard_30 a1 a2 a3 a4 σ h
      · replace h := (if_pos hc).symm.trans h
        refine go_ops ok_X11_guard_17_3 (L' := [some (.inr 0), some (.inl a1), some (.inl a2), some (.inl a3), some (.inl a4), none, none, none]) (st' := [.inl 5, .inl 0, .inl a3]) (σ1 := σ) rfl ?_
        refine go_S (M1 := m_X11_in) (as := [.inl a3, .inl 0, .inl 5]) (st := []) dc_X11_guard_20 ln_11_171 sm_X11_in mk_X11_in rfl (Nat.le_of_ble_eq_true rfl) (Nat.le_refl _) (v := (some (.inl (b2i (F_X11_in a3 0 5))))) (σ1 := σ) (lk_X11_in l d (by omega) a3 0 5 σ _ rfl) _ rfl ?_
        refine go_ifb_eq dc_X11_guard_23 (by rfl) (fun hc => ?_) (fun hc => ?_)
        · replace h := (if_neg hc).symm.trans h
          exact hB_X11_guard_30 a1 a2 a3 a4 σ h
        · replace h := (if_pos hc).symm.trans h
          refine go_ops ok_X11_guard_26_1 (L' := [some (.inr 0), some (.inl a1), some (.inl a2), some (.inl a3), some (.inl a4), none, none, none]) (st' := [.inl 1]) (σ1 := σ) rfl ?_
          refine go_goto dc_X11_guard_27 (by rfl) ?_
          exact hB_X11_guard_31 a1 a2 a3 a4 true σ h
  have hf := go_ct (as := [.inr 0, .inl a1, .inl a2, .inl a3, .inl a4]) mk_X11_guard (by rfl) (Nat.le_of_ble_eq_true rfl) key
  exact hf
theorem dc_X11_split_2 : decode m_X11_split.2.2.1 2 = .ok (.invokevirtual 248, 3) := by decide +kernel
theorem dc_X11_split_5 : decode m_X11_split.2.2.1 5 = .ok (.ifCond .eq 21, 3) := by decide +kernel
theorem dc_X11_split_16 : decode m_X11_split.2.2.1 16 = .ok (.invokestatic 171, 3) := by decide +kernel
theorem dc_X11_split_19 : decode m_X11_split.2.2.1 19 = .ok (.ifCond .eq 7, 3) := by decide +kernel
theorem dc_X11_split_23 : decode m_X11_split.2.2.1 23 = .ok (.goto 4, 3) := by decide +kernel
theorem dc_X11_split_29 : decode m_X11_split.2.2.1 29 = .ok (.ifCond .eq 16, 3) := by decide +kernel
theorem dc_X11_split_41 : decode m_X11_split.2.2.1 41 = .ok (.iaload, 1) := by decide +kernel
theorem dc_X11_split_42 : decode m_X11_split.2.2.1 42 = .ok (.goto 4, 3) := by decide +kernel
theorem dc_X11_split_49 : decode m_X11_split.2.2.1 49 = .ok (.ifCond .eq 47, 3) := by decide +kernel
theorem dc_X11_split_57 : decode m_X11_split.2.2.1 57 = .ok (.iaload, 1) := by decide +kernel
theorem dc_X11_split_59 : decode m_X11_split.2.2.1 59 = .ok (.if_icmp .ne 37, 3) := by decide +kernel
theorem dc_X11_split_68 : decode m_X11_split.2.2.1 68 = .ok (.iaload, 1) := by decide +kernel
theorem dc_X11_split_70 : decode m_X11_split.2.2.1 70 = .ok (.if_icmp .ne 26, 3) := by decide +kernel
theorem dc_X11_split_79 : decode m_X11_split.2.2.1 79 = .ok (.baload, 1) := by decide +kernel
theorem dc_X11_split_80 : decode m_X11_split.2.2.1 80 = .ok (.ifCond .ne 16, 3) := by decide +kernel
theorem dc_X11_split_89 : decode m_X11_split.2.2.1 89 = .ok (.if_icmp .ge 7, 3) := by decide +kernel
theorem dc_X11_split_93 : decode m_X11_split.2.2.1 93 = .ok (.goto 4, 3) := by decide +kernel
theorem dc_X11_split_101 : decode m_X11_split.2.2.1 101 = .ok (.ifCond .ne 7, 3) := by decide +kernel
theorem dc_X11_split_105 : decode m_X11_split.2.2.1 105 = .ok (.goto 13, 3) := by decide +kernel
theorem dc_X11_split_110 : decode m_X11_split.2.2.1 110 = .ok (.ifCond .eq 7, 3) := by decide +kernel
theorem dc_X11_split_114 : decode m_X11_split.2.2.1 114 = .ok (.goto 4, 3) := by decide +kernel
theorem dc_X11_split_118 : decode m_X11_split.2.2.1 118 = .ok (.invokevirtual 183, 3) := by decide +kernel
theorem dc_X11_split_121 : decode m_X11_split.2.2.1 121 = .ok (.ifCond .eq 5, 3) := by decide +kernel
theorem dc_X11_split_125 : decode m_X11_split.2.2.1 125 = .ok (.ireturn, 1) := by decide +kernel
theorem dc_X11_split_128 : decode m_X11_split.2.2.1 128 = .ok (.invokevirtual 244, 3) := by decide +kernel
theorem dc_X11_split_136 : decode m_X11_split.2.2.1 136 = .ok (.invokevirtual 240, 3) := by decide +kernel
theorem dc_X11_split_145 : decode m_X11_split.2.2.1 145 = .ok (.iastore, 1) := by decide +kernel
theorem dc_X11_split_154 : decode m_X11_split.2.2.1 154 = .ok (.iastore, 1) := by decide +kernel
theorem dc_X11_split_172 : decode m_X11_split.2.2.1 172 = .ok (.iaload, 1) := by decide +kernel
theorem dc_X11_split_173 : decode m_X11_split.2.2.1 173 = .ok (.iastore, 1) := by decide +kernel
theorem dc_X11_split_195 : decode m_X11_split.2.2.1 195 = .ok (.iaload, 1) := by decide +kernel
theorem dc_X11_split_196 : decode m_X11_split.2.2.1 196 = .ok (.iastore, 1) := by decide +kernel
theorem dc_X11_split_201 : decode m_X11_split.2.2.1 201 = .ok (.ireturn, 1) := by decide +kernel
theorem ok_X11_split_0_2 : oks m_X11_split.1 m_X11_split.2.2.1 0 [(.aload_n 0, 1, (0, 0, 0)), (.iload_n 1, 1, (0, 0, 0))] = true ∧ plen 0 [(.aload_n 0, 1, (0, 0, 0)), (.iload_n 1, 1, (0, 0, 0))] = 2 := by decide +kernel
theorem ok_X11_split_8_6 : oks m_X11_split.1 m_X11_split.2.2.1 8 [(.iload_n 2, 1, (0, 0, 0)), (.iconst 0, 1, (0, 0, 0)), (.aload_n 0, 1, (0, 0, 0)), (.getfield 231, 3, (11, 21, 0)), (.iconst 1, 1, (0, 0, 0)), (.isub, 1, (0, 0, 0))] = true ∧ plen 8 [(.iload_n 2, 1, (0, 0, 0)), (.iconst 0, 1, (0, 0, 0)), (.aload_n 0, 1, (0, 0, 0)), (.getfield 231, 3, (11, 21, 0)), (.iconst 1, 1, (0, 0, 0)), (.isub, 1, (0, 0, 0))] = 16 := by decide +kernel
theorem ok_X11_split_22_1 : oks m_X11_split.1 m_X11_split.2.2.1 22 [(.iconst 1, 1, (0, 0, 0))] = true ∧ plen 22 [(.iconst 1, 1, (0, 0, 0))] = 23 := by decide +kernel
theorem ok_X11_split_26_1 : oks m_X11_split.1 m_X11_split.2.2.1 26 [(.iconst 0, 1, (0, 0, 0))] = true ∧ plen 26 [(.iconst 0, 1, (0, 0, 0))] = 27 := by decide +kernel
theorem ok_X11_split_27_2 : oks m_X11_split.1 m_X11_split.2.2.1 27 [(.istore_n 3, 1, (0, 0, 0)), (.iload_n 3, 1, (0, 0, 0))] = true ∧ plen 27 [(.istore_n 3, 1, (0, 0, 0)), (.iload_n 3, 1, (0, 0, 0))] = 29 := by decide +kernel
theorem ok_X11_split_32_7 : oks m_X11_split.1 m_X11_split.2.2.1 32 [(.aload_n 0, 1, (0, 0, 0)), (.getfield 68, 3, (11, 24, 0)), (.iconst 3, 1, (0, 0, 0)), (.iload_n 1, 1, (0, 0, 0)), (.imul, 1, (0, 0, 0)), (.iload_n 2, 1, (0, 0, 0)), (.iadd, 1, (0, 0, 0))] = true ∧ plen 32 [(.aload_n 0, 1, (0, 0, 0)), (.getfield 68, 3, (11, 24, 0)), (.iconst 3, 1, (0, 0, 0)), (.iload_n 1, 1, (0, 0, 0)), (.imul, 1, (0, 0, 0)), (.iload_n 2, 1, (0, 0, 0)), (.iadd, 1, (0, 0, 0))] = 41 := by decide +kernel
theorem ok_X11_split_45_1 : oks m_X11_split.1 m_X11_split.2.2.1 45 [(.iconst 0, 1, (0, 0, 0))] = true ∧ plen 45 [(.iconst 0, 1, (0, 0, 0))] = 46 := by decide +kernel
theorem ok_X11_split_46_2 : oks m_X11_split.1 m_X11_split.2.2.1 46 [(.istore 4, 2, (0, 0, 0)), (.iload_n 3, 1, (0, 0, 0))] = true ∧ plen 46 [(.istore 4, 2, (0, 0, 0)), (.iload_n 3, 1, (0, 0, 0))] = 49 := by decide +kernel
theorem ok_X11_split_52_3 : oks m_X11_split.1 m_X11_split.2.2.1 52 [(.aload_n 0, 1, (0, 0, 0)), (.getfield 74, 3, (11, 26, 0)), (.iload_n 1, 1, (0, 0, 0))] = true ∧ plen 52 [(.aload_n 0, 1, (0, 0, 0)), (.getfield 74, 3, (11, 26, 0)), (.iload_n 1, 1, (0, 0, 0))] = 57 := by decide +kernel
theorem ok_X11_split_58_1 : oks m_X11_split.1 m_X11_split.2.2.1 58 [(.iconst (-1), 1, (0, 0, 0))] = true ∧ plen 58 [(.iconst (-1), 1, (0, 0, 0))] = 59 := by decide +kernel
theorem ok_X11_split_62_3 : oks m_X11_split.1 m_X11_split.2.2.1 62 [(.aload_n 0, 1, (0, 0, 0)), (.getfield 31, 3, (11, 10, 0)), (.iload 4, 2, (0, 0, 0))] = true ∧ plen 62 [(.aload_n 0, 1, (0, 0, 0)), (.getfield 31, 3, (11, 10, 0)), (.iload 4, 2, (0, 0, 0))] = 68 := by decide +kernel
theorem ok_X11_split_69_1 : oks m_X11_split.1 m_X11_split.2.2.1 69 [(.iconst 4, 1, (0, 0, 0))] = true ∧ plen 69 [(.iconst 4, 1, (0, 0, 0))] = 70 := by decide +kernel
theorem ok_X11_split_73_3 : oks m_X11_split.1 m_X11_split.2.2.1 73 [(.aload_n 0, 1, (0, 0, 0)), (.getfield 55, 3, (11, 18, 0)), (.iload 4, 2, (0, 0, 0))] = true ∧ plen 73 [(.aload_n 0, 1, (0, 0, 0)), (.getfield 55, 3, (11, 18, 0)), (.iload 4, 2, (0, 0, 0))] = 79 := by decide +kernel
theorem ok_X11_split_83_3 : oks m_X11_split.1 m_X11_split.2.2.1 83 [(.aload_n 0, 1, (0, 0, 0)), (.getfield 228, 3, (11, 23, 0)), (.bipush 8, 2, (0, 0, 0))] = true ∧ plen 83 [(.aload_n 0, 1, (0, 0, 0)), (.getfield 228, 3, (11, 23, 0)), (.bipush 8, 2, (0, 0, 0))] = 89 := by decide +kernel
theorem ok_X11_split_92_1 : oks m_X11_split.1 m_X11_split.2.2.1 92 [(.iconst 1, 1, (0, 0, 0))] = true ∧ plen 92 [(.iconst 1, 1, (0, 0, 0))] = 93 := by decide +kernel
theorem ok_X11_split_96_1 : oks m_X11_split.1 m_X11_split.2.2.1 96 [(.iconst 0, 1, (0, 0, 0))] = true ∧ plen 96 [(.iconst 0, 1, (0, 0, 0))] = 97 := by decide +kernel
theorem ok_X11_split_97_3 : oks m_X11_split.1 m_X11_split.2.2.1 97 [(.istore 5, 2, (0, 0, 0)), (.aload_n 0, 1, (0, 0, 0)), (.iload_n 3, 1, (0, 0, 0))] = true ∧ plen 97 [(.istore 5, 2, (0, 0, 0)), (.aload_n 0, 1, (0, 0, 0)), (.iload_n 3, 1, (0, 0, 0))] = 101 := by decide +kernel
theorem ok_X11_split_104_1 : oks m_X11_split.1 m_X11_split.2.2.1 104 [(.iconst 1, 1, (0, 0, 0))] = true ∧ plen 104 [(.iconst 1, 1, (0, 0, 0))] = 105 := by decide +kernel
theorem ok_X11_split_108_1 : oks m_X11_split.1 m_X11_split.2.2.1 108 [(.iload 5, 2, (0, 0, 0))] = true ∧ plen 108 [(.iload 5, 2, (0, 0, 0))] = 110 := by decide +kernel
theorem ok_X11_split_113_1 : oks m_X11_split.1 m_X11_split.2.2.1 113 [(.iconst 0, 1, (0, 0, 0))] = true ∧ plen 113 [(.iconst 0, 1, (0, 0, 0))] = 114 := by decide +kernel
theorem ok_X11_split_117_1 : oks m_X11_split.1 m_X11_split.2.2.1 117 [(.iconst 2, 1, (0, 0, 0))] = true ∧ plen 117 [(.iconst 2, 1, (0, 0, 0))] = 118 := by decide +kernel
theorem ok_X11_split_124_1 : oks m_X11_split.1 m_X11_split.2.2.1 124 [(.iconst 0, 1, (0, 0, 0))] = true ∧ plen 124 [(.iconst 0, 1, (0, 0, 0))] = 125 := by decide +kernel
theorem ok_X11_split_126_2 : oks m_X11_split.1 m_X11_split.2.2.1 126 [(.aload_n 0, 1, (0, 0, 0)), (.iload_n 1, 1, (0, 0, 0))] = true ∧ plen 126 [(.aload_n 0, 1, (0, 0, 0)), (.iload_n 1, 1, (0, 0, 0))] = 128 := by decide +kernel
theorem ok_X11_split_131_5 : oks m_X11_split.1 m_X11_split.2.2.1 131 [(.aload_n 0, 1, (0, 0, 0)), (.iload_n 1, 1, (0, 0, 0)), (.iconst 1, 1, (0, 0, 0)), (.iadd, 1, (0, 0, 0)), (.iload_n 1, 1, (0, 0, 0))] = true ∧ plen 131 [(.aload_n 0, 1, (0, 0, 0)), (.iload_n 1, 1, (0, 0, 0)), (.iconst 1, 1, (0, 0, 0)), (.iadd, 1, (0, 0, 0)), (.iload_n 1, 1, (0, 0, 0))] = 136 := by decide +kernel
theorem ok_X11_split_139_4 : oks m_X11_split.1 m_X11_split.2.2.1 139 [(.aload_n 0, 1, (0, 0, 0)), (.getfield 83, 3, (11, 29, 0)), (.iload_n 1, 1, (0, 0, 0)), (.iconst 0, 1, (0, 0, 0))] = true ∧ plen 139 [(.aload_n 0, 1, (0, 0, 0)), (.getfield 83, 3, (11, 29, 0)), (.iload_n 1, 1, (0, 0, 0)), (.iconst 0, 1, (0, 0, 0))] = 145 := by decide +kernel
theorem ok_X11_split_146_6 : oks m_X11_split.1 m_X11_split.2.2.1 146 [(.aload_n 0, 1, (0, 0, 0)), (.getfield 83, 3, (11, 29, 0)), (.iload_n 1, 1, (0, 0, 0)), (.iconst 1, 1, (0, 0, 0)), (.iadd, 1, (0, 0, 0)), (.iconst 0, 1, (0, 0, 0))] = true ∧ plen 146 [(.aload_n 0, 1, (0, 0, 0)), (.getfield 83, 3, (11, 29, 0)), (.iload_n 1, 1, (0, 0, 0)), (.iconst 1, 1, (0, 0, 0)), (.iadd, 1, (0, 0, 0)), (.iconst 0, 1, (0, 0, 0))] = 154 := by decide +kernel
theorem ok_X11_split_155_12 : oks m_X11_split.1 m_X11_split.2.2.1 155 [(.aload_n 0, 1, (0, 0, 0)), (.getfield 68, 3, (11, 24, 0)), (.iconst 3, 1, (0, 0, 0)), (.iload_n 1, 1, (0, 0, 0)), (.imul, 1, (0, 0, 0)), (.iload_n 2, 1, (0, 0, 0)), (.iadd, 1, (0, 0, 0)), (.aload_n 0, 1, (0, 0, 0)), (.getfield 40, 3, (11, 13, 0)), (.iconst 3, 1, (0, 0, 0)), (.iload 4, 2, (0, 0, 0)), (.imul, 1, (0, 0, 0))] = true ∧ plen 155 [(.aload_n 0, 1, (0, 0, 0)), (.getfield 68, 3, (11, 24, 0)), (.iconst 3, 1, (0, 0, 0)), (.iload_n 1, 1, (0, 0, 0)), (.imul, 1, (0, 0, 0)), (.iload_n 2, 1, (0, 0, 0)), (.iadd, 1, (0, 0, 0)), (.aload_n 0, 1, (0, 0, 0)), (.getfield 40, 3, (11, 13, 0)), (.iconst 3, 1, (0, 0, 0)), (.iload 4, 2, (0, 0, 0)), (.imul, 1, (0, 0, 0))] = 172 := by decide +kernel
theorem ok_X11_split_174_16 : oks m_X11_split.1 m_X11_split.2.2.1 174 [(.aload_n 0, 1, (0, 0, 0)), (.getfield 68, 3, (11, 24, 0)), (.iconst 3, 1, (0, 0, 0)), (.iload_n 1, 1, (0, 0, 0)), (.imul, 1, (0, 0, 0)), (.iconst 3, 1, (0, 0, 0)), (.iadd, 1, (0, 0, 0)), (.iload_n 2, 1, (0, 0, 0)), (.iadd, 1, (0, 0, 0)), (.aload_n 0, 1, (0, 0, 0)), (.getfield 40, 3, (11, 13, 0)), (.iconst 3, 1, (0, 0, 0)), (.iload 4, 2, (0, 0, 0)), (.imul, 1, (0, 0, 0)), (.iconst 1, 1, (0, 0, 0)), (.iadd, 1, (0, 0, 0))] = true ∧ plen 174 [(.aload_n 0, 1, (0, 0, 0)), (.getfield 68, 3, (11, 24, 0)), (.iconst 3, 1, (0, 0, 0)), (.iload_n 1, 1, (0, 0, 0)), (.imul, 1, (0, 0, 0)), (.iconst 3, 1, (0, 0, 0)), (.iadd, 1, (0, 0, 0)), (.iload_n 2, 1, (0, 0, 0)), (.iadd, 1, (0, 0, 0)), (.aload_n 0, 1, (0, 0, 0)), (.getfield 40, 3, (11, 13, 0)), (.iconst 3, 1, (0, 0, 0)), (.iload 4, 2, (0, 0, 0)), (.imul, 1, (0, 0, 0)), (.iconst 1, 1, (0, 0, 0)), (.iadd, 1, (0, 0, 0))] = 195 := by decide +kernel
theorem ok_X11_split_197_2 : oks m_X11_split.1 m_X11_split.2.2.1 197 [(.aload_n 0, 1, (0, 0, 0)), (.getfield 228, 3, (11, 23, 0))] = true ∧ plen 197 [(.aload_n 0, 1, (0, 0, 0)), (.getfield 228, 3, (11, 23, 0))] = 201 := by decide +kernel
def B_X11_split_118 (x1 : Int) (x2 : Int) (x4 : Int) (y0 : Int) (σ : Sg) : Option (Int × Sg) :=
bnd (F_X11_refused y0 σ) fun q1 =>
if q1.1 = true then
some (0, q1.2)
else
(F_X11_open x1 q1.2).bind fun q3 =>
(F_X11_copyCase (wrap (x1 + 1)) x1 q3).bind fun q5 =>
(wrn 8 q5 25 x1 0).bind fun s7 =>
(wrn 8 s7 25 (wrap (x1 + 1)) 0).bind fun s9 =>
(rdn 180 s9 11 (wrap (3 * x4))).bind fun v11 =>
(wrn 24 s9 20 (wrap ((wrap (3 * x1)) + x2)) v11).bind fun s13 =>
(rdn 180 s13 11 (wrap ((wrap (3 * x4)) + 1))).bind fun v15 =>
(wrn 24 s13 20 (wrap ((wrap ((wrap (3 * x1)) + 3)) + x2)) v15).bind fun s17 =>
some (s17 0 23, s17)
def B_X11_split_97 (x1 : Int) (x2 : Int) (x3 : Bool) (x4 : Int) (y0 : Bool) (σ : Sg) : Option (Int × Sg) :=
if x3 = true then
if y0 = true then
B_X11_split_118 x1 x2 x4 0 σ
else
B_X11_split_118 x1 x2 x4 2 σ
else
B_X11_split_118 x1 x2 x4 1 σ
def B_X11_split_96 (x1 : Int) (x2 : Int) (x3 : Bool) (x4 : Int) (σ : Sg) : Option (Int × Sg) :=
B_X11_split_97 x1 x2 x3 x4 false σ
def B_X11_split_46 (x1 : Int) (x2 : Int) (x3 : Bool) (y0 : Int) (σ : Sg) : Option (Int × Sg) :=
if x3 = true then
(rdn 8 σ 22 x1).bind fun v19 =>
if v19 = (-1) then
(rdn 60 σ 8 y0).bind fun v21 =>
if v21 = 4 then
(rdn 60 σ 16 y0).bind fun v23 =>
if v23 = 0 then
if 8 ≤ (σ 0 23) then
B_X11_split_96 x1 x2 x3 y0 σ
else
B_X11_split_97 x1 x2 x3 y0 true σ
else
B_X11_split_96 x1 x2 x3 y0 σ
else
B_X11_split_96 x1 x2 x3 y0 σ
else
B_X11_split_96 x1 x2 x3 y0 σ
else
B_X11_split_96 x1 x2 x3 y0 σ
def B_X11_split_27 (x1 : Int) (x2 : Int) (y0 : Bool) (σ : Sg) : Option (Int × Sg) :=
if y0 = true then
(rdn 24 σ 20 (wrap ((wrap (3 * x1)) + x2))).bind fun v25 =>
B_X11_split_46 x1 x2 y0 v25 σ
else
B_X11_split_46 x1 x2 y0 0 σ
def B_X11_split_26 (x1 : Int) (x2 : Int) (σ : Sg) : Option (Int × Sg) :=
B_X11_split_27 x1 x2 false σ
def F_X11_split (a1 : Int) (a2 : Int) (σ : Sg) : Option (Int × Sg) :=
if (F_X11_isCase a1 σ) = true then
if (F_X11_in a2 0 (wrap ((σ 0 21) - 1))) = true then
B_X11_split_27 a1 a2 true σ
else
B_X11_split_26 a1 a2 σ
else
B_X11_split_26 a1 a2 σ
theorem lk_X11_split (l : Launch) (d : Nat) (hd : 2 ≤ d) (a1 : Int) (a2 : Int) (σ : Sg) (q : (Int × Sg)) (h : F_X11_split a1 a2 σ = some q) : CT l d m_X11_split.2.1 m_X11_split.2.2.1 m_X11_split.2.2.2.1 m_X11_split.2.2.2.2 [.inr 0, .inl a1, .inl a2] (LAYM, σ) (some (.inl q.1)) (LAYM, q.2) := by
  obtain ⟨d, rfl⟩ : ∃ e, d = e + 1 := ⟨d - 1, by omega⟩
  have key : Go l m_X11_split (d + 1) LAYM (.inl (some (.inl q.1))) q.2 0 [some (.inr 0), some (.inl a1), some (.inl a2), none, none, none] [] σ := by
    unfold F_X11_split at h
    have hB_X11_split_118 : ∀ (x1 : Int) (x2 : Int) (x4 : Int) (y0 : Int) (σ : Sg), B_X11_split_118 x1 x2 x4 y0 σ = some q → Go l m_X11_split (d + 1) LAYM (.inl (some (.inl q.1))) q.2 118 [some (.inr 0), some (.inl x1), some (.inl x2), none, some (.inl x4), none] [.inl y0, .inr 0] σ := by
      intro x1 x2 x4 y0 σ h
      unfold B_X11_split_118 at h
      obtain ⟨q1, e2, h⟩ := bnd_inv h
      refine go_V (M1 := m_X11_refused) (as := [.inl y0]) (st := []) (k := 0) (ci := 11) dc_X11_split_118 ln_11_183 im_X11_refused (by decide) rfl rfl mk_X11_refused rfl (Nat.le_of_ble_eq_true rfl) (Nat.le_refl _) (v := (some (.inl (b2i q1.1)))) (σ1 := q1.2) (lk_X11_refused l d (by omega) y0 σ q1 e2.symm) _ rfl ?_
      refine go_ifb_eq dc_X11_split_121 (by rfl) (fun hc => ?_) (fun hc => ?_)
      · replace h := (if_neg hc).symm.trans h
        refine go_ops ok_X11_split_126_2 (L' := [some (.inr 0), some (.inl x1), some (.inl x2), none, some (.inl x4), none]) (st' := [.inl x1, .inr 0]) (σ1 := q1.2) rfl ?_
        obtain ⟨q3, e4, h⟩ := bind_inv h
        refine go_V (M1 := m_X11_open) (as := [.inl x1]) (st := []) (k := 0) (ci := 11) dc_X11_split_128 ln_11_244 im_X11_open (by decide) rfl rfl mk_X11_open rfl (Nat.le_of_ble_eq_true rfl) (Nat.le_refl _) (v := none) (σ1 := q3) (lk_X11_open l d (by omega) x1 q1.2 q3 e4) _ rfl ?_
        refine go_ops ok_X11_split_131_5 (L' := [some (.inr 0), some (.inl x1), some (.inl x2), none, some (.inl x4), none]) (st' := [.inl x1, .inl (wrap (x1 + 1)), .inr 0]) (σ1 := q3) rfl ?_
        obtain ⟨q5, e6, h⟩ := bind_inv h
        refine go_V (M1 := m_X11_copyCase) (as := [.inl (wrap (x1 + 1)), .inl x1]) (st := []) (k := 0) (ci := 11) dc_X11_split_136 ln_11_240 im_X11_copyCase (by decide) rfl rfl mk_X11_copyCase rfl (Nat.le_of_ble_eq_true rfl) (Nat.le_refl _) (v := none) (σ1 := q5) (lk_X11_copyCase l d (by omega) (wrap (x1 + 1)) x1 q3 q5 e6) _ rfl ?_
        refine go_ops ok_X11_split_139_4 (L' := [some (.inr 0), some (.inl x1), some (.inl x2), none, some (.inl x4), none]) (st' := [.inl 0, .inl x1, .inr 25]) (σ1 := q5) rfl ?_
        obtain ⟨s7, e8, h⟩ := bind_inv h
        refine go_wr (k := 25) dc_X11_split_145 rfl e8 ?_
        refine go_ops ok_X11_split_146_6 (L' := [some (.inr 0), some (.inl x1), some (.inl x2), none, some (.inl x4), none]) (st' := [.inl 0, .inl (wrap (x1 + 1)), .inr 25]) (σ1 := s7) rfl ?_
        obtain ⟨s9, e10, h⟩ := bind_inv h
        refine go_wr (k := 25) dc_X11_split_154 rfl e10 ?_
        refine go_ops ok_X11_split_155_12 (L' := [some (.inr 0), some (.inl x1), some (.inl x2), none, some (.inl x4), none]) (st' := [.inl (wrap (3 * x4)), .inr 11, .inl (wrap ((wrap (3 * x1)) + x2)), .inr 20]) (σ1 := s9) rfl ?_
        obtain ⟨v11, e12, h⟩ := bind_inv h
        refine go_rd (k := 11) dc_X11_split_172 rfl e12 ?_
        obtain ⟨s13, e14, h⟩ := bind_inv h
        refine go_wr (k := 20) dc_X11_split_173 rfl e14 ?_
        refine go_ops ok_X11_split_174_16 (L' := [some (.inr 0), some (.inl x1), some (.inl x2), none, some (.inl x4), none]) (st' := [.inl (wrap ((wrap (3 * x4)) + 1)), .inr 11, .inl (wrap ((wrap ((wrap (3 * x1)) + 3)) + x2)), .inr 20]) (σ1 := s13) rfl ?_
        obtain ⟨v15, e16, h⟩ := bind_inv h
        refine go_rd (k := 11) dc_X11_split_195 rfl e16 ?_
        obtain ⟨s17, e18, h⟩ := bind_inv h
        refine go_wr (k := 20) dc_X11_split_196 rfl e18 ?_
        refine go_ops ok_X11_split_197_2 (L' := [some (.inr 0), some (.inl x1), some (.inl x2), none, some (.inl x4), none]) (st' := [.inl (s17 0 23)]) (σ1 := s17) rfl ?_
        have h9 := Option.some.inj h
        subst h9
        exact go_iret dc_X11_split_201 rfl
      · replace h := (if_pos hc).symm.trans h
        refine go_ops ok_X11_split_124_1 (L' := [some (.inr 0), some (.inl x1), some (.inl x2), none, some (.inl x4), none]) (st' := [.inl 0]) (σ1 := q1.2) rfl ?_
        have h9 := Option.some.inj h
        subst h9
        exact go_iret dc_X11_split_125 rfl
    have hB_X11_split_97 : ∀ (x1 : Int) (x2 : Int) (x3 : Bool) (x4 : Int) (y0 : Bool) (σ : Sg), B_X11_split_97 x1 x2 x3 x4 y0 σ = some q → Go l m_X11_split (d + 1) LAYM (.inl (some (.inl q.1))) q.2 97 [some (.inr 0), some (.inl x1), some (.inl x2), some (.inl (b2i x3)), some (.inl x4), none] [.inl (b2i y0)] σ := by
      intro x1 x2 x3 x4 y0 σ h
      unfold B_X11_split_97 at h
      refine go_ops ok_X11_split_97_3 (L' := [some (.inr 0), some (.inl x1), some (.inl x2), some (.inl (b2i x3)), some (.inl x4), some (.inl (b2i y0))]) (st' := [.inl (b2i x3), .inr 0]) (σ1 := σ) rfl ?_
      refine go_ifb_ne dc_X11_split_101 (by rfl) (fun hc => ?_) (fun hc => ?_)
      · replace h := (if_pos hc).symm.trans h
        refine go_ops ok_X11_split_108_1 (L' := [some (.inr 0), some (.inl x1), some (.inl x2), some (.inl (b2i x3)), some (.inl x4), some (.inl (b2i y0))]) (st' := [.inl (b2i y0), .inr 0]) (σ1 := σ) rfl ?_
        refine go_ifb_eq dc_X11_split_110 (by rfl) (fun hc => ?_) (fun hc => ?_)
        · replace h := (if_neg hc).symm.trans h
          refine go_ops ok_X11_split_117_1 (L' := [some (.inr 0), some (.inl x1), some (.inl x2), some (.inl (b2i x3)), some (.inl x4), some (.inl (b2i y0))]) (st' := [.inl 2, .inr 0]) (σ1 := σ) rfl ?_
          refine go_wk (L' := [some (.inr 0), some (.inl x1), some (.inl x2), none, some (.inl x4), none]) ⟨rfl, rfl, rfl, rfl, trivial⟩ ?_
          exact hB_X11_split_118 x1 x2 x4 2 σ h
        · replace h := (if_pos hc).symm.trans h
          refine go_ops ok_X11_split_113_1 (L' := [some (.inr 0), some (.inl x1), some (.inl x2), some (.inl (b2i x3)), some (.inl x4), some (.inl (b2i y0))]) (st' := [.inl 0, .inr 0]) (σ1 := σ) rfl ?_
          refine go_goto dc_X11_split_114 (by rfl) ?_
          refine go_wk (L' := [some (.inr 0), some (.inl x1), some (.inl x2), none, some (.inl x4), none]) ⟨rfl, rfl, rfl, rfl, trivial⟩ ?_
          exact hB_X11_split_118 x1 x2 x4 0 σ h
      · replace h := (if_neg hc).symm.trans h
        refine go_ops ok_X11_split_104_1 (L' := [some (.inr 0), some (.inl x1), some (.inl x2), some (.inl (b2i x3)), some (.inl x4), some (.inl (b2i y0))]) (st' := [.inl 1, .inr 0]) (σ1 := σ) rfl ?_
        refine go_goto dc_X11_split_105 (by rfl) ?_
        refine go_wk (L' := [some (.inr 0), some (.inl x1), some (.inl x2), none, some (.inl x4), none]) ⟨rfl, rfl, rfl, rfl, trivial⟩ ?_
        exact hB_X11_split_118 x1 x2 x4 1 σ h
    have hB_X11_split_96 : ∀ (x1 : Int) (x2 : Int) (x3 : Bool) (x4 : Int) (σ : Sg), B_X11_split_96 x1 x2 x3 x4 σ = some q → Go l m_X11_split (d + 1) LAYM (.inl (some (.inl q.1))) q.2 96 [some (.inr 0), some (.inl x1), some (.inl x2), some (.inl (b2i x3)), some (.inl x4), none] [] σ := by
      intro x1 x2 x3 x4 σ h
      unfold B_X11_split_96 at h
      refine go_ops ok_X11_split_96_1 (L' := [some (.inr 0), some (.inl x1), some (.inl x2), some (.inl (b2i x3)), some (.inl x4), none]) (st' := [.inl 0]) (σ1 := σ) rfl ?_
      exact hB_X11_split_97 x1 x2 x3 x4 false σ h
    have hB_X11_split_46 : ∀ (x1 : Int) (x2 : Int) (x3 : Bool) (y0 : Int) (σ : Sg), B_X11_split_46 x1 x2 x3 y0 σ = some q → Go l m_X11_split (d + 1) LAYM (.inl (some (.inl q.1))) q.2 46 [some (.inr 0), some (.inl x1), some (.inl x2), some (.inl (b2i x3)), none, none] [.inl y0] σ := by
      intro x1 x2 x3 y0 σ h
      unfold B_X11_split_46 at h
      refine go_ops ok_X11_split_46_2 (L' := [some (.inr 0), some (.inl x1), some (.inl x2), some (.inl (b2i x3)), some (.inl y0), none]) (st' := [.inl (b2i x3)]) (σ1 := σ) rfl ?_
      refine go_ifb_eq dc_X11_split_49 (by rfl) (fun hc => ?_) (fun hc => ?_)
      · replace h := (if_neg hc).symm.trans h
        exact hB_X11_split_96 x1 x2 x3 y0 σ h
      · replace h := (if_pos hc).symm.trans h
        refine go_ops ok_X11_split_52_3 (L' := [some (.inr 0), some (.inl x1), some (.inl x2), some (.inl (b2i x3)), some (.inl y0), none]) (st' := [.inl x1, .inr 22]) (σ1 := σ) rfl ?_
        obtain ⟨v19, e20, h⟩ := bind_inv h
        refine go_rd (k := 22) dc_X11_split_57 rfl e20 ?_
        refine go_ops ok_X11_split_58_1 (L' := [some (.inr 0), some (.inl x1), some (.inl x2), some (.inl (b2i x3)), some (.inl y0), none]) (st' := [.inl (-1), .inl v19]) (σ1 := σ) rfl ?_
        refine go_icmp_ne dc_X11_split_59 (by rfl) (fun hc => ?_) (fun hc => ?_)
        · replace h := (if_neg hc).symm.trans h
          exact hB_X11_split_96 x1 x2 x3 y0 σ h
        · replace h := (if_pos hc).symm.trans h
          refine go_ops ok_X11_split_62_3 (L' := [some (.inr 0), some (.inl x1), some (.inl x2), some (.inl (b2i x3)), some (.inl y0), none]) (st' := [.inl y0, .inr 8]) (σ1 := σ) rfl ?_
          obtain ⟨v21, e22, h⟩ := bind_inv h
          refine go_rd (k := 8) dc_X11_split_68 rfl e22 ?_
          refine go_ops ok_X11_split_69_1 (L' := [some (.inr 0), some (.inl x1), some (.inl x2), some (.inl (b2i x3)), some (.inl y0), none]) (st' := [.inl 4, .inl v21]) (σ1 := σ) rfl ?_
          refine go_icmp_ne dc_X11_split_70 (by rfl) (fun hc => ?_) (fun hc => ?_)
          · replace h := (if_neg hc).symm.trans h
            exact hB_X11_split_96 x1 x2 x3 y0 σ h
          · replace h := (if_pos hc).symm.trans h
            refine go_ops ok_X11_split_73_3 (L' := [some (.inr 0), some (.inl x1), some (.inl x2), some (.inl (b2i x3)), some (.inl y0), none]) (st' := [.inl y0, .inr 16]) (σ1 := σ) rfl ?_
            obtain ⟨v23, e24, h⟩ := bind_inv h
            refine go_rdb (k := 16) dc_X11_split_79 rfl e24 ?_
            refine go_if_ne dc_X11_split_80 (by rfl) (fun hc => ?_) (fun hc => ?_)
            · replace h := (if_neg hc).symm.trans h
              exact hB_X11_split_96 x1 x2 x3 y0 σ h
            · replace h := (if_pos hc).symm.trans h
              refine go_ops ok_X11_split_83_3 (L' := [some (.inr 0), some (.inl x1), some (.inl x2), some (.inl (b2i x3)), some (.inl y0), none]) (st' := [.inl 8, .inl (σ 0 23)]) (σ1 := σ) rfl ?_
              refine go_icmp_ge dc_X11_split_89 (by rfl) (fun hc => ?_) (fun hc => ?_)
              · replace h := (if_pos hc).symm.trans h
                exact hB_X11_split_96 x1 x2 x3 y0 σ h
              · replace h := (if_neg hc).symm.trans h
                refine go_ops ok_X11_split_92_1 (L' := [some (.inr 0), some (.inl x1), some (.inl x2), some (.inl (b2i x3)), some (.inl y0), none]) (st' := [.inl 1]) (σ1 := σ) rfl ?_
                refine go_goto dc_X11_split_93 (by rfl) ?_
                exact hB_X11_split_97 x1 x2 x3 y0 true σ h
    have hB_X11_split_27 : ∀ (x1 : Int) (x2 : Int) (y0 : Bool) (σ : Sg), B_X11_split_27 x1 x2 y0 σ = some q → Go l m_X11_split (d + 1) LAYM (.inl (some (.inl q.1))) q.2 27 [some (.inr 0), some (.inl x1), some (.inl x2), none, none, none] [.inl (b2i y0)] σ := by
      intro x1 x2 y0 σ h
      unfold B_X11_split_27 at h
      refine go_ops ok_X11_split_27_2 (L' := [some (.inr 0), some (.inl x1), some (.inl x2), some (.inl (b2i y0)), none, none]) (st' := [.inl (b2i y0)]) (σ1 := σ) rfl ?_
      refine go_ifb_eq dc_X11_split_29 (by rfl) (fun hc => ?_) (fun hc => ?_)
      · replace h := (if_neg hc).symm.trans h
        refine go_ops ok_X11_split_45_1 (L' := [some (.inr 0), some (.inl x1), some (.inl x2), some (.inl (b2i y0)), none, none]) (st' := [.inl 0]) (σ1 := σ) rfl ?_
        exact hB_X11_split_46 x1 x2 y0 0 σ h
      · replace h := (if_pos hc).symm.trans h
        refine go_ops ok_X11_split_32_7 (L' := [some (.inr 0), some (.inl x1), some (.inl x2), some (.inl (b2i y0)), none, none]) (st' := [.inl (wrap ((wrap (3 * x1)) + x2)), .inr 20]) (σ1 := σ) rfl ?_
        obtain ⟨v25, e26, h⟩ := bind_inv h
        refine go_rd (k := 20) dc_X11_split_41 rfl e26 ?_
        refine go_goto dc_X11_split_42 (by rfl) ?_
        exact hB_X11_split_46 x1 x2 y0 v25 σ h
    have hB_X11_split_26 : ∀ (x1 : Int) (x2 : Int) (σ : Sg), B_X11_split_26 x1 x2 σ = some q → Go l m_X11_split (d + 1) LAYM (.inl (some (.inl q.1))) q.2 26 [some (.inr 0), some (.inl x1), some (.inl x2), none, none, none] [] σ := by
      intro x1 x2 σ h
      unfold B_X11_split_26 at h
      refine go_ops ok_X11_split_26_1 (L' := [some (.inr 0), some (.inl x1), some (.inl x2), none, none, none]) (st' := [.inl 0]) (σ1 := σ) rfl ?_
      exact hB_X11_split_27 x1 x2 false σ h
    refine go_ops ok_X11_split_0_2 (L' := [some (.inr 0), some (.inl a1), some (.inl a2), none, none, none]) (st' := [.inl a1, .inr 0]) (σ1 := σ) rfl ?_
    refine go_V (M1 := m_X11_isCase) (as := [.inl a1]) (st := []) (k := 0) (ci := 11) dc_X11_split_2 ln_11_248 im_X11_isCase (by decide) rfl rfl mk_X11_isCase rfl (Nat.le_of_ble_eq_true rfl) (Nat.le_refl _) (v := (some (.inl (b2i (F_X11_isCase a1 σ))))) (σ1 := σ) (lk_X11_isCase l d (by omega) a1 σ _ rfl) _ rfl ?_
    refine go_ifb_eq dc_X11_split_5 (by rfl) (fun hc => ?_) (fun hc => ?_)
    · replace h := (if_neg hc).symm.trans h
      exact hB_X11_split_26 a1 a2 σ h
    · replace h := (if_pos hc).symm.trans h
      refine go_ops ok_X11_split_8_6 (L' := [some (.inr 0), some (.inl a1), some (.inl a2), none, none, none]) (st' := [.inl (wrap ((σ 0 21) - 1)), .inl 0, .inl a2]) (σ1 := σ) rfl ?_
      refine go_S (M1 := m_X11_in) (as := [.inl a2, .inl 0, .inl (wrap ((σ 0 21) - 1))]) (st := []) dc_X11_split_16 ln_11_171 sm_X11_in mk_X11_in rfl (Nat.le_of_ble_eq_true rfl) (Nat.le_refl _) (v := (some (.inl (b2i (F_X11_in a2 0 (wrap ((σ 0 21) - 1))))))) (σ1 := σ) (lk_X11_in l d (by omega) a2 0 (wrap ((σ 0 21) - 1)) σ _ rfl) _ rfl ?_
      refine go_ifb_eq dc_X11_split_19 (by rfl) (fun hc => ?_) (fun hc => ?_)
      · replace h := (if_neg hc).symm.trans h
        exact hB_X11_split_26 a1 a2 σ h
      · replace h := (if_pos hc).symm.trans h
        refine go_ops ok_X11_split_22_1 (L' := [some (.inr 0), some (.inl a1), some (.inl a2), none, none, none]) (st' := [.inl 1]) (σ1 := σ) rfl ?_
        refine go_goto dc_X11_split_23 (by rfl) ?_
        exact hB_X11_split_27 a1 a2 true σ h
  have hf := go_ct (as := [.inr 0, .inl a1, .inl a2]) mk_X11_split (by rfl) (Nat.le_of_ble_eq_true rfl) key
  exact hf
theorem dc_X11_merge_8 : decode m_X11_merge.2.2.1 8 = .ok (.invokestatic 171, 3) := by decide +kernel
theorem dc_X11_merge_11 : decode m_X11_merge.2.2.1 11 = .ok (.ifCond .eq 21, 3) := by decide +kernel
theorem dc_X11_merge_22 : decode m_X11_merge.2.2.1 22 = .ok (.invokestatic 171, 3) := by decide +kernel
theorem dc_X11_merge_25 : decode m_X11_merge.2.2.1 25 = .ok (.ifCond .eq 7, 3) := by decide +kernel
theorem dc_X11_merge_29 : decode m_X11_merge.2.2.1 29 = .ok (.goto 4, 3) := by decide +kernel
theorem dc_X11_merge_35 : decode m_X11_merge.2.2.1 35 = .ok (.ifCond .eq 46, 3) := by decide +kernel
theorem dc_X11_merge_43 : decode m_X11_merge.2.2.1 43 = .ok (.iaload, 1) := by decide +kernel
theorem dc_X11_merge_45 : decode m_X11_merge.2.2.1 45 = .ok (.if_icmp .ne 36, 3) := by decide +kernel
theorem dc_X11_merge_55 : decode m_X11_merge.2.2.1 55 = .ok (.iaload, 1) := by decide +kernel
theorem dc_X11_merge_57 : decode m_X11_merge.2.2.1 57 = .ok (.if_icmp .ne 24, 3) := by decide +kernel
theorem dc_X11_merge_65 : decode m_X11_merge.2.2.1 65 = .ok (.iaload, 1) := by decide +kernel
theorem dc_X11_merge_73 : decode m_X11_merge.2.2.1 73 = .ok (.iaload, 1) := by decide +kernel
theorem dc_X11_merge_74 : decode m_X11_merge.2.2.1 74 = .ok (.if_icmp .ne 7, 3) := by decide +kernel
theorem dc_X11_merge_78 : decode m_X11_merge.2.2.1 78 = .ok (.goto 4, 3) := by decide +kernel
theorem dc_X11_merge_93 : decode m_X11_merge.2.2.1 93 = .ok (.if_icmp .ge 108, 3) := by decide +kernel
theorem dc_X11_merge_98 : decode m_X11_merge.2.2.1 98 = .ok (.ifCond .eq 103, 3) := by decide +kernel
theorem dc_X11_merge_111 : decode m_X11_merge.2.2.1 111 = .ok (.iaload, 1) := by decide +kernel
theorem dc_X11_merge_126 : decode m_X11_merge.2.2.1 126 = .ok (.iaload, 1) := by decide +kernel
theorem dc_X11_merge_132 : decode m_X11_merge.2.2.1 132 = .ok (.if_icmp .ne 49, 3) := by decide +kernel
theorem dc_X11_merge_141 : decode m_X11_merge.2.2.1 141 = .ok (.baload, 1) := by decide +kernel
theorem dc_X11_merge_142 : decode m_X11_merge.2.2.1 142 = .ok (.ifCond .ne 35, 3) := by decide +kernel
theorem dc_X11_merge_151 : decode m_X11_merge.2.2.1 151 = .ok (.baload, 1) := by decide +kernel
theorem dc_X11_merge_152 : decode m_X11_merge.2.2.1 152 = .ok (.ifCond .ne 25, 3) := by decide +kernel
theorem dc_X11_merge_160 : decode m_X11_merge.2.2.1 160 = .ok (.invokevirtual 221, 3) := by decide +kernel
theorem dc_X11_merge_163 : decode m_X11_merge.2.2.1 163 = .ok (.ifCond .eq 14, 3) := by decide +kernel
theorem dc_X11_merge_167 : decode m_X11_merge.2.2.1 167 = .ok (.invokevirtual 204, 3) := by decide +kernel
theorem dc_X11_merge_170 : decode m_X11_merge.2.2.1 170 = .ok (.ifCond .ne 7, 3) := by decide +kernel
theorem dc_X11_merge_174 : decode m_X11_merge.2.2.1 174 = .ok (.goto 19, 3) := by decide +kernel
theorem dc_X11_merge_178 : decode m_X11_merge.2.2.1 178 = .ok (.goto 15, 3) := by decide +kernel
theorem dc_X11_merge_185 : decode m_X11_merge.2.2.1 185 = .ok (.if_icmp .ne 7, 3) := by decide +kernel
theorem dc_X11_merge_189 : decode m_X11_merge.2.2.1 189 = .ok (.goto 4, 3) := by decide +kernel
theorem dc_X11_merge_198 : decode m_X11_merge.2.2.1 198 = .ok (.goto (-111), 3) := by decide +kernel
theorem dc_X11_merge_203 : decode m_X11_merge.2.2.1 203 = .ok (.ifCond .ne 7, 3) := by decide +kernel
theorem dc_X11_merge_207 : decode m_X11_merge.2.2.1 207 = .ok (.goto 13, 3) := by decide +kernel
theorem dc_X11_merge_212 : decode m_X11_merge.2.2.1 212 = .ok (.ifCond .eq 7, 3) := by decide +kernel
theorem dc_X11_merge_216 : decode m_X11_merge.2.2.1 216 = .ok (.goto 4, 3) := by decide +kernel
theorem dc_X11_merge_220 : decode m_X11_merge.2.2.1 220 = .ok (.invokevirtual 183, 3) := by decide +kernel
theorem dc_X11_merge_223 : decode m_X11_merge.2.2.1 223 = .ok (.ifCond .eq 5, 3) := by decide +kernel
theorem dc_X11_merge_227 : decode m_X11_merge.2.2.1 227 = .ok (.ireturn, 1) := by decide +kernel
theorem dc_X11_merge_247 : decode m_X11_merge.2.2.1 247 = .ok (.iaload, 1) := by decide +kernel
theorem dc_X11_merge_259 : decode m_X11_merge.2.2.1 259 = .ok (.iaload, 1) := by decide +kernel
theorem dc_X11_merge_260 : decode m_X11_merge.2.2.1 260 = .ok (.invokevirtual 224, 3) := by decide +kernel
theorem dc_X11_merge_263 : decode m_X11_merge.2.2.1 263 = .ok (.iastore, 1) := by decide +kernel
theorem dc_X11_merge_270 : decode m_X11_merge.2.2.1 270 = .ok (.iastore, 1) := by decide +kernel
theorem dc_X11_merge_284 : decode m_X11_merge.2.2.1 284 = .ok (.if_icmp .ge 19, 3) := by decide +kernel
theorem dc_X11_merge_294 : decode m_X11_merge.2.2.1 294 = .ok (.invokevirtual 240, 3) := by decide +kernel
theorem dc_X11_merge_300 : decode m_X11_merge.2.2.1 300 = .ok (.goto (-24), 3) := by decide +kernel
theorem dc_X11_merge_322 : decode m_X11_merge.2.2.1 322 = .ok (.ireturn, 1) := by decide +kernel
theorem ok_X11_merge_0_6 : oks m_X11_merge.1 m_X11_merge.2.2.1 0 [(.iload_n 1, 1, (0, 0, 0)), (.iconst 0, 1, (0, 0, 0)), (.aload_n 0, 1, (0, 0, 0)), (.getfield 228, 3, (11, 23, 0)), (.iconst 2, 1, (0, 0, 0)), (.isub, 1, (0, 0, 0))] = true ∧ plen 0 [(.iload_n 1, 1, (0, 0, 0)), (.iconst 0, 1, (0, 0, 0)), (.aload_n 0, 1, (0, 0, 0)), (.getfield 228, 3, (11, 23, 0)), (.iconst 2, 1, (0, 0, 0)), (.isub, 1, (0, 0, 0))] = 8 := by decide +kernel
theorem ok_X11_merge_14_6 : oks m_X11_merge.1 m_X11_merge.2.2.1 14 [(.iload_n 2, 1, (0, 0, 0)), (.iconst 0, 1, (0, 0, 0)), (.aload_n 0, 1, (0, 0, 0)), (.getfield 231, 3, (11, 21, 0)), (.iconst 1, 1, (0, 0, 0)), (.isub, 1, (0, 0, 0))] = true ∧ plen 14 [(.iload_n 2, 1, (0, 0, 0)), (.iconst 0, 1, (0, 0, 0)), (.aload_n 0, 1, (0, 0, 0)), (.getfield 231, 3, (11, 21, 0)), (.iconst 1, 1, (0, 0, 0)), (.isub, 1, (0, 0, 0))] = 22 := by decide +kernel
theorem ok_X11_merge_28_1 : oks m_X11_merge.1 m_X11_merge.2.2.1 28 [(.iconst 1, 1, (0, 0, 0))] = true ∧ plen 28 [(.iconst 1, 1, (0, 0, 0))] = 29 := by decide +kernel
theorem ok_X11_merge_32_1 : oks m_X11_merge.1 m_X11_merge.2.2.1 32 [(.iconst 0, 1, (0, 0, 0))] = true ∧ plen 32 [(.iconst 0, 1, (0, 0, 0))] = 33 := by decide +kernel
theorem ok_X11_merge_33_2 : oks m_X11_merge.1 m_X11_merge.2.2.1 33 [(.istore_n 3, 1, (0, 0, 0)), (.iload_n 3, 1, (0, 0, 0))] = true ∧ plen 33 [(.istore_n 3, 1, (0, 0, 0)), (.iload_n 3, 1, (0, 0, 0))] = 35 := by decide +kernel
theorem ok_X11_merge_38_3 : oks m_X11_merge.1 m_X11_merge.2.2.1 38 [(.aload_n 0, 1, (0, 0, 0)), (.getfield 74, 3, (11, 26, 0)), (.iload_n 1, 1, (0, 0, 0))] = true ∧ plen 38 [(.aload_n 0, 1, (0, 0, 0)), (.getfield 74, 3, (11, 26, 0)), (.iload_n 1, 1, (0, 0, 0))] = 43 := by decide +kernel
theorem ok_X11_merge_44_1 : oks m_X11_merge.1 m_X11_merge.2.2.1 44 [(.iconst (-1), 1, (0, 0, 0))] = true ∧ plen 44 [(.iconst (-1), 1, (0, 0, 0))] = 45 := by decide +kernel
theorem ok_X11_merge_48_5 : oks m_X11_merge.1 m_X11_merge.2.2.1 48 [(.aload_n 0, 1, (0, 0, 0)), (.getfield 74, 3, (11, 26, 0)), (.iload_n 1, 1, (0, 0, 0)), (.iconst 1, 1, (0, 0, 0)), (.iadd, 1, (0, 0, 0))] = true ∧ plen 48 [(.aload_n 0, 1, (0, 0, 0)), (.getfield 74, 3, (11, 26, 0)), (.iload_n 1, 1, (0, 0, 0)), (.iconst 1, 1, (0, 0, 0)), (.iadd, 1, (0, 0, 0))] = 55 := by decide +kernel
theorem ok_X11_merge_56_1 : oks m_X11_merge.1 m_X11_merge.2.2.1 56 [(.iconst (-1), 1, (0, 0, 0))] = true ∧ plen 56 [(.iconst (-1), 1, (0, 0, 0))] = 57 := by decide +kernel
theorem ok_X11_merge_60_3 : oks m_X11_merge.1 m_X11_merge.2.2.1 60 [(.aload_n 0, 1, (0, 0, 0)), (.getfield 71, 3, (11, 25, 0)), (.iload_n 1, 1, (0, 0, 0))] = true ∧ plen 60 [(.aload_n 0, 1, (0, 0, 0)), (.getfield 71, 3, (11, 25, 0)), (.iload_n 1, 1, (0, 0, 0))] = 65 := by decide +kernel
theorem ok_X11_merge_66_5 : oks m_X11_merge.1 m_X11_merge.2.2.1 66 [(.aload_n 0, 1, (0, 0, 0)), (.getfield 71, 3, (11, 25, 0)), (.iload_n 1, 1, (0, 0, 0)), (.iconst 1, 1, (0, 0, 0)), (.iadd, 1, (0, 0, 0))] = true ∧ plen 66 [(.aload_n 0, 1, (0, 0, 0)), (.getfield 71, 3, (11, 25, 0)), (.iload_n 1, 1, (0, 0, 0)), (.iconst 1, 1, (0, 0, 0)), (.iadd, 1, (0, 0, 0))] = 73 := by decide +kernel
theorem ok_X11_merge_77_1 : oks m_X11_merge.1 m_X11_merge.2.2.1 77 [(.iconst 1, 1, (0, 0, 0))] = true ∧ plen 77 [(.iconst 1, 1, (0, 0, 0))] = 78 := by decide +kernel
theorem ok_X11_merge_81_1 : oks m_X11_merge.1 m_X11_merge.2.2.1 81 [(.iconst 0, 1, (0, 0, 0))] = true ∧ plen 81 [(.iconst 0, 1, (0, 0, 0))] = 82 := by decide +kernel
theorem ok_X11_merge_82_3 : oks m_X11_merge.1 m_X11_merge.2.2.1 82 [(.istore 4, 2, (0, 0, 0)), (.iconst 0, 1, (0, 0, 0)), (.istore 5, 2, (0, 0, 0))] = true ∧ plen 82 [(.istore 4, 2, (0, 0, 0)), (.iconst 0, 1, (0, 0, 0)), (.istore 5, 2, (0, 0, 0))] = 87 := by decide +kernel
theorem ok_X11_merge_87_3 : oks m_X11_merge.1 m_X11_merge.2.2.1 87 [(.iload 5, 2, (0, 0, 0)), (.aload_n 0, 1, (0, 0, 0)), (.getfield 231, 3, (11, 21, 0))] = true ∧ plen 87 [(.iload 5, 2, (0, 0, 0)), (.aload_n 0, 1, (0, 0, 0)), (.getfield 231, 3, (11, 21, 0))] = 93 := by decide +kernel
theorem ok_X11_merge_96_1 : oks m_X11_merge.1 m_X11_merge.2.2.1 96 [(.iload 4, 2, (0, 0, 0))] = true ∧ plen 96 [(.iload 4, 2, (0, 0, 0))] = 98 := by decide +kernel
theorem ok_X11_merge_101_7 : oks m_X11_merge.1 m_X11_merge.2.2.1 101 [(.aload_n 0, 1, (0, 0, 0)), (.getfield 68, 3, (11, 24, 0)), (.iconst 3, 1, (0, 0, 0)), (.iload_n 1, 1, (0, 0, 0)), (.imul, 1, (0, 0, 0)), (.iload 5, 2, (0, 0, 0)), (.iadd, 1, (0, 0, 0))] = true ∧ plen 101 [(.aload_n 0, 1, (0, 0, 0)), (.getfield 68, 3, (11, 24, 0)), (.iconst 3, 1, (0, 0, 0)), (.iload_n 1, 1, (0, 0, 0)), (.imul, 1, (0, 0, 0)), (.iload 5, 2, (0, 0, 0)), (.iadd, 1, (0, 0, 0))] = 111 := by decide +kernel
theorem ok_X11_merge_112_10 : oks m_X11_merge.1 m_X11_merge.2.2.1 112 [(.istore 6, 2, (0, 0, 0)), (.aload_n 0, 1, (0, 0, 0)), (.getfield 68, 3, (11, 24, 0)), (.iconst 3, 1, (0, 0, 0)), (.iload_n 1, 1, (0, 0, 0)), (.imul, 1, (0, 0, 0)), (.iconst 3, 1, (0, 0, 0)), (.iadd, 1, (0, 0, 0)), (.iload 5, 2, (0, 0, 0)), (.iadd, 1, (0, 0, 0))] = true ∧ plen 112 [(.istore 6, 2, (0, 0, 0)), (.aload_n 0, 1, (0, 0, 0)), (.getfield 68, 3, (11, 24, 0)), (.iconst 3, 1, (0, 0, 0)), (.iload_n 1, 1, (0, 0, 0)), (.imul, 1, (0, 0, 0)), (.iconst 3, 1, (0, 0, 0)), (.iadd, 1, (0, 0, 0)), (.iload 5, 2, (0, 0, 0)), (.iadd, 1, (0, 0, 0))] = 126 := by decide +kernel
theorem ok_X11_merge_127_3 : oks m_X11_merge.1 m_X11_merge.2.2.1 127 [(.istore 7, 2, (0, 0, 0)), (.iload 5, 2, (0, 0, 0)), (.iload_n 2, 1, (0, 0, 0))] = true ∧ plen 127 [(.istore 7, 2, (0, 0, 0)), (.iload 5, 2, (0, 0, 0)), (.iload_n 2, 1, (0, 0, 0))] = 132 := by decide +kernel
theorem ok_X11_merge_135_3 : oks m_X11_merge.1 m_X11_merge.2.2.1 135 [(.aload_n 0, 1, (0, 0, 0)), (.getfield 55, 3, (11, 18, 0)), (.iload 6, 2, (0, 0, 0))] = true ∧ plen 135 [(.aload_n 0, 1, (0, 0, 0)), (.getfield 55, 3, (11, 18, 0)), (.iload 6, 2, (0, 0, 0))] = 141 := by decide +kernel
theorem ok_X11_merge_145_3 : oks m_X11_merge.1 m_X11_merge.2.2.1 145 [(.aload_n 0, 1, (0, 0, 0)), (.getfield 55, 3, (11, 18, 0)), (.iload 7, 2, (0, 0, 0))] = true ∧ plen 145 [(.aload_n 0, 1, (0, 0, 0)), (.getfield 55, 3, (11, 18, 0)), (.iload 7, 2, (0, 0, 0))] = 151 := by decide +kernel
theorem ok_X11_merge_155_3 : oks m_X11_merge.1 m_X11_merge.2.2.1 155 [(.aload_n 0, 1, (0, 0, 0)), (.iload 6, 2, (0, 0, 0)), (.iload 7, 2, (0, 0, 0))] = true ∧ plen 155 [(.aload_n 0, 1, (0, 0, 0)), (.iload 6, 2, (0, 0, 0)), (.iload 7, 2, (0, 0, 0))] = 160 := by decide +kernel
theorem ok_X11_merge_166_1 : oks m_X11_merge.1 m_X11_merge.2.2.1 166 [(.aload_n 0, 1, (0, 0, 0))] = true ∧ plen 166 [(.aload_n 0, 1, (0, 0, 0))] = 167 := by decide +kernel
theorem ok_X11_merge_173_1 : oks m_X11_merge.1 m_X11_merge.2.2.1 173 [(.iconst 1, 1, (0, 0, 0))] = true ∧ plen 173 [(.iconst 1, 1, (0, 0, 0))] = 174 := by decide +kernel
theorem ok_X11_merge_177_1 : oks m_X11_merge.1 m_X11_merge.2.2.1 177 [(.iconst 0, 1, (0, 0, 0))] = true ∧ plen 177 [(.iconst 0, 1, (0, 0, 0))] = 178 := by decide +kernel
theorem ok_X11_merge_181_2 : oks m_X11_merge.1 m_X11_merge.2.2.1 181 [(.iload 6, 2, (0, 0, 0)), (.iload 7, 2, (0, 0, 0))] = true ∧ plen 181 [(.iload 6, 2, (0, 0, 0)), (.iload 7, 2, (0, 0, 0))] = 185 := by decide +kernel
theorem ok_X11_merge_188_1 : oks m_X11_merge.1 m_X11_merge.2.2.1 188 [(.iconst 1, 1, (0, 0, 0))] = true ∧ plen 188 [(.iconst 1, 1, (0, 0, 0))] = 189 := by decide +kernel
theorem ok_X11_merge_192_1 : oks m_X11_merge.1 m_X11_merge.2.2.1 192 [(.iconst 0, 1, (0, 0, 0))] = true ∧ plen 192 [(.iconst 0, 1, (0, 0, 0))] = 193 := by decide +kernel
theorem ok_X11_merge_193_2 : oks m_X11_merge.1 m_X11_merge.2.2.1 193 [(.istore 4, 2, (0, 0, 0)), (.iinc 5 1, 3, (0, 0, 0))] = true ∧ plen 193 [(.istore 4, 2, (0, 0, 0)), (.iinc 5 1, 3, (0, 0, 0))] = 198 := by decide +kernel
theorem ok_X11_merge_201_2 : oks m_X11_merge.1 m_X11_merge.2.2.1 201 [(.aload_n 0, 1, (0, 0, 0)), (.iload_n 3, 1, (0, 0, 0))] = true ∧ plen 201 [(.aload_n 0, 1, (0, 0, 0)), (.iload_n 3, 1, (0, 0, 0))] = 203 := by decide +kernel
theorem ok_X11_merge_206_1 : oks m_X11_merge.1 m_X11_merge.2.2.1 206 [(.iconst 1, 1, (0, 0, 0))] = true ∧ plen 206 [(.iconst 1, 1, (0, 0, 0))] = 207 := by decide +kernel
theorem ok_X11_merge_210_1 : oks m_X11_merge.1 m_X11_merge.2.2.1 210 [(.iload 4, 2, (0, 0, 0))] = true ∧ plen 210 [(.iload 4, 2, (0, 0, 0))] = 212 := by decide +kernel
theorem ok_X11_merge_215_1 : oks m_X11_merge.1 m_X11_merge.2.2.1 215 [(.iconst 0, 1, (0, 0, 0))] = true ∧ plen 215 [(.iconst 0, 1, (0, 0, 0))] = 216 := by decide +kernel
theorem ok_X11_merge_219_1 : oks m_X11_merge.1 m_X11_merge.2.2.1 219 [(.iconst 2, 1, (0, 0, 0))] = true ∧ plen 219 [(.iconst 2, 1, (0, 0, 0))] = 220 := by decide +kernel
theorem ok_X11_merge_226_1 : oks m_X11_merge.1 m_X11_merge.2.2.1 226 [(.iconst 0, 1, (0, 0, 0))] = true ∧ plen 226 [(.iconst 0, 1, (0, 0, 0))] = 227 := by decide +kernel
theorem ok_X11_merge_228_15 : oks m_X11_merge.1 m_X11_merge.2.2.1 228 [(.aload_n 0, 1, (0, 0, 0)), (.getfield 68, 3, (11, 24, 0)), (.iconst 3, 1, (0, 0, 0)), (.iload_n 1, 1, (0, 0, 0)), (.imul, 1, (0, 0, 0)), (.iload_n 2, 1, (0, 0, 0)), (.iadd, 1, (0, 0, 0)), (.aload_n 0, 1, (0, 0, 0)), (.aload_n 0, 1, (0, 0, 0)), (.getfield 68, 3, (11, 24, 0)), (.iconst 3, 1, (0, 0, 0)), (.iload_n 1, 1, (0, 0, 0)), (.imul, 1, (0, 0, 0)), (.iload_n 2, 1, (0, 0, 0)), (.iadd, 1, (0, 0, 0))] = true ∧ plen 228 [(.aload_n 0, 1, (0, 0, 0)), (.getfield 68, 3, (11, 24, 0)), (.iconst 3, 1, (0, 0, 0)), (.iload_n 1, 1, (0, 0, 0)), (.imul, 1, (0, 0, 0)), (.iload_n 2, 1, (0, 0, 0)), (.iadd, 1, (0, 0, 0)), (.aload_n 0, 1, (0, 0, 0)), (.aload_n 0, 1, (0, 0, 0)), (.getfield 68, 3, (11, 24, 0)), (.iconst 3, 1, (0, 0, 0)), (.iload_n 1, 1, (0, 0, 0)), (.imul, 1, (0, 0, 0)), (.iload_n 2, 1, (0, 0, 0)), (.iadd, 1, (0, 0, 0))] = 247 := by decide +kernel
theorem ok_X11_merge_248_9 : oks m_X11_merge.1 m_X11_merge.2.2.1 248 [(.aload_n 0, 1, (0, 0, 0)), (.getfield 68, 3, (11, 24, 0)), (.iconst 3, 1, (0, 0, 0)), (.iload_n 1, 1, (0, 0, 0)), (.imul, 1, (0, 0, 0)), (.iconst 3, 1, (0, 0, 0)), (.iadd, 1, (0, 0, 0)), (.iload_n 2, 1, (0, 0, 0)), (.iadd, 1, (0, 0, 0))] = true ∧ plen 248 [(.aload_n 0, 1, (0, 0, 0)), (.getfield 68, 3, (11, 24, 0)), (.iconst 3, 1, (0, 0, 0)), (.iload_n 1, 1, (0, 0, 0)), (.imul, 1, (0, 0, 0)), (.iconst 3, 1, (0, 0, 0)), (.iadd, 1, (0, 0, 0)), (.iload_n 2, 1, (0, 0, 0)), (.iadd, 1, (0, 0, 0))] = 259 := by decide +kernel
theorem ok_X11_merge_264_4 : oks m_X11_merge.1 m_X11_merge.2.2.1 264 [(.aload_n 0, 1, (0, 0, 0)), (.getfield 83, 3, (11, 29, 0)), (.iload_n 1, 1, (0, 0, 0)), (.iconst 0, 1, (0, 0, 0))] = true ∧ plen 264 [(.aload_n 0, 1, (0, 0, 0)), (.getfield 83, 3, (11, 29, 0)), (.iload_n 1, 1, (0, 0, 0)), (.iconst 0, 1, (0, 0, 0))] = 270 := by decide +kernel
theorem ok_X11_merge_271_4 : oks m_X11_merge.1 m_X11_merge.2.2.1 271 [(.iload_n 1, 1, (0, 0, 0)), (.iconst 1, 1, (0, 0, 0)), (.iadd, 1, (0, 0, 0)), (.istore 5, 2, (0, 0, 0))] = true ∧ plen 271 [(.iload_n 1, 1, (0, 0, 0)), (.iconst 1, 1, (0, 0, 0)), (.iadd, 1, (0, 0, 0)), (.istore 5, 2, (0, 0, 0))] = 276 := by decide +kernel
theorem ok_X11_merge_276_5 : oks m_X11_merge.1 m_X11_merge.2.2.1 276 [(.iload 5, 2, (0, 0, 0)), (.aload_n 0, 1, (0, 0, 0)), (.getfield 228, 3, (11, 23, 0)), (.iconst 1, 1, (0, 0, 0)), (.isub, 1, (0, 0, 0))] = true ∧ plen 276 [(.iload 5, 2, (0, 0, 0)), (.aload_n 0, 1, (0, 0, 0)), (.getfield 228, 3, (11, 23, 0)), (.iconst 1, 1, (0, 0, 0)), (.isub, 1, (0, 0, 0))] = 284 := by decide +kernel
theorem ok_X11_merge_287_5 : oks m_X11_merge.1 m_X11_merge.2.2.1 287 [(.aload_n 0, 1, (0, 0, 0)), (.iload 5, 2, (0, 0, 0)), (.iconst 1, 1, (0, 0, 0)), (.iadd, 1, (0, 0, 0)), (.iload 5, 2, (0, 0, 0))] = true ∧ plen 287 [(.aload_n 0, 1, (0, 0, 0)), (.iload 5, 2, (0, 0, 0)), (.iconst 1, 1, (0, 0, 0)), (.iadd, 1, (0, 0, 0)), (.iload 5, 2, (0, 0, 0))] = 294 := by decide +kernel
theorem ok_X11_merge_297_1 : oks m_X11_merge.1 m_X11_merge.2.2.1 297 [(.iinc 5 1, 3, (0, 0, 0))] = true ∧ plen 297 [(.iinc 5 1, 3, (0, 0, 0))] = 300 := by decide +kernel
theorem ok_X11_merge_303_11 : oks m_X11_merge.1 m_X11_merge.2.2.1 303 [(.aload_n 0, 1, (0, 0, 0)), (.dup, 1, (0, 0, 0)), (.getfield 228, 3, (11, 23, 0)), (.iconst 1, 1, (0, 0, 0)), (.isub, 1, (0, 0, 0)), (.putfield 228, 3, (11, 23, 0)), (.aload_n 0, 1, (0, 0, 0)), (.iconst (-1), 1, (0, 0, 0)), (.putfield 161, 3, (11, 54, 0)), (.aload_n 0, 1, (0, 0, 0)), (.getfield 228, 3, (11, 23, 0))] = true ∧ plen 303 [(.aload_n 0, 1, (0, 0, 0)), (.dup, 1, (0, 0, 0)), (.getfield 228, 3, (11, 23, 0)), (.iconst 1, 1, (0, 0, 0)), (.isub, 1, (0, 0, 0)), (.putfield 228, 3, (11, 23, 0)), (.aload_n 0, 1, (0, 0, 0)), (.iconst (-1), 1, (0, 0, 0)), (.putfield 161, 3, (11, 54, 0)), (.aload_n 0, 1, (0, 0, 0)), (.getfield 228, 3, (11, 23, 0))] = 322 := by decide +kernel
def B_X11_merge_193 (x5 : Int) (y0 : Bool) (σ : Sg) : Option ((Bool × Int) ⊕ Bool) :=
some (.inl (y0, wrap (x5 + 1)))
def B_X11_merge_177 (x5 : Int) (σ : Sg) : Option ((Bool × Int) ⊕ Bool) :=
B_X11_merge_193 x5 false σ
def L_X11_merge_87 (x1 : Int) (x2 : Int) (σ : Sg) (x4 : Bool) (x5 : Int) : Option ((Bool × Int) ⊕ Bool) :=
if (σ 0 21) ≤ x5 then
some (.inr x4)
else
if x4 = true then
(rdn 24 σ 20 (wrap ((wrap (3 * x1)) + x5))).bind fun v1 =>
(rdn 24 σ 20 (wrap ((wrap ((wrap (3 * x1)) + 3)) + x5))).bind fun v3 =>
if x5 = x2 then
(rdn 60 σ 16 v1).bind fun v5 =>
if v5 = 0 then
(rdn 60 σ 16 v3).bind fun v7 =>
if v7 = 0 then
(F_X11_areAlternatives v1 v3 σ).bind fun q9 =>
if q9 = true then
if (F_X11_isFull σ) = true then
B_X11_merge_177 x5 σ
else
B_X11_merge_193 x5 true σ
else
B_X11_merge_177 x5 σ
else
B_X11_merge_177 x5 σ
else
B_X11_merge_177 x5 σ
else
if v1 = v3 then
B_X11_merge_193 x5 true σ
else
B_X11_merge_193 x5 false σ
else
some (.inr x4)
def L_X11_merge_276 (x5 : Int) (σ : Sg) : Option ((Int × Sg) ⊕ Sg) :=
if (wrap ((σ 0 23) - 1)) ≤ x5 then
some (.inr σ)
else
(F_X11_copyCase (wrap (x5 + 1)) x5 σ).bind fun q27 =>
some (.inl (wrap (x5 + 1), q27))
def B_X11_merge_220 (x1 : Int) (x2 : Int) (y0 : Int) (σ : Sg) : Option (Int × Sg) :=
bnd (F_X11_refused y0 σ) fun q13 =>
if q13.1 = true then
some (0, q13.2)
else
(rdn 24 q13.2 20 (wrap ((wrap (3 * x1)) + x2))).bind fun v15 =>
(rdn 24 q13.2 20 (wrap ((wrap ((wrap (3 * x1)) + 3)) + x2))).bind fun v17 =>
(F_X11_alternatives v15 v17 q13.2).bind fun q19 =>
(wrn 24 q19.2 20 (wrap ((wrap (3 * x1)) + x2)) q19.1).bind fun s21 =>
(wrn 8 s21 25 x1 0).bind fun s23 =>
bnd (wrap (x1 + 1)) fun v25 =>
(iter (fun a : (Int × Sg) => L_X11_merge_276 a.1 a.2) 3000 (v25, s23)).bind fun y29 =>
bnd (up2 y29 0 23 (wrap ((y29 0 23) - 1))) fun s31 =>
bnd (up2 s31 0 54 (-1)) fun s33 =>
some (s33 0 23, s33)
def B_X11_merge_82 (x1 : Int) (x2 : Int) (x3 : Bool) (y0 : Bool) (σ : Sg) : Option (Int × Sg) :=
(iter (fun a : (Bool × Int) => L_X11_merge_87 x1 x2 σ a.1 a.2) 3000 (y0, 0)).bind fun y11 =>
if x3 = true then
if y11 = true then
B_X11_merge_220 x1 x2 0 σ
else
B_X11_merge_220 x1 x2 2 σ
else
B_X11_merge_220 x1 x2 1 σ
def B_X11_merge_81 (x1 : Int) (x2 : Int) (x3 : Bool) (σ : Sg) : Option (Int × Sg) :=
B_X11_merge_82 x1 x2 x3 false σ
def B_X11_merge_33 (x1 : Int) (x2 : Int) (y0 : Bool) (σ : Sg) : Option (Int × Sg) :=
if y0 = true then
(rdn 8 σ 22 x1).bind fun v35 =>
if v35 = (-1) then
(rdn 8 σ 22 (wrap (x1 + 1))).bind fun v37 =>
if v37 = (-1) then
(rdn 8 σ 21 x1).bind fun v39 =>
(rdn 8 σ 21 (wrap (x1 + 1))).bind fun v41 =>
if v39 = v41 then
B_X11_merge_82 x1 x2 y0 true σ
else
B_X11_merge_81 x1 x2 y0 σ
else
B_X11_merge_81 x1 x2 y0 σ
else
B_X11_merge_81 x1 x2 y0 σ
else
B_X11_merge_81 x1 x2 y0 σ
def B_X11_merge_32 (x1 : Int) (x2 : Int) (σ : Sg) : Option (Int × Sg) :=
B_X11_merge_33 x1 x2 false σ
def F_X11_merge (a1 : Int) (a2 : Int) (σ : Sg) : Option (Int × Sg) :=
if (F_X11_in a1 0 (wrap ((σ 0 23) - 2))) = true then
if (F_X11_in a2 0 (wrap ((σ 0 21) - 1))) = true then
B_X11_merge_33 a1 a2 true σ
else
B_X11_merge_32 a1 a2 σ
else
B_X11_merge_32 a1 a2 σ
theorem lk_X11_merge (l : Launch) (d : Nat) (hd : 3 ≤ d) (a1 : Int) (a2 : Int) (σ : Sg) (q : (Int × Sg)) (h : F_X11_merge a1 a2 σ = some q) : CT l d m_X11_merge.2.1 m_X11_merge.2.2.1 m_X11_merge.2.2.2.1 m_X11_merge.2.2.2.2 [.inr 0, .inl a1, .inl a2] (LAYM, σ) (some (.inl q.1)) (LAYM, q.2) := by
  obtain ⟨d, rfl⟩ : ∃ e, d = e + 1 := ⟨d - 1, by omega⟩
  have key : Go l m_X11_merge (d + 1) LAYM (.inl (some (.inl q.1))) q.2 0 [some (.inr 0), some (.inl a1), some (.inl a2), none, none, none, none, none] [] σ := by
    unfold F_X11_merge at h
    have hL_X11_merge_87 : ∀ (x1 : Int) (x2 : Int) (x3 : Bool) (σ : Sg) (n : Nat) (a : (Bool × Int)) (y : Bool), iter (fun a : (Bool × Int) => L_X11_merge_87 x1 x2 σ a.1 a.2) n a = some y → (fun y : Bool => Go l m_X11_merge (d + 1) LAYM (.inl (some (.inl q.1))) q.2 201 [some (.inr 0), some (.inl x1), some (.inl x2), some (.inl (b2i x3)), some (.inl (b2i y)), none, none, none] [] σ) y → (fun a : (Bool × Int) => Go l m_X11_merge (d + 1) LAYM (.inl (some (.inl q.1))) q.2 87 [some (.inr 0), some (.inl x1), some (.inl x2), some (.inl (b2i x3)), some (.inl (b2i a.1)), some (.inl a.2), none, none] [] σ) a := by
      intro x1 x2 x3 σ
      refine go_iter (G := fun a : (Bool × Int) => Go l m_X11_merge (d + 1) LAYM (.inl (some (.inl q.1))) q.2 87 [some (.inr 0), some (.inl x1), some (.inl x2), some (.inl (b2i x3)), some (.inl (b2i a.1)), some (.inl a.2), none, none] [] σ) (K := fun y : Bool => Go l m_X11_merge (d + 1) LAYM (.inl (some (.inl q.1))) q.2 201 [some (.inr 0), some (.inl x1), some (.inl x2), some (.inl (b2i x3)), some (.inl (b2i y)), none, none, none] [] σ) ?_
      rintro ⟨x4, x5⟩ w h hK
      replace h : L_X11_merge_87 x1 x2 σ x4 x5 = some w := h
      show Go l m_X11_merge (d + 1) LAYM (.inl (some (.inl q.1))) q.2 87 [some (.inr 0), some (.inl x1), some (.inl x2), some (.inl (b2i x3)), some (.inl (b2i x4)), some (.inl x5), none, none] [] σ
      unfold L_X11_merge_87 at h
      have hB_X11_merge_193 : ∀ (x5 : Int) (y0 : Bool), B_X11_merge_193 x5 y0 σ = some w → Go l m_X11_merge (d + 1) LAYM (.inl (some (.inl q.1))) q.2 193 [some (.inr 0), some (.inl x1), some (.inl x2), some (.inl (b2i x3)), none, some (.inl x5), none, none] [.inl (b2i y0)] σ := by
        intro x5 y0 h
        unfold B_X11_merge_193 at h
        refine go_ops ok_X11_merge_193_2 (L' := [some (.inr 0), some (.inl x1), some (.inl x2), some (.inl (b2i x3)), some (.inl (b2i y0)), some (.inl (wrap (x5 + 1))), none, none]) (st' := []) (σ1 := σ) rfl ?_
        refine go_goto dc_X11_merge_198 (by rfl) ?_
        cases h
        exact hK
      have hB_X11_merge_177 : ∀ (x5 : Int), B_X11_merge_177 x5 σ = some w → Go l m_X11_merge (d + 1) LAYM (.inl (some (.inl q.1))) q.2 177 [some (.inr 0), some (.inl x1), some (.inl x2), some (.inl (b2i x3)), none, some (.inl x5), none, none] [] σ := by
        intro x5 h
        unfold B_X11_merge_177 at h
        refine go_ops ok_X11_merge_177_1 (L' := [some (.inr 0), some (.inl x1), some (.inl x2), some (.inl (b2i x3)), none, some (.inl x5), none, none]) (st' := [.inl 0]) (σ1 := σ) rfl ?_
        refine go_goto dc_X11_merge_178 (by rfl) ?_
        exact hB_X11_merge_193 x5 false h
      refine go_ops ok_X11_merge_87_3 (L' := [some (.inr 0), some (.inl x1), some (.inl x2), some (.inl (b2i x3)), some (.inl (b2i x4)), some (.inl x5), none, none]) (st' := [.inl (σ 0 21), .inl x5]) (σ1 := σ) rfl ?_
      refine go_icmp_ge dc_X11_merge_93 (by rfl) (fun hc => ?_) (fun hc => ?_)
      · replace h := (if_pos hc).symm.trans h
        cases h
        refine go_wk (L' := [some (.inr 0), some (.inl x1), some (.inl x2), some (.inl (b2i x3)), some (.inl (b2i x4)), none, none, none]) ⟨rfl, rfl, rfl, rfl, rfl, trivial⟩ ?_
        exact hK
      · replace h := (if_neg hc).symm.trans h
        refine go_ops ok_X11_merge_96_1 (L' := [some (.inr 0), some (.inl x1), some (.inl x2), some (.inl (b2i x3)), some (.inl (b2i x4)), some (.inl x5), none, none]) (st' := [.inl (b2i x4)]) (σ1 := σ) rfl ?_
        refine go_ifb_eq dc_X11_merge_98 (by rfl) (fun hc => ?_) (fun hc => ?_)
        · replace h := (if_neg hc).symm.trans h
          cases h
          refine go_wk (L' := [some (.inr 0), some (.inl x1), some (.inl x2), some (.inl (b2i x3)), some (.inl (b2i x4)), none, none, none]) ⟨rfl, rfl, rfl, rfl, rfl, trivial⟩ ?_
          exact hK
        · replace h := (if_pos hc).symm.trans h
          refine go_ops ok_X11_merge_101_7 (L' := [some (.inr 0), some (.inl x1), some (.inl x2), some (.inl (b2i x3)), some (.inl (b2i x4)), some (.inl x5), none, none]) (st' := [.inl (wrap ((wrap (3 * x1)) + x5)), .inr 20]) (σ1 := σ) rfl ?_
          obtain ⟨v1, e2, h⟩ := bind_inv h
          refine go_rd (k := 20) dc_X11_merge_111 rfl e2 ?_
          refine go_ops ok_X11_merge_112_10 (L' := [some (.inr 0), some (.inl x1), some (.inl x2), some (.inl (b2i x3)), some (.inl (b2i x4)), some (.inl x5), some (.inl v1), none]) (st' := [.inl (wrap ((wrap ((wrap (3 * x1)) + 3)) + x5)), .inr 20]) (σ1 := σ) rfl ?_
          obtain ⟨v3, e4, h⟩ := bind_inv h
          refine go_rd (k := 20) dc_X11_merge_126 rfl e4 ?_
          refine go_ops ok_X11_merge_127_3 (L' := [some (.inr 0), some (.inl x1), some (.inl x2), some (.inl (b2i x3)), some (.inl (b2i x4)), some (.inl x5), some (.inl v1), some (.inl v3)]) (st' := [.inl x2, .inl x5]) (σ1 := σ) rfl ?_
          refine go_icmp_ne dc_X11_merge_132 (by rfl) (fun hc => ?_) (fun hc => ?_)
          · replace h := (if_neg hc).symm.trans h
            refine go_ops ok_X11_merge_181_2 (L' := [some (.inr 0), some (.inl x1), some (.inl x2), some (.inl (b2i x3)), some (.inl (b2i x4)), some (.inl x5), some (.inl v1), some (.inl v3)]) (st' := [.inl v3, .inl v1]) (σ1 := σ) rfl ?_
            refine go_icmp_ne dc_X11_merge_185 (by rfl) (fun hc => ?_) (fun hc => ?_)
            · replace h := (if_neg hc).symm.trans h
              refine go_ops ok_X11_merge_192_1 (L' := [some (.inr 0), some (.inl x1), some (.inl x2), some (.inl (b2i x3)), some (.inl (b2i x4)), some (.inl x5), some (.inl v1), some (.inl v3)]) (st' := [.inl 0]) (σ1 := σ) rfl ?_
              refine go_wk (L' := [some (.inr 0), some (.inl x1), some (.inl x2), some (.inl (b2i x3)), none, some (.inl x5), none, none]) ⟨rfl, rfl, rfl, rfl, rfl, trivial⟩ ?_
              exact hB_X11_merge_193 x5 false h
            · replace h := (if_pos hc).symm.trans h
              refine go_ops ok_X11_merge_188_1 (L' := [some (.inr 0), some (.inl x1), some (.inl x2), some (.inl (b2i x3)), some (.inl (b2i x4)), some (.inl x5), some (.inl v1), some (.inl v3)]) (st' := [.inl 1]) (σ1 := σ) rfl ?_
              refine go_goto dc_X11_merge_189 (by rfl) ?_
              refine go_wk (L' := [some (.inr 0), some (.inl x1), some (.inl x2), some (.inl (b2i x3)), none, some (.inl x5), none, none]) ⟨rfl, rfl, rfl, rfl, rfl, trivial⟩ ?_
              exact hB_X11_merge_193 x5 true h
          · replace h := (if_pos hc).symm.trans h
            refine go_ops ok_X11_merge_135_3 (L' := [some (.inr 0), some (.inl x1), some (.inl x2), some (.inl (b2i x3)), some (.inl (b2i x4)), some (.inl x5), some (.inl v1), some (.inl v3)]) (st' := [.inl v1, .inr 16]) (σ1 := σ) rfl ?_
            obtain ⟨v5, e6, h⟩ := bind_inv h
            refine go_rdb (k := 16) dc_X11_merge_141 rfl e6 ?_
            refine go_if_ne dc_X11_merge_142 (by rfl) (fun hc => ?_) (fun hc => ?_)
            · replace h := (if_neg hc).symm.trans h
              refine go_wk (L' := [some (.inr 0), some (.inl x1), some (.inl x2), some (.inl (b2i x3)), none, some (.inl x5), none, none]) ⟨rfl, rfl, rfl, rfl, rfl, trivial⟩ ?_
              exact hB_X11_merge_177 x5 h
            · replace h := (if_pos hc).symm.trans h
              refine go_ops ok_X11_merge_145_3 (L' := [some (.inr 0), some (.inl x1), some (.inl x2), some (.inl (b2i x3)), some (.inl (b2i x4)), some (.inl x5), some (.inl v1), some (.inl v3)]) (st' := [.inl v3, .inr 16]) (σ1 := σ) rfl ?_
              obtain ⟨v7, e8, h⟩ := bind_inv h
              refine go_rdb (k := 16) dc_X11_merge_151 rfl e8 ?_
              refine go_if_ne dc_X11_merge_152 (by rfl) (fun hc => ?_) (fun hc => ?_)
              · replace h := (if_neg hc).symm.trans h
                refine go_wk (L' := [some (.inr 0), some (.inl x1), some (.inl x2), some (.inl (b2i x3)), none, some (.inl x5), none, none]) ⟨rfl, rfl, rfl, rfl, rfl, trivial⟩ ?_
                exact hB_X11_merge_177 x5 h
              · replace h := (if_pos hc).symm.trans h
                refine go_ops ok_X11_merge_155_3 (L' := [some (.inr 0), some (.inl x1), some (.inl x2), some (.inl (b2i x3)), some (.inl (b2i x4)), some (.inl x5), some (.inl v1), some (.inl v3)]) (st' := [.inl v3, .inl v1, .inr 0]) (σ1 := σ) rfl ?_
                obtain ⟨q9, e10, h⟩ := bind_inv h
                refine go_V (M1 := m_X11_areAlternatives) (as := [.inl v1, .inl v3]) (st := []) (k := 0) (ci := 11) dc_X11_merge_160 ln_11_221 im_X11_areAlternatives (by decide) rfl rfl mk_X11_areAlternatives rfl (Nat.le_of_ble_eq_true rfl) (Nat.le_refl _) (v := (some (.inl (b2i q9)))) (σ1 := σ) (lk_X11_areAlternatives l d (by omega) v1 v3 σ q9 e10) _ rfl ?_
                refine go_ifb_eq dc_X11_merge_163 (by rfl) (fun hc => ?_) (fun hc => ?_)
                · replace h := (if_neg hc).symm.trans h
                  refine go_wk (L' := [some (.inr 0), some (.inl x1), some (.inl x2), some (.inl (b2i x3)), none, some (.inl x5), none, none]) ⟨rfl, rfl, rfl, rfl, rfl, trivial⟩ ?_
                  exact hB_X11_merge_177 x5 h
                · replace h := (if_pos hc).symm.trans h
                  refine go_ops ok_X11_merge_166_1 (L' := [some (.inr 0), some (.inl x1), some (.inl x2), some (.inl (b2i x3)), some (.inl (b2i x4)), some (.inl x5), some (.inl v1), some (.inl v3)]) (st' := [.inr 0]) (σ1 := σ) rfl ?_
                  refine go_V (M1 := m_X11_isFull) (as := []) (st := []) (k := 0) (ci := 11) dc_X11_merge_167 ln_11_204 im_X11_isFull (by decide) rfl rfl mk_X11_isFull rfl (Nat.le_of_ble_eq_true rfl) (Nat.le_refl _) (v := (some (.inl (b2i (F_X11_isFull σ))))) (σ1 := σ) (lk_X11_isFull l d (by omega) σ _ rfl) _ rfl ?_
                  refine go_ifb_ne dc_X11_merge_170 (by rfl) (fun hc => ?_) (fun hc => ?_)
                  · replace h := (if_pos hc).symm.trans h
                    refine go_wk (L' := [some (.inr 0), some (.inl x1), some (.inl x2), some (.inl (b2i x3)), none, some (.inl x5), none, none]) ⟨rfl, rfl, rfl, rfl, rfl, trivial⟩ ?_
                    exact hB_X11_merge_177 x5 h
                  · replace h := (if_neg hc).symm.trans h
                    refine go_ops ok_X11_merge_173_1 (L' := [some (.inr 0), some (.inl x1), some (.inl x2), some (.inl (b2i x3)), some (.inl (b2i x4)), some (.inl x5), some (.inl v1), some (.inl v3)]) (st' := [.inl 1]) (σ1 := σ) rfl ?_
                    refine go_goto dc_X11_merge_174 (by rfl) ?_
                    refine go_wk (L' := [some (.inr 0), some (.inl x1), some (.inl x2), some (.inl (b2i x3)), none, some (.inl x5), none, none]) ⟨rfl, rfl, rfl, rfl, rfl, trivial⟩ ?_
                    exact hB_X11_merge_193 x5 true h
    have hL_X11_merge_276 : ∀ (n : Nat) (a : (Int × Sg)) (y : Sg), iter (fun a : (Int × Sg) => L_X11_merge_276 a.1 a.2) n a = some y → (fun y : Sg => Go l m_X11_merge (d + 1) LAYM (.inl (some (.inl q.1))) q.2 303 [some (.inr 0), none, none, none, none, none, none, none] [] y) y → (fun a : (Int × Sg) => Go l m_X11_merge (d + 1) LAYM (.inl (some (.inl q.1))) q.2 276 [some (.inr 0), none, none, none, none, some (.inl a.1), none, none] [] a.2) a := by
      skip
      refine go_iter (G := fun a : (Int × Sg) => Go l m_X11_merge (d + 1) LAYM (.inl (some (.inl q.1))) q.2 276 [some (.inr 0), none, none, none, none, some (.inl a.1), none, none] [] a.2) (K := fun y : Sg => Go l m_X11_merge (d + 1) LAYM (.inl (some (.inl q.1))) q.2 303 [some (.inr 0), none, none, none, none, none, none, none] [] y) ?_
      rintro ⟨x5, σ⟩ w h hK
      replace h : L_X11_merge_276 x5 σ = some w := h
      show Go l m_X11_merge (d + 1) LAYM (.inl (some (.inl q.1))) q.2 276 [some (.inr 0), none, none, none, none, some (.inl x5), none, none] [] σ
      unfold L_X11_merge_276 at h
      refine go_ops ok_X11_merge_276_5 (L' := [some (.inr 0), none, none, none, none, some (.inl x5), none, none]) (st' := [.inl (wrap ((σ 0 23) - 1)), .inl x5]) (σ1 := σ) rfl ?_
      refine go_icmp_ge dc_X11_merge_284 (by rfl) (fun hc => ?_) (fun hc => ?_)
      · replace h := (if_pos hc).symm.trans h
        cases h
        refine go_wk (L' := [some (.inr 0), none, none, none, none, none, none, none]) ⟨rfl, trivial⟩ ?_
        exact hK
      · replace h := (if_neg hc).symm.trans h
        refine go_ops ok_X11_merge_287_5 (L' := [some (.inr 0), none, none, none, none, some (.inl x5), none, none]) (st' := [.inl x5, .inl (wrap (x5 + 1)), .inr 0]) (σ1 := σ) rfl ?_
        obtain ⟨q27, e28, h⟩ := bind_inv h
        refine go_V (M1 := m_X11_copyCase) (as := [.inl (wrap (x5 + 1)), .inl x5]) (st := []) (k := 0) (ci := 11) dc_X11_merge_294 ln_11_240 im_X11_copyCase (by decide) rfl rfl mk_X11_copyCase rfl (Nat.le_of_ble_eq_true rfl) (Nat.le_refl _) (v := none) (σ1 := q27) (lk_X11_copyCase l d (by omega) (wrap (x5 + 1)) x5 σ q27 e28) _ rfl ?_
        refine go_ops ok_X11_merge_297_1 (L' := [some (.inr 0), none, none, none, none, some (.inl (wrap (x5 + 1))), none, none]) (st' := []) (σ1 := q27) rfl ?_
        refine go_goto dc_X11_merge_300 (by rfl) ?_
        cases h
        exact hK
    have hB_X11_merge_220 : ∀ (x1 : Int) (x2 : Int) (y0 : Int) (σ : Sg), B_X11_merge_220 x1 x2 y0 σ = some q → Go l m_X11_merge (d + 1) LAYM (.inl (some (.inl q.1))) q.2 220 [some (.inr 0), some (.inl x1), some (.inl x2), none, none, none, none, none] [.inl y0, .inr 0] σ := by
      intro x1 x2 y0 σ h
      unfold B_X11_merge_220 at h
      obtain ⟨q13, e14, h⟩ := bnd_inv h
      refine go_V (M1 := m_X11_refused) (as := [.inl y0]) (st := []) (k := 0) (ci := 11) dc_X11_merge_220 ln_11_183 im_X11_refused (by decide) rfl rfl mk_X11_refused rfl (Nat.le_of_ble_eq_true rfl) (Nat.le_refl _) (v := (some (.inl (b2i q13.1)))) (σ1 := q13.2) (lk_X11_refused l d (by omega) y0 σ q13 e14.symm) _ rfl ?_
      refine go_ifb_eq dc_X11_merge_223 (by rfl) (fun hc => ?_) (fun hc => ?_)
      · replace h := (if_neg hc).symm.trans h
        refine go_ops ok_X11_merge_228_15 (L' := [some (.inr 0), some (.inl x1), some (.inl x2), none, none, none, none, none]) (st' := [.inl (wrap ((wrap (3 * x1)) + x2)), .inr 20, .inr 0, .inl (wrap ((wrap (3 * x1)) + x2)), .inr 20]) (σ1 := q13.2) rfl ?_
        obtain ⟨v15, e16, h⟩ := bind_inv h
        refine go_rd (k := 20) dc_X11_merge_247 rfl e16 ?_
        refine go_ops ok_X11_merge_248_9 (L' := [some (.inr 0), some (.inl x1), some (.inl x2), none, none, none, none, none]) (st' := [.inl (wrap ((wrap ((wrap (3 * x1)) + 3)) + x2)), .inr 20, .inl v15, .inr 0, .inl (wrap ((wrap (3 * x1)) + x2)), .inr 20]) (σ1 := q13.2) rfl ?_
        obtain ⟨v17, e18, h⟩ := bind_inv h
        refine go_rd (k := 20) dc_X11_merge_259 rfl e18 ?_
        obtain ⟨q19, e20, h⟩ := bind_inv h
        refine go_V (M1 := m_X11_alternatives) (as := [.inl v15, .inl v17]) (st := [.inl (wrap ((wrap (3 * x1)) + x2)), .inr 20]) (k := 0) (ci := 11) dc_X11_merge_260 ln_11_224 im_X11_alternatives (by decide) rfl rfl mk_X11_alternatives rfl (Nat.le_of_ble_eq_true rfl) (Nat.le_refl _) (v := (some (.inl q19.1))) (σ1 := q19.2) (lk_X11_alternatives l d (by omega) v15 v17 q13.2 q19 e20) _ rfl ?_
        obtain ⟨s21, e22, h⟩ := bind_inv h
        refine go_wr (k := 20) dc_X11_merge_263 rfl e22 ?_
        refine go_ops ok_X11_merge_264_4 (L' := [some (.inr 0), some (.inl x1), some (.inl x2), none, none, none, none, none]) (st' := [.inl 0, .inl x1, .inr 25]) (σ1 := s21) rfl ?_
        obtain ⟨s23, e24, h⟩ := bind_inv h
        refine go_wr (k := 25) dc_X11_merge_270 rfl e24 ?_
        obtain ⟨v25, e26, h⟩ := bnd_inv h
        refine go_ops ok_X11_merge_271_4 (L' := [some (.inr 0), some (.inl x1), some (.inl x2), none, none, some (.inl v25), none, none]) (st' := []) (σ1 := s23) (by subst e26; rfl) ?_
        refine go_wk (L' := [some (.inr 0), none, none, none, none, some (.inl v25), none, none]) ⟨rfl, rfl, trivial⟩ ?_
        obtain ⟨y29, e30, h⟩ := bind_inv h
        refine hL_X11_merge_276  3000 (v25, s23) y29 e30 ?_
        show Go l m_X11_merge (d + 1) LAYM (.inl (some (.inl q.1))) q.2 303 [some (.inr 0), none, none, none, none, none, none, none] [] y29
        obtain ⟨s31, e32, h⟩ := bnd_inv h
        obtain ⟨s33, e34, h⟩ := bnd_inv h
        refine go_ops ok_X11_merge_303_11 (L' := [some (.inr 0), none, none, none, none, none, none, none]) (st' := [.inl (s33 0 23)]) (σ1 := s33) (by subst e34; subst e32; rfl) ?_
        have h9 := Option.some.inj h
        subst h9
        exact go_iret dc_X11_merge_322 rfl
      · replace h := (if_pos hc).symm.trans h
        refine go_ops ok_X11_merge_226_1 (L' := [some (.inr 0), some (.inl x1), some (.inl x2), none, none, none, none, none]) (st' := [.inl 0]) (σ1 := q13.2) rfl ?_
        have h9 := Option.some.inj h
        subst h9
        exact go_iret dc_X11_merge_227 rfl
    have hB_X11_merge_82 : ∀ (x1 : Int) (x2 : Int) (x3 : Bool) (y0 : Bool) (σ : Sg), B_X11_merge_82 x1 x2 x3 y0 σ = some q → Go l m_X11_merge (d + 1) LAYM (.inl (some (.inl q.1))) q.2 82 [some (.inr 0), some (.inl x1), some (.inl x2), some (.inl (b2i x3)), none, none, none, none] [.inl (b2i y0)] σ := by
      intro x1 x2 x3 y0 σ h
      unfold B_X11_merge_82 at h
      refine go_ops ok_X11_merge_82_3 (L' := [some (.inr 0), some (.inl x1), some (.inl x2), some (.inl (b2i x3)), some (.inl (b2i y0)), some (.inl 0), none, none]) (st' := []) (σ1 := σ) rfl ?_
      obtain ⟨y11, e12, h⟩ := bind_inv h
      refine hL_X11_merge_87 x1 x2 x3 σ 3000 (y0, 0) y11 e12 ?_
      show Go l m_X11_merge (d + 1) LAYM (.inl (some (.inl q.1))) q.2 201 [some (.inr 0), some (.inl x1), some (.inl x2), some (.inl (b2i x3)), some (.inl (b2i y11)), none, none, none] [] σ
      refine go_ops ok_X11_merge_201_2 (L' := [some (.inr 0), some (.inl x1), some (.inl x2), some (.inl (b2i x3)), some (.inl (b2i y11)), none, none, none]) (st' := [.inl (b2i x3), .inr 0]) (σ1 := σ) rfl ?_
      refine go_ifb_ne dc_X11_merge_203 (by rfl) (fun hc => ?_) (fun hc => ?_)
      · replace h := (if_pos hc).symm.trans h
        refine go_ops ok_X11_merge_210_1 (L' := [some (.inr 0), some (.inl x1), some (.inl x2), some (.inl (b2i x3)), some (.inl (b2i y11)), none, none, none]) (st' := [.inl (b2i y11), .inr 0]) (σ1 := σ) rfl ?_
        refine go_ifb_eq dc_X11_merge_212 (by rfl) (fun hc => ?_) (fun hc => ?_)
        · replace h := (if_neg hc).symm.trans h
          refine go_ops ok_X11_merge_219_1 (L' := [some (.inr 0), some (.inl x1), some (.inl x2), some (.inl (b2i x3)), some (.inl (b2i y11)), none, none, none]) (st' := [.inl 2, .inr 0]) (σ1 := σ) rfl ?_
          refine go_wk (L' := [some (.inr 0), some (.inl x1), some (.inl x2), none, none, none, none, none]) ⟨rfl, rfl, rfl, trivial⟩ ?_
          exact hB_X11_merge_220 x1 x2 2 σ h
        · replace h := (if_pos hc).symm.trans h
          refine go_ops ok_X11_merge_215_1 (L' := [some (.inr 0), some (.inl x1), some (.inl x2), some (.inl (b2i x3)), some (.inl (b2i y11)), none, none, none]) (st' := [.inl 0, .inr 0]) (σ1 := σ) rfl ?_
          refine go_goto dc_X11_merge_216 (by rfl) ?_
          refine go_wk (L' := [some (.inr 0), some (.inl x1), some (.inl x2), none, none, none, none, none]) ⟨rfl, rfl, rfl, trivial⟩ ?_
          exact hB_X11_merge_220 x1 x2 0 σ h
      · replace h := (if_neg hc).symm.trans h
        refine go_ops ok_X11_merge_206_1 (L' := [some (.inr 0), some (.inl x1), some (.inl x2), some (.inl (b2i x3)), some (.inl (b2i y11)), none, none, none]) (st' := [.inl 1, .inr 0]) (σ1 := σ) rfl ?_
        refine go_goto dc_X11_merge_207 (by rfl) ?_
        refine go_wk (L' := [some (.inr 0), some (.inl x1), some (.inl x2), none, none, none, none, none]) ⟨rfl, rfl, rfl, trivial⟩ ?_
        exact hB_X11_merge_220 x1 x2 1 σ h
    have hB_X11_merge_81 : ∀ (x1 : Int) (x2 : Int) (x3 : Bool) (σ : Sg), B_X11_merge_81 x1 x2 x3 σ = some q → Go l m_X11_merge (d + 1) LAYM (.inl (some (.inl q.1))) q.2 81 [some (.inr 0), some (.inl x1), some (.inl x2), some (.inl (b2i x3)), none, none, none, none] [] σ := by
      intro x1 x2 x3 σ h
      unfold B_X11_merge_81 at h
      refine go_ops ok_X11_merge_81_1 (L' := [some (.inr 0), some (.inl x1), some (.inl x2), some (.inl (b2i x3)), none, none, none, none]) (st' := [.inl 0]) (σ1 := σ) rfl ?_
      exact hB_X11_merge_82 x1 x2 x3 false σ h
    have hB_X11_merge_33 : ∀ (x1 : Int) (x2 : Int) (y0 : Bool) (σ : Sg), B_X11_merge_33 x1 x2 y0 σ = some q → Go l m_X11_merge (d + 1) LAYM (.inl (some (.inl q.1))) q.2 33 [some (.inr 0), some (.inl x1), some (.inl x2), none, none, none, none, none] [.inl (b2i y0)] σ := by
      intro x1 x2 y0 σ h
      unfold B_X11_merge_33 at h
      refine go_ops ok_X11_merge_33_2 (L' := [some (.inr 0), some (.inl x1), some (.inl x2), some (.inl (b2i y0)), none, none, none, none]) (st' := [.inl (b2i y0)]) (σ1 := σ) rfl ?_
      refine go_ifb_eq dc_X11_merge_35 (by rfl) (fun hc => ?_) (fun hc => ?_)
      · replace h := (if_neg hc).symm.trans h
        exact hB_X11_merge_81 x1 x2 y0 σ h
      · replace h := (if_pos hc).symm.trans h
        refine go_ops ok_X11_merge_38_3 (L' := [some (.inr 0), some (.inl x1), some (.inl x2), some (.inl (b2i y0)), none, none, none, none]) (st' := [.inl x1, .inr 22]) (σ1 := σ) rfl ?_
        obtain ⟨v35, e36, h⟩ := bind_inv h
        refine go_rd (k := 22) dc_X11_merge_43 rfl e36 ?_
        refine go_ops ok_X11_merge_44_1 (L' := [some (.inr 0), some (.inl x1), some (.inl x2), some (.inl (b2i y0)), none, none, none, none]) (st' := [.inl (-1), .inl v35]) (σ1 := σ) rfl ?_
        refine go_icmp_ne dc_X11_merge_45 (by rfl) (fun hc => ?_) (fun hc => ?_)
        · replace h := (if_neg hc).symm.trans h
          exact hB_X11_merge_81 x1 x2 y0 σ h
        · replace h := (if_pos hc).symm.trans h
          refine go_ops ok_X11_merge_48_5 (L' := [some (.inr 0), some (.inl x1), some (.inl x2), some (.inl (b2i y0)), none, none, none, none]) (st' := [.inl (wrap (x1 + 1)), .inr 22]) (σ1 := σ) rfl ?_
          obtain ⟨v37, e38, h⟩ := bind_inv h
          refine go_rd (k := 22) dc_X11_merge_55 rfl e38 ?_
          refine go_ops ok_X11_merge_56_1 (L' := [some (.inr 0), some (.inl x1), some (.inl x2), some (.inl (b2i y0)), none, none, none, none]) (st' := [.inl (-1), .inl v37]) (σ1 := σ) rfl ?_
          refine go_icmp_ne dc_X11_merge_57 (by rfl) (fun hc => ?_) (fun hc => ?_)
          · replace h := (if_neg hc).symm.trans h
            exact hB_X11_merge_81 x1 x2 y0 σ h
          · replace h := (if_pos hc).symm.trans h
            refine go_ops ok_X11_merge_60_3 (L' := [some (.inr 0), some (.inl x1), some (.inl x2), some (.inl (b2i y0)), none, none, none, none]) (st' := [.inl x1, .inr 21]) (σ1 := σ) rfl ?_
            obtain ⟨v39, e40, h⟩ := bind_inv h
            refine go_rd (k := 21) dc_X11_merge_65 rfl e40 ?_
            refine go_ops ok_X11_merge_66_5 (L' := [some (.inr 0), some (.inl x1), some (.inl x2), some (.inl (b2i y0)), none, none, none, none]) (st' := [.inl (wrap (x1 + 1)), .inr 21, .inl v39]) (σ1 := σ) rfl ?_
            obtain ⟨v41, e42, h⟩ := bind_inv h
            refine go_rd (k := 21) dc_X11_merge_73 rfl e42 ?_
            refine go_icmp_ne dc_X11_merge_74 (by rfl) (fun hc => ?_) (fun hc => ?_)
            · replace h := (if_neg hc).symm.trans h
              exact hB_X11_merge_81 x1 x2 y0 σ h
            · replace h := (if_pos hc).symm.trans h
              refine go_ops ok_X11_merge_77_1 (L' := [some (.inr 0), some (.inl x1), some (.inl x2), some (.inl (b2i y0)), none, none, none, none]) (st' := [.inl 1]) (σ1 := σ) rfl ?_
              refine go_goto dc_X11_merge_78 (by rfl) ?_
              exact hB_X11_merge_82 x1 x2 y0 true σ h
    have hB_X11_merge_32 : ∀ (x1 : Int) (x2 : Int) (σ : Sg), B_X11_merge_32 x1 x2 σ = some q → Go l m_X11_merge (d + 1) LAYM (.inl (some (.inl q.1))) q.2 32 [some (.inr 0), some (.inl x1), some (.inl x2), none, none, none, none, none] [] σ := by
      intro x1 x2 σ h
      unfold B_X11_merge_32 at h
      refine go_ops ok_X11_merge_32_1 (L' := [some (.inr 0), some (.inl x1), some (.inl x2), none, none, none, none, none]) (st' := [.inl 0]) (σ1 := σ) rfl ?_
      exact hB_X11_merge_33 x1 x2 false σ h
    refine go_ops ok_X11_merge_0_6 (L' := [some (.inr 0), some (.inl a1), some (.inl a2), none, none, none, none, none]) (st' := [.inl (wrap ((σ 0 23) - 2)), .inl 0, .inl a1]) (σ1 := σ) rfl ?_
    refine go_S (M1 := m_X11_in) (as := [.inl a1, .inl 0, .inl (wrap ((σ 0 23) - 2))]) (st := []) dc_X11_merge_8 ln_11_171 sm_X11_in mk_X11_in rfl (Nat.le_of_ble_eq_true rfl) (Nat.le_refl _) (v := (some (.inl (b2i (F_X11_in a1 0 (wrap ((σ 0 23) - 2))))))) (σ1 := σ) (lk_X11_in l d (by omega) a1 0 (wrap ((σ 0 23) - 2)) σ _ rfl) _ rfl ?_
    refine go_ifb_eq dc_X11_merge_11 (by rfl) (fun hc => ?_) (fun hc => ?_)
    · replace h := (if_neg hc).symm.trans h
      exact hB_X11_merge_32 a1 a2 σ h
    · replace h := (if_pos hc).symm.trans h
      refine go_ops ok_X11_merge_14_6 (L' := [some (.inr 0), some (.inl a1), some (.inl a2), none, none, none, none, none]) (st' := [.inl (wrap ((σ 0 21) - 1)), .inl 0, .inl a2]) (σ1 := σ) rfl ?_
      refine go_S (M1 := m_X11_in) (as := [.inl a2, .inl 0, .inl (wrap ((σ 0 21) - 1))]) (st := []) dc_X11_merge_22 ln_11_171 sm_X11_in mk_X11_in rfl (Nat.le_of_ble_eq_true rfl) (Nat.le_refl _) (v := (some (.inl (b2i (F_X11_in a2 0 (wrap ((σ 0 21) - 1))))))) (σ1 := σ) (lk_X11_in l d (by omega) a2 0 (wrap ((σ 0 21) - 1)) σ _ rfl) _ rfl ?_
      refine go_ifb_eq dc_X11_merge_25 (by rfl) (fun hc => ?_) (fun hc => ?_)
      · replace h := (if_neg hc).symm.trans h
        exact hB_X11_merge_32 a1 a2 σ h
      · replace h := (if_pos hc).symm.trans h
        refine go_ops ok_X11_merge_28_1 (L' := [some (.inr 0), some (.inl a1), some (.inl a2), none, none, none, none, none]) (st' := [.inl 1]) (σ1 := σ) rfl ?_
        refine go_goto dc_X11_merge_29 (by rfl) ?_
        exact hB_X11_merge_33 a1 a2 true σ h
  have hf := go_ct (as := [.inr 0, .inl a1, .inl a2]) mk_X11_merge (by rfl) (Nat.le_of_ble_eq_true rfl) key
  exact hf
theorem dc_X11_wayTo_6 : decode m_X11_wayTo.2.2.1 6 = .ok (.if_icmp .le 26, 3) := by decide +kernel
theorem dc_X11_wayTo_18 : decode m_X11_wayTo.2.2.1 18 = .ok (.irem, 1) := by decide +kernel
theorem dc_X11_wayTo_19 : decode m_X11_wayTo.2.2.1 19 = .ok (.iastore, 1) := by decide +kernel
theorem dc_X11_wayTo_27 : decode m_X11_wayTo.2.2.1 27 = .ok (.idiv, 1) := by decide +kernel
theorem dc_X11_wayTo_29 : decode m_X11_wayTo.2.2.1 29 = .ok (.goto (-25), 3) := by decide +kernel
theorem dc_X11_wayTo_40 : decode m_X11_wayTo.2.2.1 40 = .ok (.iastore, 1) := by decide +kernel
theorem dc_X11_wayTo_42 : decode m_X11_wayTo.2.2.1 42 = .ok (.ireturn, 1) := by decide +kernel
theorem ok_X11_wayTo_0_4 : oks m_X11_wayTo.1 m_X11_wayTo.2.2.1 0 [(.iconst 0, 1, (0, 0, 0)), (.istore_n 2, 1, (0, 0, 0)), (.iload_n 1, 1, (0, 0, 0)), (.istore_n 3, 1, (0, 0, 0))] = true ∧ plen 0 [(.iconst 0, 1, (0, 0, 0)), (.istore_n 2, 1, (0, 0, 0)), (.iload_n 1, 1, (0, 0, 0)), (.istore_n 3, 1, (0, 0, 0))] = 4 := by decide +kernel
theorem ok_X11_wayTo_4_2 : oks m_X11_wayTo.1 m_X11_wayTo.2.2.1 4 [(.iload_n 3, 1, (0, 0, 0)), (.iconst 3, 1, (0, 0, 0))] = true ∧ plen 4 [(.iload_n 3, 1, (0, 0, 0)), (.iconst 3, 1, (0, 0, 0))] = 6 := by decide +kernel
theorem ok_X11_wayTo_9_7 : oks m_X11_wayTo.1 m_X11_wayTo.2.2.1 9 [(.aload_n 0, 1, (0, 0, 0)), (.getfield 110, 3, (11, 45, 0)), (.iload_n 2, 1, (0, 0, 0)), (.iload_n 3, 1, (0, 0, 0)), (.iconst 1, 1, (0, 0, 0)), (.isub, 1, (0, 0, 0)), (.iconst 5, 1, (0, 0, 0))] = true ∧ plen 9 [(.aload_n 0, 1, (0, 0, 0)), (.getfield 110, 3, (11, 45, 0)), (.iload_n 2, 1, (0, 0, 0)), (.iload_n 3, 1, (0, 0, 0)), (.iconst 1, 1, (0, 0, 0)), (.isub, 1, (0, 0, 0)), (.iconst 5, 1, (0, 0, 0))] = 18 := by decide +kernel
theorem ok_X11_wayTo_20_5 : oks m_X11_wayTo.1 m_X11_wayTo.2.2.1 20 [(.iinc 2 1, 3, (0, 0, 0)), (.iload_n 3, 1, (0, 0, 0)), (.iconst 1, 1, (0, 0, 0)), (.isub, 1, (0, 0, 0)), (.iconst 5, 1, (0, 0, 0))] = true ∧ plen 20 [(.iinc 2 1, 3, (0, 0, 0)), (.iload_n 3, 1, (0, 0, 0)), (.iconst 1, 1, (0, 0, 0)), (.isub, 1, (0, 0, 0)), (.iconst 5, 1, (0, 0, 0))] = 27 := by decide +kernel
theorem ok_X11_wayTo_28_1 : oks m_X11_wayTo.1 m_X11_wayTo.2.2.1 28 [(.istore_n 3, 1, (0, 0, 0))] = true ∧ plen 28 [(.istore_n 3, 1, (0, 0, 0))] = 29 := by decide +kernel
theorem ok_X11_wayTo_32_6 : oks m_X11_wayTo.1 m_X11_wayTo.2.2.1 32 [(.aload_n 0, 1, (0, 0, 0)), (.getfield 110, 3, (11, 45, 0)), (.iload_n 2, 1, (0, 0, 0)), (.iload_n 3, 1, (0, 0, 0)), (.iconst 1, 1, (0, 0, 0)), (.isub, 1, (0, 0, 0))] = true ∧ plen 32 [(.aload_n 0, 1, (0, 0, 0)), (.getfield 110, 3, (11, 45, 0)), (.iload_n 2, 1, (0, 0, 0)), (.iload_n 3, 1, (0, 0, 0)), (.iconst 1, 1, (0, 0, 0)), (.isub, 1, (0, 0, 0))] = 40 := by decide +kernel
theorem ok_X11_wayTo_41_1 : oks m_X11_wayTo.1 m_X11_wayTo.2.2.1 41 [(.iload_n 2, 1, (0, 0, 0))] = true ∧ plen 41 [(.iload_n 2, 1, (0, 0, 0))] = 42 := by decide +kernel
def L_X11_wayTo_4 (x2 : Int) (x3 : Int) (σ : Sg) : Option ((Int × Int × Sg) ⊕ (Int × Int × Sg)) :=
if x3 ≤ 3 then
some (.inr (x2, x3, σ))
else
(wrn 8 σ 34 x2 (jrem (wrap (x3 - 1)) 5)).bind fun s1 =>
bnd (jdiv (wrap (x3 - 1)) 5) fun v3 =>
some (.inl (wrap (x2 + 1), v3, s1))
def F_X11_wayTo (a1 : Int) (σ : Sg) : Option (Int × Sg) :=
(iter (fun a : (Int × Int × Sg) => L_X11_wayTo_4 a.1 a.2.1 a.2.2) 3000 (0, a1, σ)).bind fun y5 =>
(wrn 8 y5.2.2 34 y5.1 (wrap (y5.2.1 - 1))).bind fun s7 =>
some (y5.1, s7)
theorem lk_X11_wayTo (l : Launch) (d : Nat) (hd : 0 ≤ d) (a1 : Int) (σ : Sg) (q : (Int × Sg)) (h : F_X11_wayTo a1 σ = some q) : CT l d m_X11_wayTo.2.1 m_X11_wayTo.2.2.1 m_X11_wayTo.2.2.2.1 m_X11_wayTo.2.2.2.2 [.inr 0, .inl a1] (LAYM, σ) (some (.inl q.1)) (LAYM, q.2) := by
  skip
  have key : Go l m_X11_wayTo d LAYM (.inl (some (.inl q.1))) q.2 0 [some (.inr 0), some (.inl a1), none, none] [] σ := by
    unfold F_X11_wayTo at h
    have hL_X11_wayTo_4 : ∀ (n : Nat) (a : (Int × Int × Sg)) (y : (Int × Int × Sg)), iter (fun a : (Int × Int × Sg) => L_X11_wayTo_4 a.1 a.2.1 a.2.2) n a = some y → (fun y : (Int × Int × Sg) => Go l m_X11_wayTo d LAYM (.inl (some (.inl q.1))) q.2 32 [some (.inr 0), none, some (.inl y.1), some (.inl y.2.1)] [] y.2.2) y → (fun a : (Int × Int × Sg) => Go l m_X11_wayTo d LAYM (.inl (some (.inl q.1))) q.2 4 [some (.inr 0), none, some (.inl a.1), some (.inl a.2.1)] [] a.2.2) a := by
      skip
      refine go_iter (G := fun a : (Int × Int × Sg) => Go l m_X11_wayTo d LAYM (.inl (some (.inl q.1))) q.2 4 [some (.inr 0), none, some (.inl a.1), some (.inl a.2.1)] [] a.2.2) (K := fun y : (Int × Int × Sg) => Go l m_X11_wayTo d LAYM (.inl (some (.inl q.1))) q.2 32 [some (.inr 0), none, some (.inl y.1), some (.inl y.2.1)] [] y.2.2) ?_
      rintro ⟨x2, x3, σ⟩ w h hK
      replace h : L_X11_wayTo_4 x2 x3 σ = some w := h
      show Go l m_X11_wayTo d LAYM (.inl (some (.inl q.1))) q.2 4 [some (.inr 0), none, some (.inl x2), some (.inl x3)] [] σ
      unfold L_X11_wayTo_4 at h
      refine go_ops ok_X11_wayTo_4_2 (L' := [some (.inr 0), none, some (.inl x2), some (.inl x3)]) (st' := [.inl 3, .inl x3]) (σ1 := σ) rfl ?_
      refine go_icmp_le dc_X11_wayTo_6 (by rfl) (fun hc => ?_) (fun hc => ?_)
      · replace h := (if_pos hc).symm.trans h
        cases h
        exact hK
      · replace h := (if_neg hc).symm.trans h
        refine go_ops ok_X11_wayTo_9_7 (L' := [some (.inr 0), none, some (.inl x2), some (.inl x3)]) (st' := [.inl 5, .inl (wrap (x3 - 1)), .inl x2, .inr 34]) (σ1 := σ) rfl ?_
        refine go_rem dc_X11_wayTo_18 (by decide) ?_
        obtain ⟨s1, e2, h⟩ := bind_inv h
        refine go_wr (k := 34) dc_X11_wayTo_19 rfl e2 ?_
        refine go_ops ok_X11_wayTo_20_5 (L' := [some (.inr 0), none, some (.inl (wrap (x2 + 1))), some (.inl x3)]) (st' := [.inl 5, .inl (wrap (x3 - 1))]) (σ1 := s1) rfl ?_
        refine go_div dc_X11_wayTo_27 (by decide) ?_
        obtain ⟨v3, e4, h⟩ := bnd_inv h
        refine go_ops ok_X11_wayTo_28_1 (L' := [some (.inr 0), none, some (.inl (wrap (x2 + 1))), some (.inl v3)]) (st' := []) (σ1 := s1) (by subst e4; rfl) ?_
        refine go_goto dc_X11_wayTo_29 (by rfl) ?_
        cases h
        exact hK
    refine go_ops ok_X11_wayTo_0_4 (L' := [some (.inr 0), some (.inl a1), some (.inl 0), some (.inl a1)]) (st' := []) (σ1 := σ) rfl ?_
    refine go_wk (L' := [some (.inr 0), none, some (.inl 0), some (.inl a1)]) ⟨rfl, rfl, rfl, trivial⟩ ?_
    obtain ⟨y5, e6, h⟩ := bind_inv h
    refine hL_X11_wayTo_4  3000 (0, a1, σ) y5 e6 ?_
    show Go l m_X11_wayTo d LAYM (.inl (some (.inl q.1))) q.2 32 [some (.inr 0), none, some (.inl y5.1), some (.inl y5.2.1)] [] y5.2.2
    refine go_ops ok_X11_wayTo_32_6 (L' := [some (.inr 0), none, some (.inl y5.1), some (.inl y5.2.1)]) (st' := [.inl (wrap (y5.2.1 - 1)), .inl y5.1, .inr 34]) (σ1 := y5.2.2) rfl ?_
    obtain ⟨s7, e8, h⟩ := bind_inv h
    refine go_wr (k := 34) dc_X11_wayTo_40 rfl e8 ?_
    refine go_ops ok_X11_wayTo_41_1 (L' := [some (.inr 0), none, some (.inl y5.1), some (.inl y5.2.1)]) (st' := [.inl y5.1]) (σ1 := s7) rfl ?_
    have h9 := Option.some.inj h
    subst h9
    exact go_iret dc_X11_wayTo_42 rfl
  have hf := go_ct (as := [.inr 0, .inl a1]) mk_X11_wayTo (by rfl) (Nat.le_of_ble_eq_true rfl) key
  exact hf
theorem dc_X11_valueAt_2 : decode m_X11_valueAt.2.2.1 2 = .ok (.invokevirtual 254, 3) := by decide +kernel
theorem dc_X11_valueAt_15 : decode m_X11_valueAt.2.2.1 15 = .ok (.iaload, 1) := by decide +kernel
theorem dc_X11_valueAt_16 : decode m_X11_valueAt.2.2.1 16 = .ok (.iaload, 1) := by decide +kernel
theorem dc_X11_valueAt_25 : decode m_X11_valueAt.2.2.1 25 = .ok (.ifCond .lt 47, 3) := by decide +kernel
theorem dc_X11_valueAt_41 : decode m_X11_valueAt.2.2.1 41 = .ok (.iaload, 1) := by decide +kernel
theorem dc_X11_valueAt_43 : decode m_X11_valueAt.2.2.1 43 = .ok (.iaload, 1) := by decide +kernel
theorem dc_X11_valueAt_51 : decode m_X11_valueAt.2.2.1 51 = .ok (.iaload, 1) := by decide +kernel
theorem dc_X11_valueAt_53 : decode m_X11_valueAt.2.2.1 53 = .ok (.if_icmp .ne 10, 3) := by decide +kernel
theorem dc_X11_valueAt_60 : decode m_X11_valueAt.2.2.1 60 = .ok (.goto 5, 3) := by decide +kernel
theorem dc_X11_valueAt_69 : decode m_X11_valueAt.2.2.1 69 = .ok (.goto (-46), 3) := by decide +kernel
theorem dc_X11_valueAt_73 : decode m_X11_valueAt.2.2.1 73 = .ok (.ireturn, 1) := by decide +kernel
theorem ok_X11_valueAt_0_2 : oks m_X11_valueAt.1 m_X11_valueAt.2.2.1 0 [(.aload_n 0, 1, (0, 0, 0)), (.iload_n 1, 1, (0, 0, 0))] = true ∧ plen 0 [(.aload_n 0, 1, (0, 0, 0)), (.iload_n 1, 1, (0, 0, 0))] = 2 := by decide +kernel
theorem ok_X11_valueAt_5_6 : oks m_X11_valueAt.1 m_X11_valueAt.2.2.1 5 [(.istore_n 2, 1, (0, 0, 0)), (.aload_n 0, 1, (0, 0, 0)), (.getfield 113, 3, (11, 46, 0)), (.aload_n 0, 1, (0, 0, 0)), (.getfield 110, 3, (11, 45, 0)), (.iload_n 2, 1, (0, 0, 0))] = true ∧ plen 5 [(.istore_n 2, 1, (0, 0, 0)), (.aload_n 0, 1, (0, 0, 0)), (.getfield 113, 3, (11, 46, 0)), (.aload_n 0, 1, (0, 0, 0)), (.getfield 110, 3, (11, 45, 0)), (.iload_n 2, 1, (0, 0, 0))] = 15 := by decide +kernel
theorem ok_X11_valueAt_17_5 : oks m_X11_valueAt.1 m_X11_valueAt.2.2.1 17 [(.istore_n 3, 1, (0, 0, 0)), (.iload_n 2, 1, (0, 0, 0)), (.iconst 1, 1, (0, 0, 0)), (.isub, 1, (0, 0, 0)), (.istore 4, 2, (0, 0, 0))] = true ∧ plen 17 [(.istore_n 3, 1, (0, 0, 0)), (.iload_n 2, 1, (0, 0, 0)), (.iconst 1, 1, (0, 0, 0)), (.isub, 1, (0, 0, 0)), (.istore 4, 2, (0, 0, 0))] = 23 := by decide +kernel
theorem ok_X11_valueAt_23_1 : oks m_X11_valueAt.1 m_X11_valueAt.2.2.1 23 [(.iload 4, 2, (0, 0, 0))] = true ∧ plen 23 [(.iload 4, 2, (0, 0, 0))] = 25 := by decide +kernel
theorem ok_X11_valueAt_28_8 : oks m_X11_valueAt.1 m_X11_valueAt.2.2.1 28 [(.aload_n 0, 1, (0, 0, 0)), (.getfield 25, 3, (11, 7, 0)), (.iconst 3, 1, (0, 0, 0)), (.iload_n 3, 1, (0, 0, 0)), (.imul, 1, (0, 0, 0)), (.aload_n 0, 1, (0, 0, 0)), (.getfield 110, 3, (11, 45, 0)), (.iload 4, 2, (0, 0, 0))] = true ∧ plen 28 [(.aload_n 0, 1, (0, 0, 0)), (.getfield 25, 3, (11, 7, 0)), (.iconst 3, 1, (0, 0, 0)), (.iload_n 3, 1, (0, 0, 0)), (.imul, 1, (0, 0, 0)), (.aload_n 0, 1, (0, 0, 0)), (.getfield 110, 3, (11, 45, 0)), (.iload 4, 2, (0, 0, 0))] = 41 := by decide +kernel
theorem ok_X11_valueAt_42_1 : oks m_X11_valueAt.1 m_X11_valueAt.2.2.1 42 [(.iadd, 1, (0, 0, 0))] = true ∧ plen 42 [(.iadd, 1, (0, 0, 0))] = 43 := by decide +kernel
theorem ok_X11_valueAt_44_4 : oks m_X11_valueAt.1 m_X11_valueAt.2.2.1 44 [(.istore 5, 2, (0, 0, 0)), (.aload_n 0, 1, (0, 0, 0)), (.getfield 19, 3, (11, 5, 0)), (.iload_n 3, 1, (0, 0, 0))] = true ∧ plen 44 [(.istore 5, 2, (0, 0, 0)), (.aload_n 0, 1, (0, 0, 0)), (.getfield 19, 3, (11, 5, 0)), (.iload_n 3, 1, (0, 0, 0))] = 51 := by decide +kernel
theorem ok_X11_valueAt_52_1 : oks m_X11_valueAt.1 m_X11_valueAt.2.2.1 52 [(.iconst 5, 1, (0, 0, 0))] = true ∧ plen 52 [(.iconst 5, 1, (0, 0, 0))] = 53 := by decide +kernel
theorem ok_X11_valueAt_56_3 : oks m_X11_valueAt.1 m_X11_valueAt.2.2.1 56 [(.iconst (-1), 1, (0, 0, 0)), (.iload 5, 2, (0, 0, 0)), (.isub, 1, (0, 0, 0))] = true ∧ plen 56 [(.iconst (-1), 1, (0, 0, 0)), (.iload 5, 2, (0, 0, 0)), (.isub, 1, (0, 0, 0))] = 60 := by decide +kernel
theorem ok_X11_valueAt_63_1 : oks m_X11_valueAt.1 m_X11_valueAt.2.2.1 63 [(.iload 5, 2, (0, 0, 0))] = true ∧ plen 63 [(.iload 5, 2, (0, 0, 0))] = 65 := by decide +kernel
theorem ok_X11_valueAt_65_2 : oks m_X11_valueAt.1 m_X11_valueAt.2.2.1 65 [(.istore_n 3, 1, (0, 0, 0)), (.iinc 4 (-1), 3, (0, 0, 0))] = true ∧ plen 65 [(.istore_n 3, 1, (0, 0, 0)), (.iinc 4 (-1), 3, (0, 0, 0))] = 69 := by decide +kernel
theorem ok_X11_valueAt_72_1 : oks m_X11_valueAt.1 m_X11_valueAt.2.2.1 72 [(.iload_n 3, 1, (0, 0, 0))] = true ∧ plen 72 [(.iload_n 3, 1, (0, 0, 0))] = 73 := by decide +kernel
def B_X11_valueAt_65 (x4 : Int) (y0 : Int) (σ : Sg) : Option ((Int × Int) ⊕ Int) :=
some (.inl (y0, wrap (x4 + (-1))))
def L_X11_valueAt_23 (σ : Sg) (x3 : Int) (x4 : Int) : Option ((Int × Int) ⊕ Int) :=
if x4 < 0 then
some (.inr x3)
else
(rdn 8 σ 34 x4).bind fun v9 =>
(rdn 120 σ 6 (wrap ((wrap (3 * x3)) + v9))).bind fun v11 =>
(rdn 40 σ 4 x3).bind fun v13 =>
if v13 = 5 then
B_X11_valueAt_65 x4 (wrap ((-1) - v11)) σ
else
B_X11_valueAt_65 x4 v11 σ
def F_X11_valueAt (a1 : Int) (σ : Sg) : Option (Int × Sg) :=
(F_X11_wayTo a1 σ).bind fun q1 =>
(rdn 8 q1.2 34 q1.1).bind fun v3 =>
(rdn 3 q1.2 35 v3).bind fun v5 =>
bnd (wrap (q1.1 - 1)) fun v7 =>
(iter (fun a : (Int × Int) => L_X11_valueAt_23 q1.2 a.1 a.2) 3000 (v5, v7)).bind fun y15 =>
some (y15, q1.2)
theorem lk_X11_valueAt (l : Launch) (d : Nat) (hd : 1 ≤ d) (a1 : Int) (σ : Sg) (q : (Int × Sg)) (h : F_X11_valueAt a1 σ = some q) : CT l d m_X11_valueAt.2.1 m_X11_valueAt.2.2.1 m_X11_valueAt.2.2.2.1 m_X11_valueAt.2.2.2.2 [.inr 0, .inl a1] (LAYM, σ) (some (.inl q.1)) (LAYM, q.2) := by
  obtain ⟨d, rfl⟩ : ∃ e, d = e + 1 := ⟨d - 1, by omega⟩
  have key : Go l m_X11_valueAt (d + 1) LAYM (.inl (some (.inl q.1))) q.2 0 [some (.inr 0), some (.inl a1), none, none, none, none] [] σ := by
    unfold F_X11_valueAt at h
    have hL_X11_valueAt_23 : ∀ (σ : Sg) (n : Nat) (a : (Int × Int)) (y : Int), iter (fun a : (Int × Int) => L_X11_valueAt_23 σ a.1 a.2) n a = some y → (fun y : Int => Go l m_X11_valueAt (d + 1) LAYM (.inl (some (.inl q.1))) q.2 72 [none, none, none, some (.inl y), none, none] [] σ) y → (fun a : (Int × Int) => Go l m_X11_valueAt (d + 1) LAYM (.inl (some (.inl q.1))) q.2 23 [some (.inr 0), none, none, some (.inl a.1), some (.inl a.2), none] [] σ) a := by
      intro σ
      refine go_iter (G := fun a : (Int × Int) => Go l m_X11_valueAt (d + 1) LAYM (.inl (some (.inl q.1))) q.2 23 [some (.inr 0), none, none, some (.inl a.1), some (.inl a.2), none] [] σ) (K := fun y : Int => Go l m_X11_valueAt (d + 1) LAYM (.inl (some (.inl q.1))) q.2 72 [none, none, none, some (.inl y), none, none] [] σ) ?_
      rintro ⟨x3, x4⟩ w h hK
      replace h : L_X11_valueAt_23 σ x3 x4 = some w := h
      show Go l m_X11_valueAt (d + 1) LAYM (.inl (some (.inl q.1))) q.2 23 [some (.inr 0), none, none, some (.inl x3), some (.inl x4), none] [] σ
      unfold L_X11_valueAt_23 at h
      have hB_X11_valueAt_65 : ∀ (x4 : Int) (y0 : Int), B_X11_valueAt_65 x4 y0 σ = some w → Go l m_X11_valueAt (d + 1) LAYM (.inl (some (.inl q.1))) q.2 65 [some (.inr 0), none, none, none, some (.inl x4), none] [.inl y0] σ := by
        intro x4 y0 h
        unfold B_X11_valueAt_65 at h
        refine go_ops ok_X11_valueAt_65_2 (L' := [some (.inr 0), none, none, some (.inl y0), some (.inl (wrap (x4 + (-1)))), none]) (st' := []) (σ1 := σ) rfl ?_
        refine go_goto dc_X11_valueAt_69 (by rfl) ?_
        cases h
        exact hK
      refine go_ops ok_X11_valueAt_23_1 (L' := [some (.inr 0), none, none, some (.inl x3), some (.inl x4), none]) (st' := [.inl x4]) (σ1 := σ) rfl ?_
      refine go_if_lt dc_X11_valueAt_25 (by rfl) (fun hc => ?_) (fun hc => ?_)
      · replace h := (if_pos hc).symm.trans h
        cases h
        refine go_wk (L' := [none, none, none, some (.inl x3), none, none]) ⟨rfl, trivial⟩ ?_
        exact hK
      · replace h := (if_neg hc).symm.trans h
        refine go_ops ok_X11_valueAt_28_8 (L' := [some (.inr 0), none, none, some (.inl x3), some (.inl x4), none]) (st' := [.inl x4, .inr 34, .inl (wrap (3 * x3)), .inr 6]) (σ1 := σ) rfl ?_
        obtain ⟨v9, e10, h⟩ := bind_inv h
        refine go_rd (k := 34) dc_X11_valueAt_41 rfl e10 ?_
        refine go_ops ok_X11_valueAt_42_1 (L' := [some (.inr 0), none, none, some (.inl x3), some (.inl x4), none]) (st' := [.inl (wrap ((wrap (3 * x3)) + v9)), .inr 6]) (σ1 := σ) rfl ?_
        obtain ⟨v11, e12, h⟩ := bind_inv h
        refine go_rd (k := 6) dc_X11_valueAt_43 rfl e12 ?_
        refine go_ops ok_X11_valueAt_44_4 (L' := [some (.inr 0), none, none, some (.inl x3), some (.inl x4), some (.inl v11)]) (st' := [.inl x3, .inr 4]) (σ1 := σ) rfl ?_
        obtain ⟨v13, e14, h⟩ := bind_inv h
        refine go_rd (k := 4) dc_X11_valueAt_51 rfl e14 ?_
        refine go_ops ok_X11_valueAt_52_1 (L' := [some (.inr 0), none, none, some (.inl x3), some (.inl x4), some (.inl v11)]) (st' := [.inl 5, .inl v13]) (σ1 := σ) rfl ?_
        refine go_icmp_ne dc_X11_valueAt_53 (by rfl) (fun hc => ?_) (fun hc => ?_)
        · replace h := (if_neg hc).symm.trans h
          refine go_ops ok_X11_valueAt_63_1 (L' := [some (.inr 0), none, none, some (.inl x3), some (.inl x4), some (.inl v11)]) (st' := [.inl v11]) (σ1 := σ) rfl ?_
          refine go_wk (L' := [some (.inr 0), none, none, none, some (.inl x4), none]) ⟨rfl, rfl, trivial⟩ ?_
          exact hB_X11_valueAt_65 x4 v11 h
        · replace h := (if_pos hc).symm.trans h
          refine go_ops ok_X11_valueAt_56_3 (L' := [some (.inr 0), none, none, some (.inl x3), some (.inl x4), some (.inl v11)]) (st' := [.inl (wrap ((-1) - v11))]) (σ1 := σ) rfl ?_
          refine go_goto dc_X11_valueAt_60 (by rfl) ?_
          refine go_wk (L' := [some (.inr 0), none, none, none, some (.inl x4), none]) ⟨rfl, rfl, trivial⟩ ?_
          exact hB_X11_valueAt_65 x4 (wrap ((-1) - v11)) h
    refine go_ops ok_X11_valueAt_0_2 (L' := [some (.inr 0), some (.inl a1), none, none, none, none]) (st' := [.inl a1, .inr 0]) (σ1 := σ) rfl ?_
    obtain ⟨q1, e2, h⟩ := bind_inv h
    refine go_V (M1 := m_X11_wayTo) (as := [.inl a1]) (st := []) (k := 0) (ci := 11) dc_X11_valueAt_2 ln_11_254 im_X11_wayTo (by decide) rfl rfl mk_X11_wayTo rfl (Nat.le_of_ble_eq_true rfl) (Nat.le_refl _) (v := (some (.inl q1.1))) (σ1 := q1.2) (lk_X11_wayTo l d (by omega) a1 σ q1 e2) _ rfl ?_
    refine go_ops ok_X11_valueAt_5_6 (L' := [some (.inr 0), some (.inl a1), some (.inl q1.1), none, none, none]) (st' := [.inl q1.1, .inr 34, .inr 35]) (σ1 := q1.2) rfl ?_
    obtain ⟨v3, e4, h⟩ := bind_inv h
    refine go_rd (k := 34) dc_X11_valueAt_15 rfl e4 ?_
    obtain ⟨v5, e6, h⟩ := bind_inv h
    refine go_rd (k := 35) dc_X11_valueAt_16 rfl e6 ?_
    obtain ⟨v7, e8, h⟩ := bnd_inv h
    refine go_ops ok_X11_valueAt_17_5 (L' := [some (.inr 0), some (.inl a1), some (.inl q1.1), some (.inl v5), some (.inl v7), none]) (st' := []) (σ1 := q1.2) (by subst e8; rfl) ?_
    refine go_wk (L' := [some (.inr 0), none, none, some (.inl v5), some (.inl v7), none]) ⟨rfl, rfl, rfl, trivial⟩ ?_
    obtain ⟨y15, e16, h⟩ := bind_inv h
    refine hL_X11_valueAt_23 q1.2 3000 (v5, v7) y15 e16 ?_
    show Go l m_X11_valueAt (d + 1) LAYM (.inl (some (.inl q.1))) q.2 72 [none, none, none, some (.inl y15), none, none] [] q1.2
    refine go_ops ok_X11_valueAt_72_1 (L' := [none, none, none, some (.inl y15), none, none]) (st' := [.inl y15]) (σ1 := q1.2) rfl ?_
    have h9 := Option.some.inj h
    subst h9
    exact go_iret dc_X11_valueAt_73 rfl
  have hf := go_ct (as := [.inr 0, .inl a1]) mk_X11_valueAt (by rfl) (Nat.le_of_ble_eq_true rfl) key
  exact hf
theorem dc_X11_headAt_2 : decode m_X11_headAt.2.2.1 2 = .ok (.invokevirtual 258, 3) := by decide +kernel
theorem dc_X11_headAt_7 : decode m_X11_headAt.2.2.1 7 = .ok (.ifCond .ge 9, 3) := by decide +kernel
theorem dc_X11_headAt_13 : decode m_X11_headAt.2.2.1 13 = .ok (.goto 9, 3) := by decide +kernel
theorem dc_X11_headAt_21 : decode m_X11_headAt.2.2.1 21 = .ok (.iaload, 1) := by decide +kernel
theorem dc_X11_headAt_22 : decode m_X11_headAt.2.2.1 22 = .ok (.ireturn, 1) := by decide +kernel
theorem ok_X11_headAt_0_2 : oks m_X11_headAt.1 m_X11_headAt.2.2.1 0 [(.aload_n 0, 1, (0, 0, 0)), (.iload_n 1, 1, (0, 0, 0))] = true ∧ plen 0 [(.aload_n 0, 1, (0, 0, 0)), (.iload_n 1, 1, (0, 0, 0))] = 2 := by decide +kernel
theorem ok_X11_headAt_5_2 : oks m_X11_headAt.1 m_X11_headAt.2.2.1 5 [(.istore_n 2, 1, (0, 0, 0)), (.iload_n 2, 1, (0, 0, 0))] = true ∧ plen 5 [(.istore_n 2, 1, (0, 0, 0)), (.iload_n 2, 1, (0, 0, 0))] = 7 := by decide +kernel
theorem ok_X11_headAt_10_3 : oks m_X11_headAt.1 m_X11_headAt.2.2.1 10 [(.iconst (-1), 1, (0, 0, 0)), (.iload_n 2, 1, (0, 0, 0)), (.isub, 1, (0, 0, 0))] = true ∧ plen 10 [(.iconst (-1), 1, (0, 0, 0)), (.iload_n 2, 1, (0, 0, 0)), (.isub, 1, (0, 0, 0))] = 13 := by decide +kernel
theorem ok_X11_headAt_16_3 : oks m_X11_headAt.1 m_X11_headAt.2.2.1 16 [(.aload_n 0, 1, (0, 0, 0)), (.getfield 22, 3, (11, 6, 0)), (.iload_n 2, 1, (0, 0, 0))] = true ∧ plen 16 [(.aload_n 0, 1, (0, 0, 0)), (.getfield 22, 3, (11, 6, 0)), (.iload_n 2, 1, (0, 0, 0))] = 21 := by decide +kernel
def F_X11_headAt (a1 : Int) (σ : Sg) : Option (Int × Sg) :=
(F_X11_valueAt a1 σ).bind fun q1 =>
if 0 ≤ q1.1 then
(rdn 40 q1.2 5 q1.1).bind fun v3 =>
some (v3, q1.2)
else
some (wrap ((-1) - q1.1), q1.2)
theorem lk_X11_headAt (l : Launch) (d : Nat) (hd : 2 ≤ d) (a1 : Int) (σ : Sg) (q : (Int × Sg)) (h : F_X11_headAt a1 σ = some q) : CT l d m_X11_headAt.2.1 m_X11_headAt.2.2.1 m_X11_headAt.2.2.2.1 m_X11_headAt.2.2.2.2 [.inr 0, .inl a1] (LAYM, σ) (some (.inl q.1)) (LAYM, q.2) := by
  obtain ⟨d, rfl⟩ : ∃ e, d = e + 1 := ⟨d - 1, by omega⟩
  have key : Go l m_X11_headAt (d + 1) LAYM (.inl (some (.inl q.1))) q.2 0 [some (.inr 0), some (.inl a1), none] [] σ := by
    unfold F_X11_headAt at h
    refine go_ops ok_X11_headAt_0_2 (L' := [some (.inr 0), some (.inl a1), none]) (st' := [.inl a1, .inr 0]) (σ1 := σ) rfl ?_
    obtain ⟨q1, e2, h⟩ := bind_inv h
    refine go_V (M1 := m_X11_valueAt) (as := [.inl a1]) (st := []) (k := 0) (ci := 11) dc_X11_headAt_2 ln_11_258 im_X11_valueAt (by decide) rfl rfl mk_X11_valueAt rfl (Nat.le_of_ble_eq_true rfl) (Nat.le_refl _) (v := (some (.inl q1.1))) (σ1 := q1.2) (lk_X11_valueAt l d (by omega) a1 σ q1 e2) _ rfl ?_
    refine go_ops ok_X11_headAt_5_2 (L' := [some (.inr 0), some (.inl a1), some (.inl q1.1)]) (st' := [.inl q1.1]) (σ1 := q1.2) rfl ?_
    refine go_if_ge dc_X11_headAt_7 (by rfl) (fun hc => ?_) (fun hc => ?_)
    · replace h := (if_pos hc).symm.trans h
      refine go_ops ok_X11_headAt_16_3 (L' := [some (.inr 0), some (.inl a1), some (.inl q1.1)]) (st' := [.inl q1.1, .inr 5]) (σ1 := q1.2) rfl ?_
      obtain ⟨v3, e4, h⟩ := bind_inv h
      refine go_rd (k := 5) dc_X11_headAt_21 rfl e4 ?_
      have h9 := Option.some.inj h
      subst h9
      exact go_iret dc_X11_headAt_22 rfl
    · replace h := (if_neg hc).symm.trans h
      refine go_ops ok_X11_headAt_10_3 (L' := [some (.inr 0), some (.inl a1), some (.inl q1.1)]) (st' := [.inl (wrap ((-1) - q1.1))]) (σ1 := q1.2) rfl ?_
      refine go_goto dc_X11_headAt_13 (by rfl) ?_
      have h9 := Option.some.inj h
      subst h9
      exact go_iret dc_X11_headAt_22 rfl
  have hf := go_ct (as := [.inr 0, .inl a1]) mk_X11_headAt (by rfl) (Nat.le_of_ble_eq_true rfl) key
  exact hf
theorem dc_X11_measureAt_2 : decode m_X11_measureAt.2.2.1 2 = .ok (.invokevirtual 258, 3) := by decide +kernel
theorem dc_X11_measureAt_7 : decode m_X11_measureAt.2.2.1 7 = .ok (.ifCond .ge 9, 3) := by decide +kernel
theorem dc_X11_measureAt_13 : decode m_X11_measureAt.2.2.1 13 = .ok (.goto 9, 3) := by decide +kernel
theorem dc_X11_measureAt_21 : decode m_X11_measureAt.2.2.1 21 = .ok (.iaload, 1) := by decide +kernel
theorem dc_X11_measureAt_22 : decode m_X11_measureAt.2.2.1 22 = .ok (.ireturn, 1) := by decide +kernel
theorem ok_X11_measureAt_0_2 : oks m_X11_measureAt.1 m_X11_measureAt.2.2.1 0 [(.aload_n 0, 1, (0, 0, 0)), (.iload_n 1, 1, (0, 0, 0))] = true ∧ plen 0 [(.aload_n 0, 1, (0, 0, 0)), (.iload_n 1, 1, (0, 0, 0))] = 2 := by decide +kernel
theorem ok_X11_measureAt_5_2 : oks m_X11_measureAt.1 m_X11_measureAt.2.2.1 5 [(.istore_n 2, 1, (0, 0, 0)), (.iload_n 2, 1, (0, 0, 0))] = true ∧ plen 5 [(.istore_n 2, 1, (0, 0, 0)), (.iload_n 2, 1, (0, 0, 0))] = 7 := by decide +kernel
theorem ok_X11_measureAt_10_3 : oks m_X11_measureAt.1 m_X11_measureAt.2.2.1 10 [(.iconst (-1), 1, (0, 0, 0)), (.iload_n 2, 1, (0, 0, 0)), (.isub, 1, (0, 0, 0))] = true ∧ plen 10 [(.iconst (-1), 1, (0, 0, 0)), (.iload_n 2, 1, (0, 0, 0)), (.isub, 1, (0, 0, 0))] = 13 := by decide +kernel
theorem ok_X11_measureAt_16_3 : oks m_X11_measureAt.1 m_X11_measureAt.2.2.1 16 [(.aload_n 0, 1, (0, 0, 0)), (.getfield 28, 3, (11, 8, 0)), (.iload_n 2, 1, (0, 0, 0))] = true ∧ plen 16 [(.aload_n 0, 1, (0, 0, 0)), (.getfield 28, 3, (11, 8, 0)), (.iload_n 2, 1, (0, 0, 0))] = 21 := by decide +kernel
def F_X11_measureAt (a1 : Int) (σ : Sg) : Option (Int × Sg) :=
(F_X11_valueAt a1 σ).bind fun q1 =>
if 0 ≤ q1.1 then
(rdn 40 q1.2 7 q1.1).bind fun v3 =>
some (v3, q1.2)
else
some (wrap ((-1) - q1.1), q1.2)
theorem lk_X11_measureAt (l : Launch) (d : Nat) (hd : 2 ≤ d) (a1 : Int) (σ : Sg) (q : (Int × Sg)) (h : F_X11_measureAt a1 σ = some q) : CT l d m_X11_measureAt.2.1 m_X11_measureAt.2.2.1 m_X11_measureAt.2.2.2.1 m_X11_measureAt.2.2.2.2 [.inr 0, .inl a1] (LAYM, σ) (some (.inl q.1)) (LAYM, q.2) := by
  obtain ⟨d, rfl⟩ : ∃ e, d = e + 1 := ⟨d - 1, by omega⟩
  have key : Go l m_X11_measureAt (d + 1) LAYM (.inl (some (.inl q.1))) q.2 0 [some (.inr 0), some (.inl a1), none] [] σ := by
    unfold F_X11_measureAt at h
    refine go_ops ok_X11_measureAt_0_2 (L' := [some (.inr 0), some (.inl a1), none]) (st' := [.inl a1, .inr 0]) (σ1 := σ) rfl ?_
    obtain ⟨q1, e2, h⟩ := bind_inv h
    refine go_V (M1 := m_X11_valueAt) (as := [.inl a1]) (st := []) (k := 0) (ci := 11) dc_X11_measureAt_2 ln_11_258 im_X11_valueAt (by decide) rfl rfl mk_X11_valueAt rfl (Nat.le_of_ble_eq_true rfl) (Nat.le_refl _) (v := (some (.inl q1.1))) (σ1 := q1.2) (lk_X11_valueAt l d (by omega) a1 σ q1 e2) _ rfl ?_
    refine go_ops ok_X11_measureAt_5_2 (L' := [some (.inr 0), some (.inl a1), some (.inl q1.1)]) (st' := [.inl q1.1]) (σ1 := q1.2) rfl ?_
    refine go_if_ge dc_X11_measureAt_7 (by rfl) (fun hc => ?_) (fun hc => ?_)
    · replace h := (if_pos hc).symm.trans h
      refine go_ops ok_X11_measureAt_16_3 (L' := [some (.inr 0), some (.inl a1), some (.inl q1.1)]) (st' := [.inl q1.1, .inr 7]) (σ1 := q1.2) rfl ?_
      obtain ⟨v3, e4, h⟩ := bind_inv h
      refine go_rd (k := 7) dc_X11_measureAt_21 rfl e4 ?_
      have h9 := Option.some.inj h
      subst h9
      exact go_iret dc_X11_measureAt_22 rfl
    · replace h := (if_neg hc).symm.trans h
      refine go_ops ok_X11_measureAt_10_3 (L' := [some (.inr 0), some (.inl a1), some (.inl q1.1)]) (st' := [.inl (wrap ((-1) - q1.1))]) (σ1 := q1.2) rfl ?_
      refine go_goto dc_X11_measureAt_13 (by rfl) ?_
      have h9 := Option.some.inj h
      subst h9
      exact go_iret dc_X11_measureAt_22 rfl
  have hf := go_ct (as := [.inr 0, .inl a1]) mk_X11_measureAt (by rfl) (Nat.le_of_ble_eq_true rfl) key
  exact hf
theorem dc_X11_factAt_1 : decode m_X11_factAt.2.2.1 1 = .ok (.ifCond .ge 7, 3) := by decide +kernel
theorem dc_X11_factAt_7 : decode m_X11_factAt.2.2.1 7 = .ok (.ireturn, 1) := by decide +kernel
theorem dc_X11_factAt_12 : decode m_X11_factAt.2.2.1 12 = .ok (.ifCond .eq 9, 3) := by decide +kernel
theorem dc_X11_factAt_17 : decode m_X11_factAt.2.2.1 17 = .ok (.invokevirtual 265, 3) := by decide +kernel
theorem dc_X11_factAt_20 : decode m_X11_factAt.2.2.1 20 = .ok (.ireturn, 1) := by decide +kernel
theorem dc_X11_factAt_30 : decode m_X11_factAt.2.2.1 30 = .ok (.ifCond .le 61, 3) := by decide +kernel
theorem dc_X11_factAt_42 : decode m_X11_factAt.2.2.1 42 = .ok (.iaload, 1) := by decide +kernel
theorem dc_X11_factAt_43 : decode m_X11_factAt.2.2.1 43 = .ok (.iaload, 1) := by decide +kernel
theorem dc_X11_factAt_45 : decode m_X11_factAt.2.2.1 45 = .ok (.if_icmp .ne 34, 3) := by decide +kernel
theorem dc_X11_factAt_57 : decode m_X11_factAt.2.2.1 57 = .ok (.iaload, 1) := by decide +kernel
theorem dc_X11_factAt_58 : decode m_X11_factAt.2.2.1 58 = .ok (.iaload, 1) := by decide +kernel
theorem dc_X11_factAt_60 : decode m_X11_factAt.2.2.1 60 = .ok (.if_icmp .ne 19, 3) := by decide +kernel
theorem dc_X11_factAt_73 : decode m_X11_factAt.2.2.1 73 = .ok (.iaload, 1) := by decide +kernel
theorem dc_X11_factAt_74 : decode m_X11_factAt.2.2.1 74 = .ok (.iaload, 1) := by decide +kernel
theorem dc_X11_factAt_76 : decode m_X11_factAt.2.2.1 76 = .ok (.goto 4, 3) := by decide +kernel
theorem dc_X11_factAt_86 : decode m_X11_factAt.2.2.1 86 = .ok (.iaload, 1) := by decide +kernel
theorem dc_X11_factAt_88 : decode m_X11_factAt.2.2.1 88 = .ok (.goto (-59), 3) := by decide +kernel
theorem dc_X11_factAt_92 : decode m_X11_factAt.2.2.1 92 = .ok (.ireturn, 1) := by decide +kernel
theorem ok_X11_factAt_0_1 : oks m_X11_factAt.1 m_X11_factAt.2.2.1 0 [(.iload_n 1, 1, (0, 0, 0))] = true ∧ plen 0 [(.iload_n 1, 1, (0, 0, 0))] = 1 := by decide +kernel
theorem ok_X11_factAt_4_3 : oks m_X11_factAt.1 m_X11_factAt.2.2.1 4 [(.iconst (-1), 1, (0, 0, 0)), (.iload_n 1, 1, (0, 0, 0)), (.isub, 1, (0, 0, 0))] = true ∧ plen 4 [(.iconst (-1), 1, (0, 0, 0)), (.iload_n 1, 1, (0, 0, 0)), (.isub, 1, (0, 0, 0))] = 7 := by decide +kernel
theorem ok_X11_factAt_8_2 : oks m_X11_factAt.1 m_X11_factAt.2.2.1 8 [(.aload_n 0, 1, (0, 0, 0)), (.getfield 261, 3, (11, 40, 0))] = true ∧ plen 8 [(.aload_n 0, 1, (0, 0, 0)), (.getfield 261, 3, (11, 40, 0))] = 12 := by decide +kernel
theorem ok_X11_factAt_15_2 : oks m_X11_factAt.1 m_X11_factAt.2.2.1 15 [(.aload_n 0, 1, (0, 0, 0)), (.iload_n 1, 1, (0, 0, 0))] = true ∧ plen 15 [(.aload_n 0, 1, (0, 0, 0)), (.iload_n 1, 1, (0, 0, 0))] = 17 := by decide +kernel
theorem ok_X11_factAt_21_5 : oks m_X11_factAt.1 m_X11_factAt.2.2.1 21 [(.bipush (-9), 2, (0, 0, 0)), (.istore_n 2, 1, (0, 0, 0)), (.aload_n 0, 1, (0, 0, 0)), (.getfield 268, 3, (11, 41, 0)), (.istore_n 3, 1, (0, 0, 0))] = true ∧ plen 21 [(.bipush (-9), 2, (0, 0, 0)), (.istore_n 2, 1, (0, 0, 0)), (.aload_n 0, 1, (0, 0, 0)), (.getfield 268, 3, (11, 41, 0)), (.istore_n 3, 1, (0, 0, 0))] = 29 := by decide +kernel
theorem ok_X11_factAt_29_1 : oks m_X11_factAt.1 m_X11_factAt.2.2.1 29 [(.iload_n 3, 1, (0, 0, 0))] = true ∧ plen 29 [(.iload_n 3, 1, (0, 0, 0))] = 30 := by decide +kernel
theorem ok_X11_factAt_33_5 : oks m_X11_factAt.1 m_X11_factAt.2.2.1 33 [(.aload_n 0, 1, (0, 0, 0)), (.getfield 131, 3, (11, 58, 0)), (.aload_n 0, 1, (0, 0, 0)), (.getfield 128, 3, (11, 57, 0)), (.iload_n 3, 1, (0, 0, 0))] = true ∧ plen 33 [(.aload_n 0, 1, (0, 0, 0)), (.getfield 131, 3, (11, 58, 0)), (.aload_n 0, 1, (0, 0, 0)), (.getfield 128, 3, (11, 57, 0)), (.iload_n 3, 1, (0, 0, 0))] = 42 := by decide +kernel
theorem ok_X11_factAt_44_1 : oks m_X11_factAt.1 m_X11_factAt.2.2.1 44 [(.iconst 5, 1, (0, 0, 0))] = true ∧ plen 44 [(.iconst 5, 1, (0, 0, 0))] = 45 := by decide +kernel
theorem ok_X11_factAt_48_5 : oks m_X11_factAt.1 m_X11_factAt.2.2.1 48 [(.aload_n 0, 1, (0, 0, 0)), (.getfield 137, 3, (11, 60, 0)), (.aload_n 0, 1, (0, 0, 0)), (.getfield 128, 3, (11, 57, 0)), (.iload_n 3, 1, (0, 0, 0))] = true ∧ plen 48 [(.aload_n 0, 1, (0, 0, 0)), (.getfield 137, 3, (11, 60, 0)), (.aload_n 0, 1, (0, 0, 0)), (.getfield 128, 3, (11, 57, 0)), (.iload_n 3, 1, (0, 0, 0))] = 57 := by decide +kernel
theorem ok_X11_factAt_59_1 : oks m_X11_factAt.1 m_X11_factAt.2.2.1 59 [(.iload_n 1, 1, (0, 0, 0))] = true ∧ plen 59 [(.iload_n 1, 1, (0, 0, 0))] = 60 := by decide +kernel
theorem ok_X11_factAt_63_6 : oks m_X11_factAt.1 m_X11_factAt.2.2.1 63 [(.iload_n 3, 1, (0, 0, 0)), (.aload_n 0, 1, (0, 0, 0)), (.getfield 140, 3, (11, 61, 0)), (.aload_n 0, 1, (0, 0, 0)), (.getfield 128, 3, (11, 57, 0)), (.iload_n 3, 1, (0, 0, 0))] = true ∧ plen 63 [(.iload_n 3, 1, (0, 0, 0)), (.aload_n 0, 1, (0, 0, 0)), (.getfield 140, 3, (11, 61, 0)), (.aload_n 0, 1, (0, 0, 0)), (.getfield 128, 3, (11, 57, 0)), (.iload_n 3, 1, (0, 0, 0))] = 73 := by decide +kernel
theorem ok_X11_factAt_75_1 : oks m_X11_factAt.1 m_X11_factAt.2.2.1 75 [(.isub, 1, (0, 0, 0))] = true ∧ plen 75 [(.isub, 1, (0, 0, 0))] = 76 := by decide +kernel
theorem ok_X11_factAt_79_1 : oks m_X11_factAt.1 m_X11_factAt.2.2.1 79 [(.iload_n 2, 1, (0, 0, 0))] = true ∧ plen 79 [(.iload_n 2, 1, (0, 0, 0))] = 80 := by decide +kernel
theorem ok_X11_factAt_80_4 : oks m_X11_factAt.1 m_X11_factAt.2.2.1 80 [(.istore_n 2, 1, (0, 0, 0)), (.aload_n 0, 1, (0, 0, 0)), (.getfield 128, 3, (11, 57, 0)), (.iload_n 3, 1, (0, 0, 0))] = true ∧ plen 80 [(.istore_n 2, 1, (0, 0, 0)), (.aload_n 0, 1, (0, 0, 0)), (.getfield 128, 3, (11, 57, 0)), (.iload_n 3, 1, (0, 0, 0))] = 86 := by decide +kernel
theorem ok_X11_factAt_87_1 : oks m_X11_factAt.1 m_X11_factAt.2.2.1 87 [(.istore_n 3, 1, (0, 0, 0))] = true ∧ plen 87 [(.istore_n 3, 1, (0, 0, 0))] = 88 := by decide +kernel
theorem ok_X11_factAt_91_1 : oks m_X11_factAt.1 m_X11_factAt.2.2.1 91 [(.iload_n 2, 1, (0, 0, 0))] = true ∧ plen 91 [(.iload_n 2, 1, (0, 0, 0))] = 92 := by decide +kernel
def B_X11_factAt_80 (x3 : Int) (y0 : Int) (σ : Sg) : Option ((Int × Int) ⊕ Int) :=
(rdn 512 σ 40 x3).bind fun v7 =>
some (.inl (y0, v7))
def B_X11_factAt_79 (x2 : Int) (x3 : Int) (σ : Sg) : Option ((Int × Int) ⊕ Int) :=
B_X11_factAt_80 x3 x2 σ
def L_X11_factAt_29 (x1 : Int) (σ : Sg) (x2 : Int) (x3 : Int) : Option ((Int × Int) ⊕ Int) :=
if x3 ≤ 0 then
some (.inr x2)
else
(rdn 512 σ 40 x3).bind fun v3 =>
(rdn 512 σ 41 v3).bind fun v5 =>
if v5 = 5 then
(rdn 512 σ 40 x3).bind fun v9 =>
(rdn 512 σ 43 v9).bind fun v11 =>
if v11 = x1 then
(rdn 512 σ 40 x3).bind fun v13 =>
(rdn 512 σ 44 v13).bind fun v15 =>
B_X11_factAt_80 x3 (wrap (x3 - v15)) σ
else
B_X11_factAt_79 x2 x3 σ
else
B_X11_factAt_79 x2 x3 σ
def F_X11_factAt (a1 : Int) (σ : Sg) : Option (Int × Sg) :=
if 0 ≤ a1 then
if (σ 0 40) = 0 then
bnd (σ 0 41) fun v1 =>
(iter (fun a : (Int × Int) => L_X11_factAt_29 a1 σ a.1 a.2) 3000 ((-9), v1)).bind fun y17 =>
some (y17, σ)
else
(F_X11_headAt a1 σ).bind fun q19 =>
some (q19.1, q19.2)
else
some (wrap ((-1) - a1), σ)
theorem lk_X11_factAt (l : Launch) (d : Nat) (hd : 3 ≤ d) (a1 : Int) (σ : Sg) (q : (Int × Sg)) (h : F_X11_factAt a1 σ = some q) : CT l d m_X11_factAt.2.1 m_X11_factAt.2.2.1 m_X11_factAt.2.2.2.1 m_X11_factAt.2.2.2.2 [.inr 0, .inl a1] (LAYM, σ) (some (.inl q.1)) (LAYM, q.2) := by
  obtain ⟨d, rfl⟩ : ∃ e, d = e + 1 := ⟨d - 1, by omega⟩
  have key : Go l m_X11_factAt (d + 1) LAYM (.inl (some (.inl q.1))) q.2 0 [some (.inr 0), some (.inl a1), none, none] [] σ := by
    unfold F_X11_factAt at h
    have hL_X11_factAt_29 : ∀ (x1 : Int) (σ : Sg) (n : Nat) (a : (Int × Int)) (y : Int), iter (fun a : (Int × Int) => L_X11_factAt_29 x1 σ a.1 a.2) n a = some y → (fun y : Int => Go l m_X11_factAt (d + 1) LAYM (.inl (some (.inl q.1))) q.2 91 [none, none, some (.inl y), none] [] σ) y → (fun a : (Int × Int) => Go l m_X11_factAt (d + 1) LAYM (.inl (some (.inl q.1))) q.2 29 [some (.inr 0), some (.inl x1), some (.inl a.1), some (.inl a.2)] [] σ) a := by
      intro x1 σ
      refine go_iter (G := fun a : (Int × Int) => Go l m_X11_factAt (d + 1) LAYM (.inl (some (.inl q.1))) q.2 29 [some (.inr 0), some (.inl x1), some (.inl a.1), some (.inl a.2)] [] σ) (K := fun y : Int => Go l m_X11_factAt (d + 1) LAYM (.inl (some (.inl q.1))) q.2 91 [none, none, some (.inl y), none] [] σ) ?_
      rintro ⟨x2, x3⟩ w h hK
      replace h : L_X11_factAt_29 x1 σ x2 x3 = some w := h
      show Go l m_X11_factAt (d + 1) LAYM (.inl (some (.inl q.1))) q.2 29 [some (.inr 0), some (.inl x1), some (.inl x2), some (.inl x3)] [] σ
      unfold L_X11_factAt_29 at h
      have hB_X11_factAt_80 : ∀ (x3 : Int) (y0 : Int), B_X11_factAt_80 x3 y0 σ = some w → Go l m_X11_factAt (d + 1) LAYM (.inl (some (.inl q.1))) q.2 80 [some (.inr 0), some (.inl x1), none, some (.inl x3)] [.inl y0] σ := by
        intro x3 y0 h
        unfold B_X11_factAt_80 at h
        refine go_ops ok_X11_factAt_80_4 (L' := [some (.inr 0), some (.inl x1), some (.inl y0), some (.inl x3)]) (st' := [.inl x3, .inr 40]) (σ1 := σ) rfl ?_
        obtain ⟨v7, e8, h⟩ := bind_inv h
        refine go_rd (k := 40) dc_X11_factAt_86 rfl e8 ?_
        refine go_ops ok_X11_factAt_87_1 (L' := [some (.inr 0), some (.inl x1), some (.inl y0), some (.inl v7)]) (st' := []) (σ1 := σ) rfl ?_
        refine go_goto dc_X11_factAt_88 (by rfl) ?_
        cases h
        exact hK
      have hB_X11_factAt_79 : ∀ (x2 : Int) (x3 : Int), B_X11_factAt_79 x2 x3 σ = some w → Go l m_X11_factAt (d + 1) LAYM (.inl (some (.inl q.1))) q.2 79 [some (.inr 0), some (.inl x1), some (.inl x2), some (.inl x3)] [] σ := by
        intro x2 x3 h
        unfold B_X11_factAt_79 at h
        refine go_ops ok_X11_factAt_79_1 (L' := [some (.inr 0), some (.inl x1), some (.inl x2), some (.inl x3)]) (st' := [.inl x2]) (σ1 := σ) rfl ?_
        refine go_wk (L' := [some (.inr 0), some (.inl x1), none, some (.inl x3)]) ⟨rfl, rfl, rfl, trivial⟩ ?_
        exact hB_X11_factAt_80 x3 x2 h
      refine go_ops ok_X11_factAt_29_1 (L' := [some (.inr 0), some (.inl x1), some (.inl x2), some (.inl x3)]) (st' := [.inl x3]) (σ1 := σ) rfl ?_
      refine go_if_le dc_X11_factAt_30 (by rfl) (fun hc => ?_) (fun hc => ?_)
      · replace h := (if_pos hc).symm.trans h
        cases h
        refine go_wk (L' := [none, none, some (.inl x2), none]) ⟨rfl, trivial⟩ ?_
        exact hK
      · replace h := (if_neg hc).symm.trans h
        refine go_ops ok_X11_factAt_33_5 (L' := [some (.inr 0), some (.inl x1), some (.inl x2), some (.inl x3)]) (st' := [.inl x3, .inr 40, .inr 41]) (σ1 := σ) rfl ?_
        obtain ⟨v3, e4, h⟩ := bind_inv h
        refine go_rd (k := 40) dc_X11_factAt_42 rfl e4 ?_
        obtain ⟨v5, e6, h⟩ := bind_inv h
        refine go_rd (k := 41) dc_X11_factAt_43 rfl e6 ?_
        refine go_ops ok_X11_factAt_44_1 (L' := [some (.inr 0), some (.inl x1), some (.inl x2), some (.inl x3)]) (st' := [.inl 5, .inl v5]) (σ1 := σ) rfl ?_
        refine go_icmp_ne dc_X11_factAt_45 (by rfl) (fun hc => ?_) (fun hc => ?_)
        · replace h := (if_neg hc).symm.trans h
          exact hB_X11_factAt_79 x2 x3 h
        · replace h := (if_pos hc).symm.trans h
          refine go_ops ok_X11_factAt_48_5 (L' := [some (.inr 0), some (.inl x1), some (.inl x2), some (.inl x3)]) (st' := [.inl x3, .inr 40, .inr 43]) (σ1 := σ) rfl ?_
          obtain ⟨v9, e10, h⟩ := bind_inv h
          refine go_rd (k := 40) dc_X11_factAt_57 rfl e10 ?_
          obtain ⟨v11, e12, h⟩ := bind_inv h
          refine go_rd (k := 43) dc_X11_factAt_58 rfl e12 ?_
          refine go_ops ok_X11_factAt_59_1 (L' := [some (.inr 0), some (.inl x1), some (.inl x2), some (.inl x3)]) (st' := [.inl x1, .inl v11]) (σ1 := σ) rfl ?_
          refine go_icmp_ne dc_X11_factAt_60 (by rfl) (fun hc => ?_) (fun hc => ?_)
          · replace h := (if_neg hc).symm.trans h
            exact hB_X11_factAt_79 x2 x3 h
          · replace h := (if_pos hc).symm.trans h
            refine go_ops ok_X11_factAt_63_6 (L' := [some (.inr 0), some (.inl x1), some (.inl x2), some (.inl x3)]) (st' := [.inl x3, .inr 40, .inr 44, .inl x3]) (σ1 := σ) rfl ?_
            obtain ⟨v13, e14, h⟩ := bind_inv h
            refine go_rd (k := 40) dc_X11_factAt_73 rfl e14 ?_
            obtain ⟨v15, e16, h⟩ := bind_inv h
            refine go_rd (k := 44) dc_X11_factAt_74 rfl e16 ?_
            refine go_ops ok_X11_factAt_75_1 (L' := [some (.inr 0), some (.inl x1), some (.inl x2), some (.inl x3)]) (st' := [.inl (wrap (x3 - v15))]) (σ1 := σ) rfl ?_
            refine go_goto dc_X11_factAt_76 (by rfl) ?_
            refine go_wk (L' := [some (.inr 0), some (.inl x1), none, some (.inl x3)]) ⟨rfl, rfl, rfl, trivial⟩ ?_
            exact hB_X11_factAt_80 x3 (wrap (x3 - v15)) h
    refine go_ops ok_X11_factAt_0_1 (L' := [some (.inr 0), some (.inl a1), none, none]) (st' := [.inl a1]) (σ1 := σ) rfl ?_
    refine go_if_ge dc_X11_factAt_1 (by rfl) (fun hc => ?_) (fun hc => ?_)
    · replace h := (if_pos hc).symm.trans h
      refine go_ops ok_X11_factAt_8_2 (L' := [some (.inr 0), some (.inl a1), none, none]) (st' := [.inl (σ 0 40)]) (σ1 := σ) rfl ?_
      refine go_if_eq dc_X11_factAt_12 (by rfl) (fun hc => ?_) (fun hc => ?_)
      · replace h := (if_pos hc).symm.trans h
        obtain ⟨v1, e2, h⟩ := bnd_inv h
        refine go_ops ok_X11_factAt_21_5 (L' := [some (.inr 0), some (.inl a1), some (.inl (-9)), some (.inl v1)]) (st' := []) (σ1 := σ) (by subst e2; rfl) ?_
        obtain ⟨y17, e18, h⟩ := bind_inv h
        refine hL_X11_factAt_29 a1 σ 3000 ((-9), v1) y17 e18 ?_
        show Go l m_X11_factAt (d + 1) LAYM (.inl (some (.inl q.1))) q.2 91 [none, none, some (.inl y17), none] [] σ
        refine go_ops ok_X11_factAt_91_1 (L' := [none, none, some (.inl y17), none]) (st' := [.inl y17]) (σ1 := σ) rfl ?_
        have h9 := Option.some.inj h
        subst h9
        exact go_iret dc_X11_factAt_92 rfl
      · replace h := (if_neg hc).symm.trans h
        refine go_ops ok_X11_factAt_15_2 (L' := [some (.inr 0), some (.inl a1), none, none]) (st' := [.inl a1, .inr 0]) (σ1 := σ) rfl ?_
        obtain ⟨q19, e20, h⟩ := bind_inv h
        refine go_V (M1 := m_X11_headAt) (as := [.inl a1]) (st := []) (k := 0) (ci := 11) dc_X11_factAt_17 ln_11_265 im_X11_headAt (by decide) rfl rfl mk_X11_headAt rfl (Nat.le_of_ble_eq_true rfl) (Nat.le_refl _) (v := (some (.inl q19.1))) (σ1 := q19.2) (lk_X11_headAt l d (by omega) a1 σ q19 e20) _ rfl ?_
        have h9 := Option.some.inj h
        subst h9
        exact go_iret dc_X11_factAt_20 rfl
    · replace h := (if_neg hc).symm.trans h
      refine go_ops ok_X11_factAt_4_3 (L' := [some (.inr 0), some (.inl a1), none, none]) (st' := [.inl (wrap ((-1) - a1))]) (σ1 := σ) rfl ?_
      have h9 := Option.some.inj h
      subst h9
      exact go_iret dc_X11_factAt_7 rfl
  have hf := go_ct (as := [.inr 0, .inl a1]) mk_X11_factAt (by rfl) (Nat.le_of_ble_eq_true rfl) key
  exact hf
