/-! read off: X11_make .. X11_open -/
theorem dc_X11_make_3 : decode m_X11_make.2.2.1 3 = .ok (.invokevirtual 193, 3) := by decide +kernel
theorem dc_X11_make_10 : decode m_X11_make.2.2.1 10 = .ok (.ifCond .eq 11, 3) := by decide +kernel
theorem dc_X11_make_18 : decode m_X11_make.2.2.1 18 = .ok (.goto 4, 3) := by decide +kernel
theorem dc_X11_make_36 : decode m_X11_make.2.2.1 36 = .ok (.if_icmp .ge 157, 3) := by decide +kernel
theorem dc_X11_make_41 : decode m_X11_make.2.2.1 41 = .ok (.ifCond .eq 152, 3) := by decide +kernel
theorem dc_X11_make_51 : decode m_X11_make.2.2.1 51 = .ok (.invokestatic 175, 3) := by decide +kernel
theorem dc_X11_make_64 : decode m_X11_make.2.2.1 64 = .ok (.iaload, 1) := by decide +kernel
theorem dc_X11_make_65 : decode m_X11_make.2.2.1 65 = .ok (.if_icmp .ge 7, 3) := by decide +kernel
theorem dc_X11_make_69 : decode m_X11_make.2.2.1 69 = .ok (.goto 4, 3) := by decide +kernel
theorem dc_X11_make_77 : decode m_X11_make.2.2.1 77 = .ok (.ifCond .eq 12, 3) := by decide +kernel
theorem dc_X11_make_83 : decode m_X11_make.2.2.1 83 = .ok (.invokevirtual 212, 3) := by decide +kernel
theorem dc_X11_make_86 : decode m_X11_make.2.2.1 86 = .ok (.ifCond .eq 7, 3) := by decide +kernel
theorem dc_X11_make_90 : decode m_X11_make.2.2.1 90 = .ok (.goto 4, 3) := by decide +kernel
theorem dc_X11_make_98 : decode m_X11_make.2.2.1 98 = .ok (.ifCond .eq 60, 3) := by decide +kernel
theorem dc_X11_make_103 : decode m_X11_make.2.2.1 103 = .ok (.ifCond .eq 45, 3) := by decide +kernel
theorem dc_X11_make_108 : decode m_X11_make.2.2.1 108 = .ok (.ifCond .eq 50, 3) := by decide +kernel
theorem dc_X11_make_125 : decode m_X11_make.2.2.1 125 = .ok (.iaload, 1) := by decide +kernel
theorem dc_X11_make_126 : decode m_X11_make.2.2.1 126 = .ok (.invokevirtual 215, 3) := by decide +kernel
theorem dc_X11_make_129 : decode m_X11_make.2.2.1 129 = .ok (.ifCond .eq 29, 3) := by decide +kernel
theorem dc_X11_make_138 : decode m_X11_make.2.2.1 138 = .ok (.iaload, 1) := by decide +kernel
theorem dc_X11_make_142 : decode m_X11_make.2.2.1 142 = .ok (.ifCond .ne 16, 3) := by decide +kernel
theorem dc_X11_make_145 : decode m_X11_make.2.2.1 145 = .ok (.goto 9, 3) := by decide +kernel
theorem dc_X11_make_151 : decode m_X11_make.2.2.1 151 = .ok (.if_icmp .ne 7, 3) := by decide +kernel
theorem dc_X11_make_155 : decode m_X11_make.2.2.1 155 = .ok (.goto 4, 3) := by decide +kernel
theorem dc_X11_make_165 : decode m_X11_make.2.2.1 165 = .ok (.ifCond .eq 18, 3) := by decide +kernel
theorem dc_X11_make_170 : decode m_X11_make.2.2.1 170 = .ok (.ifCond .eq 13, 3) := by decide +kernel
theorem dc_X11_make_179 : decode m_X11_make.2.2.1 179 = .ok (.iaload, 1) := by decide +kernel
theorem dc_X11_make_180 : decode m_X11_make.2.2.1 180 = .ok (.goto 4, 3) := by decide +kernel
theorem dc_X11_make_190 : decode m_X11_make.2.2.1 190 = .ok (.goto (-157), 3) := by decide +kernel
theorem dc_X11_make_195 : decode m_X11_make.2.2.1 195 = .ok (.ifCond .eq 39, 3) := by decide +kernel
theorem dc_X11_make_200 : decode m_X11_make.2.2.1 200 = .ok (.ifCond .eq 34, 3) := by decide +kernel
theorem dc_X11_make_209 : decode m_X11_make.2.2.1 209 = .ok (.invokevirtual 218, 3) := by decide +kernel
theorem dc_X11_make_213 : decode m_X11_make.2.2.1 213 = .ok (.if_icmp .gt 21, 3) := by decide +kernel
theorem dc_X11_make_222 : decode m_X11_make.2.2.1 222 = .ok (.invokevirtual 200, 3) := by decide +kernel
theorem dc_X11_make_227 : decode m_X11_make.2.2.1 227 = .ok (.if_icmp .gt 7, 3) := by decide +kernel
theorem dc_X11_make_231 : decode m_X11_make.2.2.1 231 = .ok (.goto 4, 3) := by decide +kernel
theorem dc_X11_make_240 : decode m_X11_make.2.2.1 240 = .ok (.ifCond .ne 7, 3) := by decide +kernel
theorem dc_X11_make_244 : decode m_X11_make.2.2.1 244 = .ok (.goto 24, 3) := by decide +kernel
theorem dc_X11_make_249 : decode m_X11_make.2.2.1 249 = .ok (.ifCond .ne 7, 3) := by decide +kernel
theorem dc_X11_make_253 : decode m_X11_make.2.2.1 253 = .ok (.goto 15, 3) := by decide +kernel
theorem dc_X11_make_257 : decode m_X11_make.2.2.1 257 = .ok (.invokevirtual 204, 3) := by decide +kernel
theorem dc_X11_make_260 : decode m_X11_make.2.2.1 260 = .ok (.ifCond .eq 7, 3) := by decide +kernel
theorem dc_X11_make_264 : decode m_X11_make.2.2.1 264 = .ok (.goto 4, 3) := by decide +kernel
theorem dc_X11_make_268 : decode m_X11_make.2.2.1 268 = .ok (.invokevirtual 183, 3) := by decide +kernel
theorem dc_X11_make_271 : decode m_X11_make.2.2.1 271 = .ok (.ifCond .eq 7, 3) := by decide +kernel
theorem dc_X11_make_275 : decode m_X11_make.2.2.1 275 = .ok (.goto 17, 3) := by decide +kernel
theorem dc_X11_make_289 : decode m_X11_make.2.2.1 289 = .ok (.invokevirtual 208, 3) := by decide +kernel
theorem dc_X11_make_292 : decode m_X11_make.2.2.1 292 = .ok (.ireturn, 1) := by decide +kernel
theorem ok_X11_make_0_3 : oks m_X11_make.1 m_X11_make.2.2.1 0 [(.aload_n 0, 1, (0, 0, 0)), (.iload_n 1, 1, (0, 0, 0)), (.iload_n 2, 1, (0, 0, 0))] = true ∧ plen 0 [(.aload_n 0, 1, (0, 0, 0)), (.iload_n 1, 1, (0, 0, 0)), (.iload_n 2, 1, (0, 0, 0))] = 3 := by decide +kernel
theorem ok_X11_make_6_2 : oks m_X11_make.1 m_X11_make.2.2.1 6 [(.istore 6, 2, (0, 0, 0)), (.iload 6, 2, (0, 0, 0))] = true ∧ plen 6 [(.istore 6, 2, (0, 0, 0)), (.iload 6, 2, (0, 0, 0))] = 10 := by decide +kernel
theorem ok_X11_make_13_5 : oks m_X11_make.1 m_X11_make.2.2.1 13 [(.iconst 4, 1, (0, 0, 0)), (.iload_n 1, 1, (0, 0, 0)), (.imul, 1, (0, 0, 0)), (.iload_n 2, 1, (0, 0, 0)), (.iadd, 1, (0, 0, 0))] = true ∧ plen 13 [(.iconst 4, 1, (0, 0, 0)), (.iload_n 1, 1, (0, 0, 0)), (.imul, 1, (0, 0, 0)), (.iload_n 2, 1, (0, 0, 0)), (.iadd, 1, (0, 0, 0))] = 18 := by decide +kernel
theorem ok_X11_make_21_1 : oks m_X11_make.1 m_X11_make.2.2.1 21 [(.iconst 0, 1, (0, 0, 0))] = true ∧ plen 21 [(.iconst 0, 1, (0, 0, 0))] = 22 := by decide +kernel
theorem ok_X11_make_22_7 : oks m_X11_make.1 m_X11_make.2.2.1 22 [(.istore 7, 2, (0, 0, 0)), (.iconst 1, 1, (0, 0, 0)), (.istore 8, 2, (0, 0, 0)), (.iconst 0, 1, (0, 0, 0)), (.istore 9, 2, (0, 0, 0)), (.iconst 0, 1, (0, 0, 0)), (.istore 10, 2, (0, 0, 0))] = true ∧ plen 22 [(.istore 7, 2, (0, 0, 0)), (.iconst 1, 1, (0, 0, 0)), (.istore 8, 2, (0, 0, 0)), (.iconst 0, 1, (0, 0, 0)), (.istore 9, 2, (0, 0, 0)), (.iconst 0, 1, (0, 0, 0)), (.istore 10, 2, (0, 0, 0))] = 33 := by decide +kernel
theorem ok_X11_make_33_2 : oks m_X11_make.1 m_X11_make.2.2.1 33 [(.iload 10, 2, (0, 0, 0)), (.iconst 3, 1, (0, 0, 0))] = true ∧ plen 33 [(.iload 10, 2, (0, 0, 0)), (.iconst 3, 1, (0, 0, 0))] = 36 := by decide +kernel
theorem ok_X11_make_39_1 : oks m_X11_make.1 m_X11_make.2.2.1 39 [(.iload 6, 2, (0, 0, 0))] = true ∧ plen 39 [(.iload 6, 2, (0, 0, 0))] = 41 := by decide +kernel
theorem ok_X11_make_44_4 : oks m_X11_make.1 m_X11_make.2.2.1 44 [(.iload_n 3, 1, (0, 0, 0)), (.iload 4, 2, (0, 0, 0)), (.iload 5, 2, (0, 0, 0)), (.iload 10, 2, (0, 0, 0))] = true ∧ plen 44 [(.iload_n 3, 1, (0, 0, 0)), (.iload 4, 2, (0, 0, 0)), (.iload 5, 2, (0, 0, 0)), (.iload 10, 2, (0, 0, 0))] = 51 := by decide +kernel
theorem ok_X11_make_54_5 : oks m_X11_make.1 m_X11_make.2.2.1 54 [(.istore 11, 2, (0, 0, 0)), (.iload 10, 2, (0, 0, 0)), (.aload_n 0, 1, (0, 0, 0)), (.getfield 13, 3, (11, 2, 0)), (.iload 7, 2, (0, 0, 0))] = true ∧ plen 54 [(.istore 11, 2, (0, 0, 0)), (.iload 10, 2, (0, 0, 0)), (.aload_n 0, 1, (0, 0, 0)), (.getfield 13, 3, (11, 2, 0)), (.iload 7, 2, (0, 0, 0))] = 64 := by decide +kernel
theorem ok_X11_make_68_1 : oks m_X11_make.1 m_X11_make.2.2.1 68 [(.iconst 1, 1, (0, 0, 0))] = true ∧ plen 68 [(.iconst 1, 1, (0, 0, 0))] = 69 := by decide +kernel
theorem ok_X11_make_72_1 : oks m_X11_make.1 m_X11_make.2.2.1 72 [(.iconst 0, 1, (0, 0, 0))] = true ∧ plen 72 [(.iconst 0, 1, (0, 0, 0))] = 73 := by decide +kernel
theorem ok_X11_make_73_2 : oks m_X11_make.1 m_X11_make.2.2.1 73 [(.istore 12, 2, (0, 0, 0)), (.iload 12, 2, (0, 0, 0))] = true ∧ plen 73 [(.istore 12, 2, (0, 0, 0)), (.iload 12, 2, (0, 0, 0))] = 77 := by decide +kernel
theorem ok_X11_make_80_2 : oks m_X11_make.1 m_X11_make.2.2.1 80 [(.aload_n 0, 1, (0, 0, 0)), (.iload 11, 2, (0, 0, 0))] = true ∧ plen 80 [(.aload_n 0, 1, (0, 0, 0)), (.iload 11, 2, (0, 0, 0))] = 83 := by decide +kernel
theorem ok_X11_make_89_1 : oks m_X11_make.1 m_X11_make.2.2.1 89 [(.iconst 1, 1, (0, 0, 0))] = true ∧ plen 89 [(.iconst 1, 1, (0, 0, 0))] = 90 := by decide +kernel
theorem ok_X11_make_93_1 : oks m_X11_make.1 m_X11_make.2.2.1 93 [(.iconst 0, 1, (0, 0, 0))] = true ∧ plen 93 [(.iconst 0, 1, (0, 0, 0))] = 94 := by decide +kernel
theorem ok_X11_make_94_2 : oks m_X11_make.1 m_X11_make.2.2.1 94 [(.istore 6, 2, (0, 0, 0)), (.iload 8, 2, (0, 0, 0))] = true ∧ plen 94 [(.istore 6, 2, (0, 0, 0)), (.iload 8, 2, (0, 0, 0))] = 98 := by decide +kernel
theorem ok_X11_make_101_1 : oks m_X11_make.1 m_X11_make.2.2.1 101 [(.iload 12, 2, (0, 0, 0))] = true ∧ plen 101 [(.iload 12, 2, (0, 0, 0))] = 103 := by decide +kernel
theorem ok_X11_make_106_1 : oks m_X11_make.1 m_X11_make.2.2.1 106 [(.iload 6, 2, (0, 0, 0))] = true ∧ plen 106 [(.iload 6, 2, (0, 0, 0))] = 108 := by decide +kernel
theorem ok_X11_make_111_9 : oks m_X11_make.1 m_X11_make.2.2.1 111 [(.aload_n 0, 1, (0, 0, 0)), (.iload 11, 2, (0, 0, 0)), (.aload_n 0, 1, (0, 0, 0)), (.getfield 16, 3, (11, 3, 0)), (.iconst 3, 1, (0, 0, 0)), (.iload 7, 2, (0, 0, 0)), (.imul, 1, (0, 0, 0)), (.iload 10, 2, (0, 0, 0)), (.iadd, 1, (0, 0, 0))] = true ∧ plen 111 [(.aload_n 0, 1, (0, 0, 0)), (.iload 11, 2, (0, 0, 0)), (.aload_n 0, 1, (0, 0, 0)), (.getfield 16, 3, (11, 3, 0)), (.iconst 3, 1, (0, 0, 0)), (.iload 7, 2, (0, 0, 0)), (.imul, 1, (0, 0, 0)), (.iload 10, 2, (0, 0, 0)), (.iadd, 1, (0, 0, 0))] = 125 := by decide +kernel
theorem ok_X11_make_132_3 : oks m_X11_make.1 m_X11_make.2.2.1 132 [(.aload_n 0, 1, (0, 0, 0)), (.getfield 52, 3, (11, 17, 0)), (.iload 11, 2, (0, 0, 0))] = true ∧ plen 132 [(.aload_n 0, 1, (0, 0, 0)), (.getfield 52, 3, (11, 17, 0)), (.iload 11, 2, (0, 0, 0))] = 138 := by decide +kernel
theorem ok_X11_make_139_2 : oks m_X11_make.1 m_X11_make.2.2.1 139 [(.iload 9, 2, (0, 0, 0)), (.iand, 1, (0, 0, 0))] = true ∧ plen 139 [(.iload 9, 2, (0, 0, 0)), (.iand, 1, (0, 0, 0))] = 142 := by decide +kernel
theorem ok_X11_make_148_2 : oks m_X11_make.1 m_X11_make.2.2.1 148 [(.iload 11, 2, (0, 0, 0)), (.iconst (-1), 1, (0, 0, 0))] = true ∧ plen 148 [(.iload 11, 2, (0, 0, 0)), (.iconst (-1), 1, (0, 0, 0))] = 151 := by decide +kernel
theorem ok_X11_make_154_1 : oks m_X11_make.1 m_X11_make.2.2.1 154 [(.iconst 1, 1, (0, 0, 0))] = true ∧ plen 154 [(.iconst 1, 1, (0, 0, 0))] = 155 := by decide +kernel
theorem ok_X11_make_158_1 : oks m_X11_make.1 m_X11_make.2.2.1 158 [(.iconst 0, 1, (0, 0, 0))] = true ∧ plen 158 [(.iconst 0, 1, (0, 0, 0))] = 159 := by decide +kernel
theorem ok_X11_make_159_3 : oks m_X11_make.1 m_X11_make.2.2.1 159 [(.istore 8, 2, (0, 0, 0)), (.iload 9, 2, (0, 0, 0)), (.iload 12, 2, (0, 0, 0))] = true ∧ plen 159 [(.istore 8, 2, (0, 0, 0)), (.iload 9, 2, (0, 0, 0)), (.iload 12, 2, (0, 0, 0))] = 165 := by decide +kernel
theorem ok_X11_make_168_1 : oks m_X11_make.1 m_X11_make.2.2.1 168 [(.iload 6, 2, (0, 0, 0))] = true ∧ plen 168 [(.iload 6, 2, (0, 0, 0))] = 170 := by decide +kernel
theorem ok_X11_make_173_3 : oks m_X11_make.1 m_X11_make.2.2.1 173 [(.aload_n 0, 1, (0, 0, 0)), (.getfield 52, 3, (11, 17, 0)), (.iload 11, 2, (0, 0, 0))] = true ∧ plen 173 [(.aload_n 0, 1, (0, 0, 0)), (.getfield 52, 3, (11, 17, 0)), (.iload 11, 2, (0, 0, 0))] = 179 := by decide +kernel
theorem ok_X11_make_183_1 : oks m_X11_make.1 m_X11_make.2.2.1 183 [(.iconst 0, 1, (0, 0, 0))] = true ∧ plen 183 [(.iconst 0, 1, (0, 0, 0))] = 184 := by decide +kernel
theorem ok_X11_make_184_3 : oks m_X11_make.1 m_X11_make.2.2.1 184 [(.ior, 1, (0, 0, 0)), (.istore 9, 2, (0, 0, 0)), (.iinc 10 1, 3, (0, 0, 0))] = true ∧ plen 184 [(.ior, 1, (0, 0, 0)), (.istore 9, 2, (0, 0, 0)), (.iinc 10 1, 3, (0, 0, 0))] = 190 := by decide +kernel
theorem ok_X11_make_193_1 : oks m_X11_make.1 m_X11_make.2.2.1 193 [(.iload 6, 2, (0, 0, 0))] = true ∧ plen 193 [(.iload 6, 2, (0, 0, 0))] = 195 := by decide +kernel
theorem ok_X11_make_198_1 : oks m_X11_make.1 m_X11_make.2.2.1 198 [(.iload 8, 2, (0, 0, 0))] = true ∧ plen 198 [(.iload 8, 2, (0, 0, 0))] = 200 := by decide +kernel
theorem ok_X11_make_203_4 : oks m_X11_make.1 m_X11_make.2.2.1 203 [(.aload_n 0, 1, (0, 0, 0)), (.iload_n 3, 1, (0, 0, 0)), (.iload 4, 2, (0, 0, 0)), (.iload 5, 2, (0, 0, 0))] = true ∧ plen 203 [(.aload_n 0, 1, (0, 0, 0)), (.iload_n 3, 1, (0, 0, 0)), (.iload 4, 2, (0, 0, 0)), (.iload 5, 2, (0, 0, 0))] = 209 := by decide +kernel
theorem ok_X11_make_212_1 : oks m_X11_make.1 m_X11_make.2.2.1 212 [(.iconst 4, 1, (0, 0, 0))] = true ∧ plen 212 [(.iconst 4, 1, (0, 0, 0))] = 213 := by decide +kernel
theorem ok_X11_make_216_4 : oks m_X11_make.1 m_X11_make.2.2.1 216 [(.aload_n 0, 1, (0, 0, 0)), (.iload_n 3, 1, (0, 0, 0)), (.iload 4, 2, (0, 0, 0)), (.iload 5, 2, (0, 0, 0))] = true ∧ plen 216 [(.aload_n 0, 1, (0, 0, 0)), (.iload_n 3, 1, (0, 0, 0)), (.iload 4, 2, (0, 0, 0)), (.iload 5, 2, (0, 0, 0))] = 222 := by decide +kernel
theorem ok_X11_make_225_1 : oks m_X11_make.1 m_X11_make.2.2.1 225 [(.bipush 40, 2, (0, 0, 0))] = true ∧ plen 225 [(.bipush 40, 2, (0, 0, 0))] = 227 := by decide +kernel
theorem ok_X11_make_230_1 : oks m_X11_make.1 m_X11_make.2.2.1 230 [(.iconst 1, 1, (0, 0, 0))] = true ∧ plen 230 [(.iconst 1, 1, (0, 0, 0))] = 231 := by decide +kernel
theorem ok_X11_make_234_1 : oks m_X11_make.1 m_X11_make.2.2.1 234 [(.iconst 0, 1, (0, 0, 0))] = true ∧ plen 234 [(.iconst 0, 1, (0, 0, 0))] = 235 := by decide +kernel
theorem ok_X11_make_235_3 : oks m_X11_make.1 m_X11_make.2.2.1 235 [(.istore 8, 2, (0, 0, 0)), (.aload_n 0, 1, (0, 0, 0)), (.iload 6, 2, (0, 0, 0))] = true ∧ plen 235 [(.istore 8, 2, (0, 0, 0)), (.aload_n 0, 1, (0, 0, 0)), (.iload 6, 2, (0, 0, 0))] = 240 := by decide +kernel
theorem ok_X11_make_243_1 : oks m_X11_make.1 m_X11_make.2.2.1 243 [(.iconst 1, 1, (0, 0, 0))] = true ∧ plen 243 [(.iconst 1, 1, (0, 0, 0))] = 244 := by decide +kernel
theorem ok_X11_make_247_1 : oks m_X11_make.1 m_X11_make.2.2.1 247 [(.iload 8, 2, (0, 0, 0))] = true ∧ plen 247 [(.iload 8, 2, (0, 0, 0))] = 249 := by decide +kernel
theorem ok_X11_make_252_1 : oks m_X11_make.1 m_X11_make.2.2.1 252 [(.iconst 2, 1, (0, 0, 0))] = true ∧ plen 252 [(.iconst 2, 1, (0, 0, 0))] = 253 := by decide +kernel
theorem ok_X11_make_256_1 : oks m_X11_make.1 m_X11_make.2.2.1 256 [(.aload_n 0, 1, (0, 0, 0))] = true ∧ plen 256 [(.aload_n 0, 1, (0, 0, 0))] = 257 := by decide +kernel
theorem ok_X11_make_263_1 : oks m_X11_make.1 m_X11_make.2.2.1 263 [(.iconst 3, 1, (0, 0, 0))] = true ∧ plen 263 [(.iconst 3, 1, (0, 0, 0))] = 264 := by decide +kernel
theorem ok_X11_make_267_1 : oks m_X11_make.1 m_X11_make.2.2.1 267 [(.iconst 0, 1, (0, 0, 0))] = true ∧ plen 267 [(.iconst 0, 1, (0, 0, 0))] = 268 := by decide +kernel
theorem ok_X11_make_274_1 : oks m_X11_make.1 m_X11_make.2.2.1 274 [(.iconst 0, 1, (0, 0, 0))] = true ∧ plen 274 [(.iconst 0, 1, (0, 0, 0))] = 275 := by decide +kernel
theorem ok_X11_make_278_8 : oks m_X11_make.1 m_X11_make.2.2.1 278 [(.aload_n 0, 1, (0, 0, 0)), (.iconst 3, 1, (0, 0, 0)), (.iload 7, 2, (0, 0, 0)), (.iconst 0, 1, (0, 0, 0)), (.iload_n 3, 1, (0, 0, 0)), (.iload 4, 2, (0, 0, 0)), (.iload 5, 2, (0, 0, 0)), (.iload_n 1, 1, (0, 0, 0))] = true ∧ plen 278 [(.aload_n 0, 1, (0, 0, 0)), (.iconst 3, 1, (0, 0, 0)), (.iload 7, 2, (0, 0, 0)), (.iconst 0, 1, (0, 0, 0)), (.iload_n 3, 1, (0, 0, 0)), (.iload 4, 2, (0, 0, 0)), (.iload 5, 2, (0, 0, 0)), (.iload_n 1, 1, (0, 0, 0))] = 289 := by decide +kernel
def B_X11_make_184 (x6 : Bool) (x8 : Bool) (x10 : Int) (y0 : Int) (y1 : Int) (σ : Sg) : Option ((Bool × Bool × Int × Int) ⊕ (Bool × Bool)) :=
bnd (jor y1 y0) fun v7 =>
some (.inl (x6, x8, v7, wrap (x10 + 1)))
def B_X11_make_183 (x6 : Bool) (x8 : Bool) (x10 : Int) (y0 : Int) (σ : Sg) : Option ((Bool × Bool × Int × Int) ⊕ (Bool × Bool)) :=
B_X11_make_184 x6 x8 x10 0 y0 σ
def B_X11_make_159 (x6 : Bool) (x9 : Int) (x10 : Int) (x11 : Int) (x12 : Bool) (y0 : Bool) (σ : Sg) : Option ((Bool × Bool × Int × Int) ⊕ (Bool × Bool)) :=
if x12 = true then
if x6 = true then
(rdn 60 σ 15 x11).bind fun v9 =>
B_X11_make_184 x6 y0 x10 v9 x9 σ
else
B_X11_make_183 x6 y0 x10 x9 σ
else
B_X11_make_183 x6 y0 x10 x9 σ
def B_X11_make_158 (x6 : Bool) (x9 : Int) (x10 : Int) (x11 : Int) (x12 : Bool) (σ : Sg) : Option ((Bool × Bool × Int × Int) ⊕ (Bool × Bool)) :=
B_X11_make_159 x6 x9 x10 x11 x12 false σ
def B_X11_make_154 (x6 : Bool) (x9 : Int) (x10 : Int) (x11 : Int) (x12 : Bool) (σ : Sg) : Option ((Bool × Bool × Int × Int) ⊕ (Bool × Bool)) :=
B_X11_make_159 x6 x9 x10 x11 x12 true σ
def B_X11_make_94 (x7 : Int) (x8 : Bool) (x9 : Int) (x10 : Int) (x11 : Int) (x12 : Bool) (y0 : Bool) (σ : Sg) : Option ((Bool × Bool × Int × Int) ⊕ (Bool × Bool)) :=
if x8 = true then
if x12 = true then
if y0 = true then
(rdn 48 σ 3 (wrap ((wrap (3 * x7)) + x10))).bind fun v11 =>
(F_X11_suits x11 v11 σ).bind fun q13 =>
if q13 = true then
(rdn 60 σ 15 x11).bind fun v15 =>
if (jand v15 x9) = 0 then
B_X11_make_154 y0 x9 x10 x11 x12 σ
else
B_X11_make_158 y0 x9 x10 x11 x12 σ
else
B_X11_make_158 y0 x9 x10 x11 x12 σ
else
B_X11_make_158 y0 x9 x10 x11 x12 σ
else
if x11 = (-1) then
B_X11_make_154 y0 x9 x10 x11 x12 σ
else
B_X11_make_158 y0 x9 x10 x11 x12 σ
else
B_X11_make_158 y0 x9 x10 x11 x12 σ
def B_X11_make_89 (x7 : Int) (x8 : Bool) (x9 : Int) (x10 : Int) (x11 : Int) (x12 : Bool) (σ : Sg) : Option ((Bool × Bool × Int × Int) ⊕ (Bool × Bool)) :=
B_X11_make_94 x7 x8 x9 x10 x11 x12 true σ
def B_X11_make_73 (x7 : Int) (x8 : Bool) (x9 : Int) (x10 : Int) (x11 : Int) (y0 : Bool) (σ : Sg) : Option ((Bool × Bool × Int × Int) ⊕ (Bool × Bool)) :=
if y0 = true then
if (F_X11_isPattern x11 σ) = true then
B_X11_make_89 x7 x8 x9 x10 x11 y0 σ
else
B_X11_make_94 x7 x8 x9 x10 x11 y0 false σ
else
B_X11_make_89 x7 x8 x9 x10 x11 y0 σ
def L_X11_make_33 (x3 : Int) (x4 : Int) (x5 : Int) (x7 : Int) (σ : Sg) (x6 : Bool) (x8 : Bool) (x9 : Int) (x10 : Int) : Option ((Bool × Bool × Int × Int) ⊕ (Bool × Bool)) :=
if 3 ≤ x10 then
some (.inr (x6, x8))
else
if x6 = true then
bnd (F_X11_pick x3 x4 x5 x10) fun v3 =>
(rdn 16 σ 2 x7).bind fun v5 =>
if v5 ≤ x10 then
B_X11_make_73 x7 x8 x9 x10 v3 false σ
else
B_X11_make_73 x7 x8 x9 x10 v3 true σ
else
some (.inr (x6, x8))
def B_X11_make_268 (x1 : Int) (x3 : Int) (x4 : Int) (x5 : Int) (x7 : Int) (y0 : Int) (σ : Sg) : Option (Int × Sg) :=
bnd (F_X11_refused y0 σ) fun q19 =>
if q19.1 = true then
some (0, q19.2)
else
(F_X11_pattern 3 x7 0 x3 x4 x5 x1 q19.2).bind fun q21 =>
some (q21.1, q21.2)
def B_X11_make_235 (x1 : Int) (x3 : Int) (x4 : Int) (x5 : Int) (x6 : Bool) (x7 : Int) (y0 : Bool) (σ : Sg) : Option (Int × Sg) :=
if x6 = true then
if y0 = true then
if (F_X11_isFull σ) = true then
B_X11_make_268 x1 x3 x4 x5 x7 3 σ
else
B_X11_make_268 x1 x3 x4 x5 x7 0 σ
else
B_X11_make_268 x1 x3 x4 x5 x7 2 σ
else
B_X11_make_268 x1 x3 x4 x5 x7 1 σ
def B_X11_make_234 (x1 : Int) (x3 : Int) (x4 : Int) (x5 : Int) (x6 : Bool) (x7 : Int) (σ : Sg) : Option (Int × Sg) :=
B_X11_make_235 x1 x3 x4 x5 x6 x7 false σ
def B_X11_make_22 (x1 : Int) (x3 : Int) (x4 : Int) (x5 : Int) (x6 : Bool) (y0 : Int) (σ : Sg) : Option (Int × Sg) :=
(iter (fun a : (Bool × Bool × Int × Int) => L_X11_make_33 x3 x4 x5 y0 σ a.1 a.2.1 a.2.2.1 a.2.2.2) 4 (x6, true, 0, 0)).bind fun y17 =>
if y17.1 = true then
if y17.2 = true then
(F_X11_depthOf x3 x4 x5 σ).bind fun q23 =>
if 4 < q23 then
B_X11_make_234 x1 x3 x4 x5 y17.1 y0 σ
else
(F_X11_sizeOf x3 x4 x5 σ).bind fun q25 =>
if 40 < q25 then
B_X11_make_234 x1 x3 x4 x5 y17.1 y0 σ
else
B_X11_make_235 x1 x3 x4 x5 y17.1 y0 true σ
else
B_X11_make_234 x1 x3 x4 x5 y17.1 y0 σ
else
B_X11_make_234 x1 x3 x4 x5 y17.1 y0 σ
def F_X11_make (a1 : Int) (a2 : Int) (a3 : Int) (a4 : Int) (a5 : Int) (σ : Sg) : Option (Int × Sg) :=
(F_X11_isConstructor a1 a2 σ).bind fun q1 =>
if q1 = true then
B_X11_make_22 a1 a3 a4 a5 q1 (wrap ((wrap (4 * a1)) + a2)) σ
else
B_X11_make_22 a1 a3 a4 a5 q1 0 σ
theorem lk_X11_make (l : Launch) (d : Nat) (hd : 2 ≤ d) (a1 : Int) (a2 : Int) (a3 : Int) (a4 : Int) (a5 : Int) (σ : Sg) (q : (Int × Sg)) (h : F_X11_make a1 a2 a3 a4 a5 σ = some q) : CT l d m_X11_make.2.1 m_X11_make.2.2.1 m_X11_make.2.2.2.1 m_X11_make.2.2.2.2 [.inr 0, .inl a1, .inl a2, .inl a3, .inl a4, .inl a5] (LAYM, σ) (some (.inl q.1)) (LAYM, q.2) := by
  obtain ⟨d, rfl⟩ : ∃ e, d = e + 1 := ⟨d - 1, by omega⟩
  have key : Go l m_X11_make (d + 1) LAYM (.inl (some (.inl q.1))) q.2 0 [some (.inr 0), some (.inl a1), some (.inl a2), some (.inl a3), some (.inl a4), some (.inl a5), none, none, none, none, none, none, none] [] σ := by
    unfold F_X11_make at h
    have hL_X11_make_33 : ∀ (x1 : Int) (x3 : Int) (x4 : Int) (x5 : Int) (x7 : Int) (σ : Sg) (n : Nat) (a : (Bool × Bool × Int × Int)) (y : (Bool × Bool)), iter (fun a : (Bool × Bool × Int × Int) => L_X11_make_33 x3 x4 x5 x7 σ a.1 a.2.1 a.2.2.1 a.2.2.2) n a = some y → (fun y : (Bool × Bool) => Go l m_X11_make (d + 1) LAYM (.inl (some (.inl q.1))) q.2 193 [some (.inr 0), some (.inl x1), none, some (.inl x3), some (.inl x4), some (.inl x5), some (.inl (b2i y.1)), some (.inl x7), some (.inl (b2i y.2)), none, none, none, none] [] σ) y → (fun a : (Bool × Bool × Int × Int) => Go l m_X11_make (d + 1) LAYM (.inl (some (.inl q.1))) q.2 33 [some (.inr 0), some (.inl x1), none, some (.inl x3), some (.inl x4), some (.inl x5), some (.inl (b2i a.1)), some (.inl x7), some (.inl (b2i a.2.1)), some (.inl a.2.2.1), some (.inl a.2.2.2), none, none] [] σ) a := by
      intro x1 x3 x4 x5 x7 σ
      refine go_iter (G := fun a : (Bool × Bool × Int × Int) => Go l m_X11_make (d + 1) LAYM (.inl (some (.inl q.1))) q.2 33 [some (.inr 0), some (.inl x1), none, some (.inl x3), some (.inl x4), some (.inl x5), some (.inl (b2i a.1)), some (.inl x7), some (.inl (b2i a.2.1)), some (.inl a.2.2.1), some (.inl a.2.2.2), none, none] [] σ) (K := fun y : (Bool × Bool) => Go l m_X11_make (d + 1) LAYM (.inl (some (.inl q.1))) q.2 193 [some (.inr 0), some (.inl x1), none, some (.inl x3), some (.inl x4), some (.inl x5), some (.inl (b2i y.1)), some (.inl x7), some (.inl (b2i y.2)), none, none, none, none] [] σ) ?_
      rintro ⟨x6, x8, x9, x10⟩ w h hK
      replace h : L_X11_make_33 x3 x4 x5 x7 σ x6 x8 x9 x10 = some w := h
      show Go l m_X11_make (d + 1) LAYM (.inl (some (.inl q.1))) q.2 33 [some (.inr 0), some (.inl x1), none, some (.inl x3), some (.inl x4), some (.inl x5), some (.inl (b2i x6)), some (.inl x7), some (.inl (b2i x8)), some (.inl x9), some (.inl x10), none, none] [] σ
      unfold L_X11_make_33 at h
      have hB_X11_make_184 : ∀ (x6 : Bool) (x8 : Bool) (x10 : Int) (y0 : Int) (y1 : Int), B_X11_make_184 x6 x8 x10 y0 y1 σ = some w → Go l m_X11_make (d + 1) LAYM (.inl (some (.inl q.1))) q.2 184 [some (.inr 0), some (.inl x1), none, some (.inl x3), some (.inl x4), some (.inl x5), some (.inl (b2i x6)), some (.inl x7), some (.inl (b2i x8)), none, some (.inl x10), none, none] [.inl y0, .inl y1] σ := by
        intro x6 x8 x10 y0 y1 h
        unfold B_X11_make_184 at h
        obtain ⟨v7, e8, h⟩ := bnd_inv h
        refine go_ops ok_X11_make_184_3 (L' := [some (.inr 0), some (.inl x1), none, some (.inl x3), some (.inl x4), some (.inl x5), some (.inl (b2i x6)), some (.inl x7), some (.inl (b2i x8)), some (.inl v7), some (.inl (wrap (x10 + 1))), none, none]) (st' := []) (σ1 := σ) (by subst e8; rfl) ?_
        refine go_goto dc_X11_make_190 (by rfl) ?_
        cases h
        exact hK
      have hB_X11_make_183 : ∀ (x6 : Bool) (x8 : Bool) (x10 : Int) (y0 : Int), B_X11_make_183 x6 x8 x10 y0 σ = some w → Go l m_X11_make (d + 1) LAYM (.inl (some (.inl q.1))) q.2 183 [some (.inr 0), some (.inl x1), none, some (.inl x3), some (.inl x4), some (.inl x5), some (.inl (b2i x6)), some (.inl x7), some (.inl (b2i x8)), none, some (.inl x10), none, none] [.inl y0] σ := by
        intro x6 x8 x10 y0 h
        unfold B_X11_make_183 at h
        refine go_ops ok_X11_make_183_1 (L' := [some (.inr 0), some (.inl x1), none, some (.inl x3), some (.inl x4), some (.inl x5), some (.inl (b2i x6)), some (.inl x7), some (.inl (b2i x8)), none, some (.inl x10), none, none]) (st' := [.inl 0, .inl y0]) (σ1 := σ) rfl ?_
        exact hB_X11_make_184 x6 x8 x10 0 y0 h
      have hB_X11_make_159 : ∀ (x6 : Bool) (x9 : Int) (x10 : Int) (x11 : Int) (x12 : Bool) (y0 : Bool), B_X11_make_159 x6 x9 x10 x11 x12 y0 σ = some w → Go l m_X11_make (d + 1) LAYM (.inl (some (.inl q.1))) q.2 159 [some (.inr 0), some (.inl x1), none, some (.inl x3), some (.inl x4), some (.inl x5), some (.inl (b2i x6)), some (.inl x7), none, some (.inl x9), some (.inl x10), some (.inl x11), some (.inl (b2i x12))] [.inl (b2i y0)] σ := by
        intro x6 x9 x10 x11 x12 y0 h
        unfold B_X11_make_159 at h
        refine go_ops ok_X11_make_159_3 (L' := [some (.inr 0), some (.inl x1), none, some (.inl x3), some (.inl x4), some (.inl x5), some (.inl (b2i x6)), some (.inl x7), some (.inl (b2i y0)), some (.inl x9), some (.inl x10), some (.inl x11), some (.inl (b2i x12))]) (st' := [.inl (b2i x12), .inl x9]) (σ1 := σ) rfl ?_
        refine go_ifb_eq dc_X11_make_165 (by rfl) (fun hc => ?_) (fun hc => ?_)
        · replace h := (if_neg hc).symm.trans h
          refine go_wk (L' := [some (.inr 0), some (.inl x1), none, some (.inl x3), some (.inl x4), some (.inl x5), some (.inl (b2i x6)), some (.inl x7), some (.inl (b2i y0)), none, some (.inl x10), none, none]) ⟨rfl, rfl, rfl, rfl, rfl, rfl, rfl, rfl, rfl, trivial⟩ ?_
          exact hB_X11_make_183 x6 y0 x10 x9 h
        · replace h := (if_pos hc).symm.trans h
          refine go_ops ok_X11_make_168_1 (L' := [some (.inr 0), some (.inl x1), none, some (.inl x3), some (.inl x4), some (.inl x5), some (.inl (b2i x6)), some (.inl x7), some (.inl (b2i y0)), some (.inl x9), some (.inl x10), some (.inl x11), some (.inl (b2i x12))]) (st' := [.inl (b2i x6), .inl x9]) (σ1 := σ) rfl ?_
          refine go_ifb_eq dc_X11_make_170 (by rfl) (fun hc => ?_) (fun hc => ?_)
          · replace h := (if_neg hc).symm.trans h
            refine go_wk (L' := [some (.inr 0), some (.inl x1), none, some (.inl x3), some (.inl x4), some (.inl x5), some (.inl (b2i x6)), some (.inl x7), some (.inl (b2i y0)), none, some (.inl x10), none, none]) ⟨rfl, rfl, rfl, rfl, rfl, rfl, rfl, rfl, rfl, trivial⟩ ?_
            exact hB_X11_make_183 x6 y0 x10 x9 h
          · replace h := (if_pos hc).symm.trans h
            refine go_ops ok_X11_make_173_3 (L' := [some (.inr 0), some (.inl x1), none, some (.inl x3), some (.inl x4), some (.inl x5), some (.inl (b2i x6)), some (.inl x7), some (.inl (b2i y0)), some (.inl x9), some (.inl x10), some (.inl x11), some (.inl (b2i x12))]) (st' := [.inl x11, .inr 15, .inl x9]) (σ1 := σ) rfl ?_
            obtain ⟨v9, e10, h⟩ := bind_inv h
            refine go_rd (k := 15) dc_X11_make_179 rfl e10 ?_
            refine go_goto dc_X11_make_180 (by rfl) ?_
            refine go_wk (L' := [some (.inr 0), some (.inl x1), none, some (.inl x3), some (.inl x4), some (.inl x5), some (.inl (b2i x6)), some (.inl x7), some (.inl (b2i y0)), none, some (.inl x10), none, none]) ⟨rfl, rfl, rfl, rfl, rfl, rfl, rfl, rfl, rfl, trivial⟩ ?_
            exact hB_X11_make_184 x6 y0 x10 v9 x9 h
      have hB_X11_make_158 : ∀ (x6 : Bool) (x9 : Int) (x10 : Int) (x11 : Int) (x12 : Bool), B_X11_make_158 x6 x9 x10 x11 x12 σ = some w → Go l m_X11_make (d + 1) LAYM (.inl (some (.inl q.1))) q.2 158 [some (.inr 0), some (.inl x1), none, some (.inl x3), some (.inl x4), some (.inl x5), some (.inl (b2i x6)), some (.inl x7), none, some (.inl x9), some (.inl x10), some (.inl x11), some (.inl (b2i x12))] [] σ := by
        intro x6 x9 x10 x11 x12 h
        unfold B_X11_make_158 at h
        refine go_ops ok_X11_make_158_1 (L' := [some (.inr 0), some (.inl x1), none, some (.inl x3), some (.inl x4), some (.inl x5), some (.inl (b2i x6)), some (.inl x7), none, some (.inl x9), some (.inl x10), some (.inl x11), some (.inl (b2i x12))]) (st' := [.inl 0]) (σ1 := σ) rfl ?_
        exact hB_X11_make_159 x6 x9 x10 x11 x12 false h
      have hB_X11_make_154 : ∀ (x6 : Bool) (x9 : Int) (x10 : Int) (x11 : Int) (x12 : Bool), B_X11_make_154 x6 x9 x10 x11 x12 σ = some w → Go l m_X11_make (d + 1) LAYM (.inl (some (.inl q.1))) q.2 154 [some (.inr 0), some (.inl x1), none, some (.inl x3), some (.inl x4), some (.inl x5), some (.inl (b2i x6)), some (.inl x7), none, some (.inl x9), some (.inl x10), some (.inl x11), some (.inl (b2i x12))] [] σ := by
        intro x6 x9 x10 x11 x12 h
        unfold B_X11_make_154 at h
        refine go_ops ok_X11_make_154_1 (L' := [some (.inr 0), some (.inl x1), none, some (.inl x3), some (.inl x4), some (.inl x5), some (.inl (b2i x6)), some (.inl x7), none, some (.inl x9), some (.inl x10), some (.inl x11), some (.inl (b2i x12))]) (st' := [.inl 1]) (σ1 := σ) rfl ?_
        refine go_goto dc_X11_make_155 (by rfl) ?_
        exact hB_X11_make_159 x6 x9 x10 x11 x12 true h
      have hB_X11_make_94 : ∀ (x8 : Bool) (x9 : Int) (x10 : Int) (x11 : Int) (x12 : Bool) (y0 : Bool), B_X11_make_94 x7 x8 x9 x10 x11 x12 y0 σ = some w → Go l m_X11_make (d + 1) LAYM (.inl (some (.inl q.1))) q.2 94 [some (.inr 0), some (.inl x1), none, some (.inl x3), some (.inl x4), some (.inl x5), none, some (.inl x7), some (.inl (b2i x8)), some (.inl x9), some (.inl x10), some (.inl x11), some (.inl (b2i x12))] [.inl (b2i y0)] σ := by
        intro x8 x9 x10 x11 x12 y0 h
        unfold B_X11_make_94 at h
        refine go_ops ok_X11_make_94_2 (L' := [some (.inr 0), some (.inl x1), none, some (.inl x3), some (.inl x4), some (.inl x5), some (.inl (b2i y0)), some (.inl x7), some (.inl (b2i x8)), some (.inl x9), some (.inl x10), some (.inl x11), some (.inl (b2i x12))]) (st' := [.inl (b2i x8)]) (σ1 := σ) rfl ?_
        refine go_ifb_eq dc_X11_make_98 (by rfl) (fun hc => ?_) (fun hc => ?_)
        · replace h := (if_neg hc).symm.trans h
          refine go_wk (L' := [some (.inr 0), some (.inl x1), none, some (.inl x3), some (.inl x4), some (.inl x5), some (.inl (b2i y0)), some (.inl x7), none, some (.inl x9), some (.inl x10), some (.inl x11), some (.inl (b2i x12))]) ⟨rfl, rfl, rfl, rfl, rfl, rfl, rfl, rfl, rfl, rfl, rfl, trivial⟩ ?_
          exact hB_X11_make_158 y0 x9 x10 x11 x12 h
        · replace h := (if_pos hc).symm.trans h
          refine go_ops ok_X11_make_101_1 (L' := [some (.inr 0), some (.inl x1), none, some (.inl x3), some (.inl x4), some (.inl x5), some (.inl (b2i y0)), some (.inl x7), some (.inl (b2i x8)), some (.inl x9), some (.inl x10), some (.inl x11), some (.inl (b2i x12))]) (st' := [.inl (b2i x12)]) (σ1 := σ) rfl ?_
          refine go_ifb_eq dc_X11_make_103 (by rfl) (fun hc => ?_) (fun hc => ?_)
          · replace h := (if_neg hc).symm.trans h
            refine go_ops ok_X11_make_148_2 (L' := [some (.inr 0), some (.inl x1), none, some (.inl x3), some (.inl x4), some (.inl x5), some (.inl (b2i y0)), some (.inl x7), some (.inl (b2i x8)), some (.inl x9), some (.inl x10), some (.inl x11), some (.inl (b2i x12))]) (st' := [.inl (-1), .inl x11]) (σ1 := σ) rfl ?_
            refine go_icmp_ne dc_X11_make_151 (by rfl) (fun hc => ?_) (fun hc => ?_)
            · replace h := (if_neg hc).symm.trans h
              refine go_wk (L' := [some (.inr 0), some (.inl x1), none, some (.inl x3), some (.inl x4), some (.inl x5), some (.inl (b2i y0)), some (.inl x7), none, some (.inl x9), some (.inl x10), some (.inl x11), some (.inl (b2i x12))]) ⟨rfl, rfl, rfl, rfl, rfl, rfl, rfl, rfl, rfl, rfl, rfl, trivial⟩ ?_
              exact hB_X11_make_158 y0 x9 x10 x11 x12 h
            · replace h := (if_pos hc).symm.trans h
              refine go_wk (L' := [some (.inr 0), some (.inl x1), none, some (.inl x3), some (.inl x4), some (.inl x5), some (.inl (b2i y0)), some (.inl x7), none, some (.inl x9), some (.inl x10), some (.inl x11), some (.inl (b2i x12))]) ⟨rfl, rfl, rfl, rfl, rfl, rfl, rfl, rfl, rfl, rfl, rfl, trivial⟩ ?_
              exact hB_X11_make_154 y0 x9 x10 x11 x12 h
          · replace h := (if_pos hc).symm.trans h
            refine go_ops ok_X11_make_106_1 (L' := [some (.inr 0), some (.inl x1), none, some (.inl x3), some (.inl x4), some (.inl x5), some (.inl (b2i y0)), some (.inl x7), some (.inl (b2i x8)), some (.inl x9), some (.inl x10), some (.inl x11), some (.inl (b2i x12))]) (st' := [.inl (b2i y0)]) (σ1 := σ) rfl ?_
            refine go_ifb_eq dc_X11_make_108 (by rfl) (fun hc => ?_) (fun hc => ?_)
            · replace h := (if_neg hc).symm.trans h
              refine go_wk (L' := [some (.inr 0), some (.inl x1), none, some (.inl x3), some (.inl x4), some (.inl x5), some (.inl (b2i y0)), some (.inl x7), none, some (.inl x9), some (.inl x10), some (.inl x11), some (.inl (b2i x12))]) ⟨rfl, rfl, rfl, rfl, rfl, rfl, rfl, rfl, rfl, rfl, rfl, trivial⟩ ?_
              exact hB_X11_make_158 y0 x9 x10 x11 x12 h
            · replace h := (if_pos hc).symm.trans h
              refine go_ops ok_X11_make_111_9 (L' := [some (.inr 0), some (.inl x1), none, some (.inl x3), some (.inl x4), some (.inl x5), some (.inl (b2i y0)), some (.inl x7), some (.inl (b2i x8)), some (.inl x9), some (.inl x10), some (.inl x11), some (.inl (b2i x12))]) (st' := [.inl (wrap ((wrap (3 * x7)) + x10)), .inr 3, .inl x11, .inr 0]) (σ1 := σ) rfl ?_
              obtain ⟨v11, e12, h⟩ := bind_inv h
              refine go_rd (k := 3) dc_X11_make_125 rfl e12 ?_
              obtain ⟨q13, e14, h⟩ := bind_inv h
              refine go_V (M1 := m_X11_suits) (as := [.inl x11, .inl v11]) (st := []) (k := 0) (ci := 11) dc_X11_make_126 ln_11_215 im_X11_suits (by decide) rfl rfl mk_X11_suits rfl (Nat.le_of_ble_eq_true rfl) (Nat.le_refl _) (v := (some (.inl (b2i q13)))) (σ1 := σ) (lk_X11_suits l d (by omega) x11 v11 σ q13 e14) _ rfl ?_
              refine go_ifb_eq dc_X11_make_129 (by rfl) (fun hc => ?_) (fun hc => ?_)
              · replace h := (if_neg hc).symm.trans h
                refine go_wk (L' := [some (.inr 0), some (.inl x1), none, some (.inl x3), some (.inl x4), some (.inl x5), some (.inl (b2i y0)), some (.inl x7), none, some (.inl x9), some (.inl x10), some (.inl x11), some (.inl (b2i x12))]) ⟨rfl, rfl, rfl, rfl, rfl, rfl, rfl, rfl, rfl, rfl, rfl, trivial⟩ ?_
                exact hB_X11_make_158 y0 x9 x10 x11 x12 h
              · replace h := (if_pos hc).symm.trans h
                refine go_ops ok_X11_make_132_3 (L' := [some (.inr 0), some (.inl x1), none, some (.inl x3), some (.inl x4), some (.inl x5), some (.inl (b2i y0)), some (.inl x7), some (.inl (b2i x8)), some (.inl x9), some (.inl x10), some (.inl x11), some (.inl (b2i x12))]) (st' := [.inl x11, .inr 15]) (σ1 := σ) rfl ?_
                obtain ⟨v15, e16, h⟩ := bind_inv h
                refine go_rd (k := 15) dc_X11_make_138 rfl e16 ?_
                refine go_ops ok_X11_make_139_2 (L' := [some (.inr 0), some (.inl x1), none, some (.inl x3), some (.inl x4), some (.inl x5), some (.inl (b2i y0)), some (.inl x7), some (.inl (b2i x8)), some (.inl x9), some (.inl x10), some (.inl x11), some (.inl (b2i x12))]) (st' := [.inl (jand v15 x9)]) (σ1 := σ) rfl ?_
                refine go_if_ne dc_X11_make_142 (by rfl) (fun hc => ?_) (fun hc => ?_)
                · replace h := (if_neg hc).symm.trans h
                  refine go_wk (L' := [some (.inr 0), some (.inl x1), none, some (.inl x3), some (.inl x4), some (.inl x5), some (.inl (b2i y0)), some (.inl x7), none, some (.inl x9), some (.inl x10), some (.inl x11), some (.inl (b2i x12))]) ⟨rfl, rfl, rfl, rfl, rfl, rfl, rfl, rfl, rfl, rfl, rfl, trivial⟩ ?_
                  exact hB_X11_make_158 y0 x9 x10 x11 x12 h
                · replace h := (if_pos hc).symm.trans h
                  refine go_goto dc_X11_make_145 (by rfl) ?_
                  refine go_wk (L' := [some (.inr 0), some (.inl x1), none, some (.inl x3), some (.inl x4), some (.inl x5), some (.inl (b2i y0)), some (.inl x7), none, some (.inl x9), some (.inl x10), some (.inl x11), some (.inl (b2i x12))]) ⟨rfl, rfl, rfl, rfl, rfl, rfl, rfl, rfl, rfl, rfl, rfl, trivial⟩ ?_
                  exact hB_X11_make_154 y0 x9 x10 x11 x12 h
      have hB_X11_make_89 : ∀ (x8 : Bool) (x9 : Int) (x10 : Int) (x11 : Int) (x12 : Bool), B_X11_make_89 x7 x8 x9 x10 x11 x12 σ = some w → Go l m_X11_make (d + 1) LAYM (.inl (some (.inl q.1))) q.2 89 [some (.inr 0), some (.inl x1), none, some (.inl x3), some (.inl x4), some (.inl x5), none, some (.inl x7), some (.inl (b2i x8)), some (.inl x9), some (.inl x10), some (.inl x11), some (.inl (b2i x12))] [] σ := by
        intro x8 x9 x10 x11 x12 h
        unfold B_X11_make_89 at h
        refine go_ops ok_X11_make_89_1 (L' := [some (.inr 0), some (.inl x1), none, some (.inl x3), some (.inl x4), some (.inl x5), none, some (.inl x7), some (.inl (b2i x8)), some (.inl x9), some (.inl x10), some (.inl x11), some (.inl (b2i x12))]) (st' := [.inl 1]) (σ1 := σ) rfl ?_
        refine go_goto dc_X11_make_90 (by rfl) ?_
        exact hB_X11_make_94 x8 x9 x10 x11 x12 true h
      have hB_X11_make_73 : ∀ (x8 : Bool) (x9 : Int) (x10 : Int) (x11 : Int) (y0 : Bool), B_X11_make_73 x7 x8 x9 x10 x11 y0 σ = some w → Go l m_X11_make (d + 1) LAYM (.inl (some (.inl q.1))) q.2 73 [some (.inr 0), some (.inl x1), none, some (.inl x3), some (.inl x4), some (.inl x5), none, some (.inl x7), some (.inl (b2i x8)), some (.inl x9), some (.inl x10), some (.inl x11), none] [.inl (b2i y0)] σ := by
        intro x8 x9 x10 x11 y0 h
        unfold B_X11_make_73 at h
        refine go_ops ok_X11_make_73_2 (L' := [some (.inr 0), some (.inl x1), none, some (.inl x3), some (.inl x4), some (.inl x5), none, some (.inl x7), some (.inl (b2i x8)), some (.inl x9), some (.inl x10), some (.inl x11), some (.inl (b2i y0))]) (st' := [.inl (b2i y0)]) (σ1 := σ) rfl ?_
        refine go_ifb_eq dc_X11_make_77 (by rfl) (fun hc => ?_) (fun hc => ?_)
        · replace h := (if_neg hc).symm.trans h
          exact hB_X11_make_89 x8 x9 x10 x11 y0 h
        · replace h := (if_pos hc).symm.trans h
          refine go_ops ok_X11_make_80_2 (L' := [some (.inr 0), some (.inl x1), none, some (.inl x3), some (.inl x4), some (.inl x5), none, some (.inl x7), some (.inl (b2i x8)), some (.inl x9), some (.inl x10), some (.inl x11), some (.inl (b2i y0))]) (st' := [.inl x11, .inr 0]) (σ1 := σ) rfl ?_
          refine go_V (M1 := m_X11_isPattern) (as := [.inl x11]) (st := []) (k := 0) (ci := 11) dc_X11_make_83 ln_11_212 im_X11_isPattern (by decide) rfl rfl mk_X11_isPattern rfl (Nat.le_of_ble_eq_true rfl) (Nat.le_refl _) (v := (some (.inl (b2i (F_X11_isPattern x11 σ))))) (σ1 := σ) (lk_X11_isPattern l d (by omega) x11 σ _ rfl) _ rfl ?_
          refine go_ifb_eq dc_X11_make_86 (by rfl) (fun hc => ?_) (fun hc => ?_)
          · replace h := (if_neg hc).symm.trans h
            refine go_ops ok_X11_make_93_1 (L' := [some (.inr 0), some (.inl x1), none, some (.inl x3), some (.inl x4), some (.inl x5), none, some (.inl x7), some (.inl (b2i x8)), some (.inl x9), some (.inl x10), some (.inl x11), some (.inl (b2i y0))]) (st' := [.inl 0]) (σ1 := σ) rfl ?_
            exact hB_X11_make_94 x8 x9 x10 x11 y0 false h
          · replace h := (if_pos hc).symm.trans h
            exact hB_X11_make_89 x8 x9 x10 x11 y0 h
      refine go_ops ok_X11_make_33_2 (L' := [some (.inr 0), some (.inl x1), none, some (.inl x3), some (.inl x4), some (.inl x5), some (.inl (b2i x6)), some (.inl x7), some (.inl (b2i x8)), some (.inl x9), some (.inl x10), none, none]) (st' := [.inl 3, .inl x10]) (σ1 := σ) rfl ?_
      refine go_icmp_ge dc_X11_make_36 (by rfl) (fun hc => ?_) (fun hc => ?_)
      · replace h := (if_pos hc).symm.trans h
        cases h
        refine go_wk (L' := [some (.inr 0), some (.inl x1), none, some (.inl x3), some (.inl x4), some (.inl x5), some (.inl (b2i x6)), some (.inl x7), some (.inl (b2i x8)), none, none, none, none]) ⟨rfl, rfl, rfl, rfl, rfl, rfl, rfl, rfl, trivial⟩ ?_
        exact hK
      · replace h := (if_neg hc).symm.trans h
        refine go_ops ok_X11_make_39_1 (L' := [some (.inr 0), some (.inl x1), none, some (.inl x3), some (.inl x4), some (.inl x5), some (.inl (b2i x6)), some (.inl x7), some (.inl (b2i x8)), some (.inl x9), some (.inl x10), none, none]) (st' := [.inl (b2i x6)]) (σ1 := σ) rfl ?_
        refine go_ifb_eq dc_X11_make_41 (by rfl) (fun hc => ?_) (fun hc => ?_)
        · replace h := (if_neg hc).symm.trans h
          cases h
          refine go_wk (L' := [some (.inr 0), some (.inl x1), none, some (.inl x3), some (.inl x4), some (.inl x5), some (.inl (b2i x6)), some (.inl x7), some (.inl (b2i x8)), none, none, none, none]) ⟨rfl, rfl, rfl, rfl, rfl, rfl, rfl, rfl, trivial⟩ ?_
          exact hK
        · replace h := (if_pos hc).symm.trans h
          refine go_ops ok_X11_make_44_4 (L' := [some (.inr 0), some (.inl x1), none, some (.inl x3), some (.inl x4), some (.inl x5), some (.inl (b2i x6)), some (.inl x7), some (.inl (b2i x8)), some (.inl x9), some (.inl x10), none, none]) (st' := [.inl x10, .inl x5, .inl x4, .inl x3]) (σ1 := σ) rfl ?_
          refine go_S (M1 := m_X11_pick) (as := [.inl x3, .inl x4, .inl x5, .inl x10]) (st := []) dc_X11_make_51 ln_11_175 sm_X11_pick mk_X11_pick rfl (Nat.le_of_ble_eq_true rfl) (Nat.le_refl _) (v := (some (.inl (F_X11_pick x3 x4 x5 x10)))) (σ1 := σ) (lk_X11_pick l d (by omega) x3 x4 x5 x10 σ _ rfl) _ rfl ?_
          obtain ⟨v3, e4, h⟩ := bnd_inv h
          refine go_ops ok_X11_make_54_5 (L' := [some (.inr 0), some (.inl x1), none, some (.inl x3), some (.inl x4), some (.inl x5), some (.inl (b2i x6)), some (.inl x7), some (.inl (b2i x8)), some (.inl x9), some (.inl x10), some (.inl v3), none]) (st' := [.inl x7, .inr 2, .inl x10]) (σ1 := σ) (by subst e4; rfl) ?_
          obtain ⟨v5, e6, h⟩ := bind_inv h
          refine go_rd (k := 2) dc_X11_make_64 rfl e6 ?_
          refine go_icmp_ge dc_X11_make_65 (by rfl) (fun hc => ?_) (fun hc => ?_)
          · replace h := (if_pos hc).symm.trans h
            refine go_ops ok_X11_make_72_1 (L' := [some (.inr 0), some (.inl x1), none, some (.inl x3), some (.inl x4), some (.inl x5), some (.inl (b2i x6)), some (.inl x7), some (.inl (b2i x8)), some (.inl x9), some (.inl x10), some (.inl v3), none]) (st' := [.inl 0]) (σ1 := σ) rfl ?_
            refine go_wk (L' := [some (.inr 0), some (.inl x1), none, some (.inl x3), some (.inl x4), some (.inl x5), none, some (.inl x7), some (.inl (b2i x8)), some (.inl x9), some (.inl x10), some (.inl v3), none]) ⟨rfl, rfl, rfl, rfl, rfl, rfl, rfl, rfl, rfl, rfl, trivial⟩ ?_
            exact hB_X11_make_73 x8 x9 x10 v3 false h
          · replace h := (if_neg hc).symm.trans h
            refine go_ops ok_X11_make_68_1 (L' := [some (.inr 0), some (.inl x1), none, some (.inl x3), some (.inl x4), some (.inl x5), some (.inl (b2i x6)), some (.inl x7), some (.inl (b2i x8)), some (.inl x9), some (.inl x10), some (.inl v3), none]) (st' := [.inl 1]) (σ1 := σ) rfl ?_
            refine go_goto dc_X11_make_69 (by rfl) ?_
            refine go_wk (L' := [some (.inr 0), some (.inl x1), none, some (.inl x3), some (.inl x4), some (.inl x5), none, some (.inl x7), some (.inl (b2i x8)), some (.inl x9), some (.inl x10), some (.inl v3), none]) ⟨rfl, rfl, rfl, rfl, rfl, rfl, rfl, rfl, rfl, rfl, trivial⟩ ?_
            exact hB_X11_make_73 x8 x9 x10 v3 true h
    have hB_X11_make_268 : ∀ (x1 : Int) (x3 : Int) (x4 : Int) (x5 : Int) (x7 : Int) (y0 : Int) (σ : Sg), B_X11_make_268 x1 x3 x4 x5 x7 y0 σ = some q → Go l m_X11_make (d + 1) LAYM (.inl (some (.inl q.1))) q.2 268 [some (.inr 0), some (.inl x1), none, some (.inl x3), some (.inl x4), some (.inl x5), none, some (.inl x7), none, none, none, none, none] [.inl y0, .inr 0] σ := by
      intro x1 x3 x4 x5 x7 y0 σ h
      unfold B_X11_make_268 at h
      obtain ⟨q19, e20, h⟩ := bnd_inv h
      refine go_V (M1 := m_X11_refused) (as := [.inl y0]) (st := []) (k := 0) (ci := 11) dc_X11_make_268 ln_11_183 im_X11_refused (by decide) rfl rfl mk_X11_refused rfl (Nat.le_of_ble_eq_true rfl) (Nat.le_refl _) (v := (some (.inl (b2i q19.1)))) (σ1 := q19.2) (lk_X11_refused l d (by omega) y0 σ q19 e20.symm) _ rfl ?_
      refine go_ifb_eq dc_X11_make_271 (by rfl) (fun hc => ?_) (fun hc => ?_)
      · replace h := (if_neg hc).symm.trans h
        refine go_ops ok_X11_make_278_8 (L' := [some (.inr 0), some (.inl x1), none, some (.inl x3), some (.inl x4), some (.inl x5), none, some (.inl x7), none, none, none, none, none]) (st' := [.inl x1, .inl x5, .inl x4, .inl x3, .inl 0, .inl x7, .inl 3, .inr 0]) (σ1 := q19.2) rfl ?_
        obtain ⟨q21, e22, h⟩ := bind_inv h
        refine go_V (M1 := m_X11_pattern) (as := [.inl 3, .inl x7, .inl 0, .inl x3, .inl x4, .inl x5, .inl x1]) (st := []) (k := 0) (ci := 11) dc_X11_make_289 ln_11_208 im_X11_pattern (by decide) rfl rfl mk_X11_pattern rfl (Nat.le_of_ble_eq_true rfl) (Nat.le_refl _) (v := (some (.inl q21.1))) (σ1 := q21.2) (lk_X11_pattern l d (by omega) 3 x7 0 x3 x4 x5 x1 q19.2 q21 e22) _ rfl ?_
        have h9 := Option.some.inj h
        subst h9
        exact go_iret dc_X11_make_292 rfl
      · replace h := (if_pos hc).symm.trans h
        refine go_ops ok_X11_make_274_1 (L' := [some (.inr 0), some (.inl x1), none, some (.inl x3), some (.inl x4), some (.inl x5), none, some (.inl x7), none, none, none, none, none]) (st' := [.inl 0]) (σ1 := q19.2) rfl ?_
        refine go_goto dc_X11_make_275 (by rfl) ?_
        have h9 := Option.some.inj h
        subst h9
        exact go_iret dc_X11_make_292 rfl
    have hB_X11_make_235 : ∀ (x1 : Int) (x3 : Int) (x4 : Int) (x5 : Int) (x6 : Bool) (x7 : Int) (y0 : Bool) (σ : Sg), B_X11_make_235 x1 x3 x4 x5 x6 x7 y0 σ = some q → Go l m_X11_make (d + 1) LAYM (.inl (some (.inl q.1))) q.2 235 [some (.inr 0), some (.inl x1), none, some (.inl x3), some (.inl x4), some (.inl x5), some (.inl (b2i x6)), some (.inl x7), none, none, none, none, none] [.inl (b2i y0)] σ := by
      intro x1 x3 x4 x5 x6 x7 y0 σ h
      unfold B_X11_make_235 at h
      refine go_ops ok_X11_make_235_3 (L' := [some (.inr 0), some (.inl x1), none, some (.inl x3), some (.inl x4), some (.inl x5), some (.inl (b2i x6)), some (.inl x7), some (.inl (b2i y0)), none, none, none, none]) (st' := [.inl (b2i x6), .inr 0]) (σ1 := σ) rfl ?_
      refine go_ifb_ne dc_X11_make_240 (by rfl) (fun hc => ?_) (fun hc => ?_)
      · replace h := (if_pos hc).symm.trans h
        refine go_ops ok_X11_make_247_1 (L' := [some (.inr 0), some (.inl x1), none, some (.inl x3), some (.inl x4), some (.inl x5), some (.inl (b2i x6)), some (.inl x7), some (.inl (b2i y0)), none, none, none, none]) (st' := [.inl (b2i y0), .inr 0]) (σ1 := σ) rfl ?_
        refine go_ifb_ne dc_X11_make_249 (by rfl) (fun hc => ?_) (fun hc => ?_)
        · replace h := (if_pos hc).symm.trans h
          refine go_ops ok_X11_make_256_1 (L' := [some (.inr 0), some (.inl x1), none, some (.inl x3), some (.inl x4), some (.inl x5), some (.inl (b2i x6)), some (.inl x7), some (.inl (b2i y0)), none, none, none, none]) (st' := [.inr 0, .inr 0]) (σ1 := σ) rfl ?_
          refine go_V (M1 := m_X11_isFull) (as := []) (st := [.inr 0]) (k := 0) (ci := 11) dc_X11_make_257 ln_11_204 im_X11_isFull (by decide) rfl rfl mk_X11_isFull rfl (Nat.le_of_ble_eq_true rfl) (Nat.le_refl _) (v := (some (.inl (b2i (F_X11_isFull σ))))) (σ1 := σ) (lk_X11_isFull l d (by omega) σ _ rfl) _ rfl ?_
          refine go_ifb_eq dc_X11_make_260 (by rfl) (fun hc => ?_) (fun hc => ?_)
          · replace h := (if_neg hc).symm.trans h
            refine go_ops ok_X11_make_267_1 (L' := [some (.inr 0), some (.inl x1), none, some (.inl x3), some (.inl x4), some (.inl x5), some (.inl (b2i x6)), some (.inl x7), some (.inl (b2i y0)), none, none, none, none]) (st' := [.inl 0, .inr 0]) (σ1 := σ) rfl ?_
            refine go_wk (L' := [some (.inr 0), some (.inl x1), none, some (.inl x3), some (.inl x4), some (.inl x5), none, some (.inl x7), none, none, none, none, none]) ⟨rfl, rfl, rfl, rfl, rfl, rfl, trivial⟩ ?_
            exact hB_X11_make_268 x1 x3 x4 x5 x7 0 σ h
          · replace h := (if_pos hc).symm.trans h
            refine go_ops ok_X11_make_263_1 (L' := [some (.inr 0), some (.inl x1), none, some (.inl x3), some (.inl x4), some (.inl x5), some (.inl (b2i x6)), some (.inl x7), some (.inl (b2i y0)), none, none, none, none]) (st' := [.inl 3, .inr 0]) (σ1 := σ) rfl ?_
            refine go_goto dc_X11_make_264 (by rfl) ?_
            refine go_wk (L' := [some (.inr 0), some (.inl x1), none, some (.inl x3), some (.inl x4), some (.inl x5), none, some (.inl x7), none, none, none, none, none]) ⟨rfl, rfl, rfl, rfl, rfl, rfl, trivial⟩ ?_
            exact hB_X11_make_268 x1 x3 x4 x5 x7 3 σ h
        · replace h := (if_neg hc).symm.trans h
          refine go_ops ok_X11_make_252_1 (L' := [some (.inr 0), some (.inl x1), none, some (.inl x3), some (.inl x4), some (.inl x5), some (.inl (b2i x6)), some (.inl x7), some (.inl (b2i y0)), none, none, none, none]) (st' := [.inl 2, .inr 0]) (σ1 := σ) rfl ?_
          refine go_goto dc_X11_make_253 (by rfl) ?_
          refine go_wk (L' := [some (.inr 0), some (.inl x1), none, some (.inl x3), some (.inl x4), some (.inl x5), none, some (.inl x7), none, none, none, none, none]) ⟨rfl, rfl, rfl, rfl, rfl, rfl, trivial⟩ ?_
          exact hB_X11_make_268 x1 x3 x4 x5 x7 2 σ h
      · replace h := (if_neg hc).symm.trans h
        refine go_ops ok_X11_make_243_1 (L' := [some (.inr 0), some (.inl x1), none, some (.inl x3), some (.inl x4), some (.inl x5), some (.inl (b2i x6)), some (.inl x7), some (.inl (b2i y0)), none, none, none, none]) (st' := [.inl 1, .inr 0]) (σ1 := σ) rfl ?_
        refine go_goto dc_X11_make_244 (by rfl) ?_
        refine go_wk (L' := [some (.inr 0), some (.inl x1), none, some (.inl x3), some (.inl x4), some (.inl x5), none, some (.inl x7), none, none, none, none, none]) ⟨rfl, rfl, rfl, rfl, rfl, rfl, trivial⟩ ?_
        exact hB_X11_make_268 x1 x3 x4 x5 x7 1 σ h
    have hB_X11_make_234 : ∀ (x1 : Int) (x3 : Int) (x4 : Int) (x5 : Int) (x6 : Bool) (x7 : Int) (σ : Sg), B_X11_make_234 x1 x3 x4 x5 x6 x7 σ = some q → Go l m_X11_make (d + 1) LAYM (.inl (some (.inl q.1))) q.2 234 [some (.inr 0), some (.inl x1), none, some (.inl x3), some (.inl x4), some (.inl x5), some (.inl (b2i x6)), some (.inl x7), none, none, none, none, none] [] σ := by
      intro x1 x3 x4 x5 x6 x7 σ h
      unfold B_X11_make_234 at h
      refine go_ops ok_X11_make_234_1 (L' := [some (.inr 0), some (.inl x1), none, some (.inl x3), some (.inl x4), some (.inl x5), some (.inl (b2i x6)), some (.inl x7), none, none, none, none, none]) (st' := [.inl 0]) (σ1 := σ) rfl ?_
      exact hB_X11_make_235 x1 x3 x4 x5 x6 x7 false σ h
    have hB_X11_make_22 : ∀ (x1 : Int) (x3 : Int) (x4 : Int) (x5 : Int) (x6 : Bool) (y0 : Int) (σ : Sg), B_X11_make_22 x1 x3 x4 x5 x6 y0 σ = some q → Go l m_X11_make (d + 1) LAYM (.inl (some (.inl q.1))) q.2 22 [some (.inr 0), some (.inl x1), none, some (.inl x3), some (.inl x4), some (.inl x5), some (.inl (b2i x6)), none, none, none, none, none, none] [.inl y0] σ := by
      intro x1 x3 x4 x5 x6 y0 σ h
      unfold B_X11_make_22 at h
      refine go_ops ok_X11_make_22_7 (L' := [some (.inr 0), some (.inl x1), none, some (.inl x3), some (.inl x4), some (.inl x5), some (.inl (b2i x6)), some (.inl y0), some (.inl 1), some (.inl 0), some (.inl 0), none, none]) (st' := []) (σ1 := σ) rfl ?_
      obtain ⟨y17, e18, h⟩ := bind_inv h
      refine hL_X11_make_33 x1 x3 x4 x5 y0 σ 4 (x6, true, 0, 0) y17 e18 ?_
      show Go l m_X11_make (d + 1) LAYM (.inl (some (.inl q.1))) q.2 193 [some (.inr 0), some (.inl x1), none, some (.inl x3), some (.inl x4), some (.inl x5), some (.inl (b2i y17.1)), some (.inl y0), some (.inl (b2i y17.2)), none, none, none, none] [] σ
      refine go_ops ok_X11_make_193_1 (L' := [some (.inr 0), some (.inl x1), none, some (.inl x3), some (.inl x4), some (.inl x5), some (.inl (b2i y17.1)), some (.inl y0), some (.inl (b2i y17.2)), none, none, none, none]) (st' := [.inl (b2i y17.1)]) (σ1 := σ) rfl ?_
      refine go_ifb_eq dc_X11_make_195 (by rfl) (fun hc => ?_) (fun hc => ?_)
      · replace h := (if_neg hc).symm.trans h
        refine go_wk (L' := [some (.inr 0), some (.inl x1), none, some (.inl x3), some (.inl x4), some (.inl x5), some (.inl (b2i y17.1)), some (.inl y0), none, none, none, none, none]) ⟨rfl, rfl, rfl, rfl, rfl, rfl, rfl, trivial⟩ ?_
        exact hB_X11_make_234 x1 x3 x4 x5 y17.1 y0 σ h
      · replace h := (if_pos hc).symm.trans h
        refine go_ops ok_X11_make_198_1 (L' := [some (.inr 0), some (.inl x1), none, some (.inl x3), some (.inl x4), some (.inl x5), some (.inl (b2i y17.1)), some (.inl y0), some (.inl (b2i y17.2)), none, none, none, none]) (st' := [.inl (b2i y17.2)]) (σ1 := σ) rfl ?_
        refine go_ifb_eq dc_X11_make_200 (by rfl) (fun hc => ?_) (fun hc => ?_)
        · replace h := (if_neg hc).symm.trans h
          refine go_wk (L' := [some (.inr 0), some (.inl x1), none, some (.inl x3), some (.inl x4), some (.inl x5), some (.inl (b2i y17.1)), some (.inl y0), none, none, none, none, none]) ⟨rfl, rfl, rfl, rfl, rfl, rfl, rfl, trivial⟩ ?_
          exact hB_X11_make_234 x1 x3 x4 x5 y17.1 y0 σ h
        · replace h := (if_pos hc).symm.trans h
          refine go_ops ok_X11_make_203_4 (L' := [some (.inr 0), some (.inl x1), none, some (.inl x3), some (.inl x4), some (.inl x5), some (.inl (b2i y17.1)), some (.inl y0), some (.inl (b2i y17.2)), none, none, none, none]) (st' := [.inl x5, .inl x4, .inl x3, .inr 0]) (σ1 := σ) rfl ?_
          obtain ⟨q23, e24, h⟩ := bind_inv h
          refine go_V (M1 := m_X11_depthOf) (as := [.inl x3, .inl x4, .inl x5]) (st := []) (k := 0) (ci := 11) dc_X11_make_209 ln_11_218 im_X11_depthOf (by decide) rfl rfl mk_X11_depthOf rfl (Nat.le_of_ble_eq_true rfl) (Nat.le_refl _) (v := (some (.inl q23))) (σ1 := σ) (lk_X11_depthOf l d (by omega) x3 x4 x5 σ q23 e24) _ rfl ?_
          refine go_ops ok_X11_make_212_1 (L' := [some (.inr 0), some (.inl x1), none, some (.inl x3), some (.inl x4), some (.inl x5), some (.inl (b2i y17.1)), some (.inl y0), some (.inl (b2i y17.2)), none, none, none, none]) (st' := [.inl 4, .inl q23]) (σ1 := σ) rfl ?_
          refine go_icmp_gt dc_X11_make_213 (by rfl) (fun hc => ?_) (fun hc => ?_)
          · replace h := (if_pos hc).symm.trans h
            refine go_wk (L' := [some (.inr 0), some (.inl x1), none, some (.inl x3), some (.inl x4), some (.inl x5), some (.inl (b2i y17.1)), some (.inl y0), none, none, none, none, none]) ⟨rfl, rfl, rfl, rfl, rfl, rfl, rfl, trivial⟩ ?_
            exact hB_X11_make_234 x1 x3 x4 x5 y17.1 y0 σ h
          · replace h := (if_neg hc).symm.trans h
            refine go_ops ok_X11_make_216_4 (L' := [some (.inr 0), some (.inl x1), none, some (.inl x3), some (.inl x4), some (.inl x5), some (.inl (b2i y17.1)), some (.inl y0), some (.inl (b2i y17.2)), none, none, none, none]) (st' := [.inl x5, .inl x4, .inl x3, .inr 0]) (σ1 := σ) rfl ?_
            obtain ⟨q25, e26, h⟩ := bind_inv h
            refine go_V (M1 := m_X11_sizeOf) (as := [.inl x3, .inl x4, .inl x5]) (st := []) (k := 0) (ci := 11) dc_X11_make_222 ln_11_200 im_X11_sizeOf (by decide) rfl rfl mk_X11_sizeOf rfl (Nat.le_of_ble_eq_true rfl) (Nat.le_refl _) (v := (some (.inl q25))) (σ1 := σ) (lk_X11_sizeOf l d (by omega) x3 x4 x5 σ q25 e26) _ rfl ?_
            refine go_ops ok_X11_make_225_1 (L' := [some (.inr 0), some (.inl x1), none, some (.inl x3), some (.inl x4), some (.inl x5), some (.inl (b2i y17.1)), some (.inl y0), some (.inl (b2i y17.2)), none, none, none, none]) (st' := [.inl 40, .inl q25]) (σ1 := σ) rfl ?_
            refine go_icmp_gt dc_X11_make_227 (by rfl) (fun hc => ?_) (fun hc => ?_)
            · replace h := (if_pos hc).symm.trans h
              refine go_wk (L' := [some (.inr 0), some (.inl x1), none, some (.inl x3), some (.inl x4), some (.inl x5), some (.inl (b2i y17.1)), some (.inl y0), none, none, none, none, none]) ⟨rfl, rfl, rfl, rfl, rfl, rfl, rfl, trivial⟩ ?_
              exact hB_X11_make_234 x1 x3 x4 x5 y17.1 y0 σ h
            · replace h := (if_neg hc).symm.trans h
              refine go_ops ok_X11_make_230_1 (L' := [some (.inr 0), some (.inl x1), none, some (.inl x3), some (.inl x4), some (.inl x5), some (.inl (b2i y17.1)), some (.inl y0), some (.inl (b2i y17.2)), none, none, none, none]) (st' := [.inl 1]) (σ1 := σ) rfl ?_
              refine go_goto dc_X11_make_231 (by rfl) ?_
              refine go_wk (L' := [some (.inr 0), some (.inl x1), none, some (.inl x3), some (.inl x4), some (.inl x5), some (.inl (b2i y17.1)), some (.inl y0), none, none, none, none, none]) ⟨rfl, rfl, rfl, rfl, rfl, rfl, rfl, trivial⟩ ?_
              exact hB_X11_make_235 x1 x3 x4 x5 y17.1 y0 true σ h
    refine go_ops ok_X11_make_0_3 (L' := [some (.inr 0), some (.inl a1), some (.inl a2), some (.inl a3), some (.inl a4), some (.inl a5), none, none, none, none, none, none, none]) (st' := [.inl a2, .inl a1, .inr 0]) (σ1 := σ) rfl ?_
    obtain ⟨q1, e2, h⟩ := bind_inv h
    refine go_V (M1 := m_X11_isConstructor) (as := [.inl a1, .inl a2]) (st := []) (k := 0) (ci := 11) dc_X11_make_3 ln_11_193 im_X11_isConstructor (by decide) rfl rfl mk_X11_isConstructor rfl (Nat.le_of_ble_eq_true rfl) (Nat.le_refl _) (v := (some (.inl (b2i q1)))) (σ1 := σ) (lk_X11_isConstructor l d (by omega) a1 a2 σ q1 e2) _ rfl ?_
    refine go_ops ok_X11_make_6_2 (L' := [some (.inr 0), some (.inl a1), some (.inl a2), some (.inl a3), some (.inl a4), some (.inl a5), some (.inl (b2i q1)), none, none, none, none, none, none]) (st' := [.inl (b2i q1)]) (σ1 := σ) rfl ?_
    refine go_ifb_eq dc_X11_make_10 (by rfl) (fun hc => ?_) (fun hc => ?_)
    · replace h := (if_neg hc).symm.trans h
      refine go_ops ok_X11_make_21_1 (L' := [some (.inr 0), some (.inl a1), some (.inl a2), some (.inl a3), some (.inl a4), some (.inl a5), some (.inl (b2i q1)), none, none, none, none, none, none]) (st' := [.inl 0]) (σ1 := σ) rfl ?_
      refine go_wk (L' := [some (.inr 0), some (.inl a1), none, some (.inl a3), some (.inl a4), some (.inl a5), some (.inl (b2i q1)), none, none, none, none, none, none]) ⟨rfl, rfl, rfl, rfl, rfl, rfl, trivial⟩ ?_
      exact hB_X11_make_22 a1 a3 a4 a5 q1 0 σ h
    · replace h := (if_pos hc).symm.trans h
      refine go_ops ok_X11_make_13_5 (L' := [some (.inr 0), some (.inl a1), some (.inl a2), some (.inl a3), some (.inl a4), some (.inl a5), some (.inl (b2i q1)), none, none, none, none, none, none]) (st' := [.inl (wrap ((wrap (4 * a1)) + a2))]) (σ1 := σ) rfl ?_
      refine go_goto dc_X11_make_18 (by rfl) ?_
      refine go_wk (L' := [some (.inr 0), some (.inl a1), none, some (.inl a3), some (.inl a4), some (.inl a5), some (.inl (b2i q1)), none, none, none, none, none, none]) ⟨rfl, rfl, rfl, rfl, rfl, rfl, trivial⟩ ?_
      exact hB_X11_make_22 a1 a3 a4 a5 q1 (wrap ((wrap (4 * a1)) + a2)) σ h
  have hf := go_ct (as := [.inr 0, .inl a1, .inl a2, .inl a3, .inl a4, .inl a5]) mk_X11_make (by rfl) (Nat.le_of_ble_eq_true rfl) key
  exact hf
theorem dc_X11_areAlternatives_5 : decode m_X11_areAlternatives.2.2.1 5 = .ok (.iaload, 1) := by decide +kernel
theorem dc_X11_areAlternatives_7 : decode m_X11_areAlternatives.2.2.1 7 = .ok (.if_icmp .eq 28, 3) := by decide +kernel
theorem dc_X11_areAlternatives_15 : decode m_X11_areAlternatives.2.2.1 15 = .ok (.iaload, 1) := by decide +kernel
theorem dc_X11_areAlternatives_17 : decode m_X11_areAlternatives.2.2.1 17 = .ok (.if_icmp .eq 18, 3) := by decide +kernel
theorem dc_X11_areAlternatives_25 : decode m_X11_areAlternatives.2.2.1 25 = .ok (.iaload, 1) := by decide +kernel
theorem dc_X11_areAlternatives_31 : decode m_X11_areAlternatives.2.2.1 31 = .ok (.iaload, 1) := by decide +kernel
theorem dc_X11_areAlternatives_32 : decode m_X11_areAlternatives.2.2.1 32 = .ok (.if_icmp .ne 7, 3) := by decide +kernel
theorem dc_X11_areAlternatives_36 : decode m_X11_areAlternatives.2.2.1 36 = .ok (.goto 4, 3) := by decide +kernel
theorem dc_X11_areAlternatives_42 : decode m_X11_areAlternatives.2.2.1 42 = .ok (.ifCond .eq 34, 3) := by decide +kernel
theorem dc_X11_areAlternatives_50 : decode m_X11_areAlternatives.2.2.1 50 = .ok (.iaload, 1) := by decide +kernel
theorem dc_X11_areAlternatives_56 : decode m_X11_areAlternatives.2.2.1 56 = .ok (.iaload, 1) := by decide +kernel
theorem dc_X11_areAlternatives_57 : decode m_X11_areAlternatives.2.2.1 57 = .ok (.if_icmp .ne 19, 3) := by decide +kernel
theorem dc_X11_areAlternatives_64 : decode m_X11_areAlternatives.2.2.1 64 = .ok (.invokevirtual 200, 3) := by decide +kernel
theorem dc_X11_areAlternatives_69 : decode m_X11_areAlternatives.2.2.1 69 = .ok (.if_icmp .gt 7, 3) := by decide +kernel
theorem dc_X11_areAlternatives_73 : decode m_X11_areAlternatives.2.2.1 73 = .ok (.goto 4, 3) := by decide +kernel
theorem dc_X11_areAlternatives_77 : decode m_X11_areAlternatives.2.2.1 77 = .ok (.ireturn, 1) := by decide +kernel
theorem ok_X11_areAlternatives_0_3 : oks m_X11_areAlternatives.1 m_X11_areAlternatives.2.2.1 0 [(.aload_n 0, 1, (0, 0, 0)), (.getfield 43, 3, (11, 14, 0)), (.iload_n 1, 1, (0, 0, 0))] = true ∧ plen 0 [(.aload_n 0, 1, (0, 0, 0)), (.getfield 43, 3, (11, 14, 0)), (.iload_n 1, 1, (0, 0, 0))] = 5 := by decide +kernel
theorem ok_X11_areAlternatives_6_1 : oks m_X11_areAlternatives.1 m_X11_areAlternatives.2.2.1 6 [(.iconst (-1), 1, (0, 0, 0))] = true ∧ plen 6 [(.iconst (-1), 1, (0, 0, 0))] = 7 := by decide +kernel
theorem ok_X11_areAlternatives_10_3 : oks m_X11_areAlternatives.1 m_X11_areAlternatives.2.2.1 10 [(.aload_n 0, 1, (0, 0, 0)), (.getfield 43, 3, (11, 14, 0)), (.iload_n 2, 1, (0, 0, 0))] = true ∧ plen 10 [(.aload_n 0, 1, (0, 0, 0)), (.getfield 43, 3, (11, 14, 0)), (.iload_n 2, 1, (0, 0, 0))] = 15 := by decide +kernel
theorem ok_X11_areAlternatives_16_1 : oks m_X11_areAlternatives.1 m_X11_areAlternatives.2.2.1 16 [(.iconst (-1), 1, (0, 0, 0))] = true ∧ plen 16 [(.iconst (-1), 1, (0, 0, 0))] = 17 := by decide +kernel
theorem ok_X11_areAlternatives_20_3 : oks m_X11_areAlternatives.1 m_X11_areAlternatives.2.2.1 20 [(.aload_n 0, 1, (0, 0, 0)), (.getfield 43, 3, (11, 14, 0)), (.iload_n 1, 1, (0, 0, 0))] = true ∧ plen 20 [(.aload_n 0, 1, (0, 0, 0)), (.getfield 43, 3, (11, 14, 0)), (.iload_n 1, 1, (0, 0, 0))] = 25 := by decide +kernel
theorem ok_X11_areAlternatives_26_3 : oks m_X11_areAlternatives.1 m_X11_areAlternatives.2.2.1 26 [(.aload_n 0, 1, (0, 0, 0)), (.getfield 43, 3, (11, 14, 0)), (.iload_n 2, 1, (0, 0, 0))] = true ∧ plen 26 [(.aload_n 0, 1, (0, 0, 0)), (.getfield 43, 3, (11, 14, 0)), (.iload_n 2, 1, (0, 0, 0))] = 31 := by decide +kernel
theorem ok_X11_areAlternatives_35_1 : oks m_X11_areAlternatives.1 m_X11_areAlternatives.2.2.1 35 [(.iconst 1, 1, (0, 0, 0))] = true ∧ plen 35 [(.iconst 1, 1, (0, 0, 0))] = 36 := by decide +kernel
theorem ok_X11_areAlternatives_39_1 : oks m_X11_areAlternatives.1 m_X11_areAlternatives.2.2.1 39 [(.iconst 0, 1, (0, 0, 0))] = true ∧ plen 39 [(.iconst 0, 1, (0, 0, 0))] = 40 := by decide +kernel
theorem ok_X11_areAlternatives_40_2 : oks m_X11_areAlternatives.1 m_X11_areAlternatives.2.2.1 40 [(.istore_n 3, 1, (0, 0, 0)), (.iload_n 3, 1, (0, 0, 0))] = true ∧ plen 40 [(.istore_n 3, 1, (0, 0, 0)), (.iload_n 3, 1, (0, 0, 0))] = 42 := by decide +kernel
theorem ok_X11_areAlternatives_45_3 : oks m_X11_areAlternatives.1 m_X11_areAlternatives.2.2.1 45 [(.aload_n 0, 1, (0, 0, 0)), (.getfield 52, 3, (11, 17, 0)), (.iload_n 1, 1, (0, 0, 0))] = true ∧ plen 45 [(.aload_n 0, 1, (0, 0, 0)), (.getfield 52, 3, (11, 17, 0)), (.iload_n 1, 1, (0, 0, 0))] = 50 := by decide +kernel
theorem ok_X11_areAlternatives_51_3 : oks m_X11_areAlternatives.1 m_X11_areAlternatives.2.2.1 51 [(.aload_n 0, 1, (0, 0, 0)), (.getfield 52, 3, (11, 17, 0)), (.iload_n 2, 1, (0, 0, 0))] = true ∧ plen 51 [(.aload_n 0, 1, (0, 0, 0)), (.getfield 52, 3, (11, 17, 0)), (.iload_n 2, 1, (0, 0, 0))] = 56 := by decide +kernel
theorem ok_X11_areAlternatives_60_4 : oks m_X11_areAlternatives.1 m_X11_areAlternatives.2.2.1 60 [(.aload_n 0, 1, (0, 0, 0)), (.iload_n 1, 1, (0, 0, 0)), (.iload_n 2, 1, (0, 0, 0)), (.iconst (-1), 1, (0, 0, 0))] = true ∧ plen 60 [(.aload_n 0, 1, (0, 0, 0)), (.iload_n 1, 1, (0, 0, 0)), (.iload_n 2, 1, (0, 0, 0)), (.iconst (-1), 1, (0, 0, 0))] = 64 := by decide +kernel
theorem ok_X11_areAlternatives_67_1 : oks m_X11_areAlternatives.1 m_X11_areAlternatives.2.2.1 67 [(.bipush 40, 2, (0, 0, 0))] = true ∧ plen 67 [(.bipush 40, 2, (0, 0, 0))] = 69 := by decide +kernel
theorem ok_X11_areAlternatives_72_1 : oks m_X11_areAlternatives.1 m_X11_areAlternatives.2.2.1 72 [(.iconst 1, 1, (0, 0, 0))] = true ∧ plen 72 [(.iconst 1, 1, (0, 0, 0))] = 73 := by decide +kernel
theorem ok_X11_areAlternatives_76_1 : oks m_X11_areAlternatives.1 m_X11_areAlternatives.2.2.1 76 [(.iconst 0, 1, (0, 0, 0))] = true ∧ plen 76 [(.iconst 0, 1, (0, 0, 0))] = 77 := by decide +kernel
def B_X11_areAlternatives_40 (x1 : Int) (x2 : Int) (y0 : Bool) (σ : Sg) : Option Bool :=
if y0 = true then
(rdn 60 σ 15 x1).bind fun v3 =>
(rdn 60 σ 15 x2).bind fun v5 =>
if v3 = v5 then
(F_X11_sizeOf x1 x2 (-1) σ).bind fun q7 =>
if 40 < q7 then
some false
else
some true
else
some false
else
some false
def B_X11_areAlternatives_35 (x1 : Int) (x2 : Int) (σ : Sg) : Option Bool :=
B_X11_areAlternatives_40 x1 x2 true σ
def F_X11_areAlternatives (a1 : Int) (a2 : Int) (σ : Sg) : Option Bool :=
(rdn 60 σ 12 a1).bind fun v1 =>
if v1 = (-1) then
B_X11_areAlternatives_35 a1 a2 σ
else
(rdn 60 σ 12 a2).bind fun v9 =>
if v9 = (-1) then
B_X11_areAlternatives_35 a1 a2 σ
else
(rdn 60 σ 12 a1).bind fun v11 =>
(rdn 60 σ 12 a2).bind fun v13 =>
if v11 = v13 then
B_X11_areAlternatives_35 a1 a2 σ
else
B_X11_areAlternatives_40 a1 a2 false σ
theorem lk_X11_areAlternatives (l : Launch) (d : Nat) (hd : 1 ≤ d) (a1 : Int) (a2 : Int) (σ : Sg) (q : Bool) (h : F_X11_areAlternatives a1 a2 σ = some q) : CT l d m_X11_areAlternatives.2.1 m_X11_areAlternatives.2.2.1 m_X11_areAlternatives.2.2.2.1 m_X11_areAlternatives.2.2.2.2 [.inr 0, .inl a1, .inl a2] (LAYM, σ) (some (.inl (b2i q))) (LAYM, σ) := by
  obtain ⟨d, rfl⟩ : ∃ e, d = e + 1 := ⟨d - 1, by omega⟩
  have key : Go l m_X11_areAlternatives (d + 1) LAYM (.inl (some (.inl (b2i q)))) σ 0 [some (.inr 0), some (.inl a1), some (.inl a2), none] [] σ := by
    unfold F_X11_areAlternatives at h
    have hB_X11_areAlternatives_40 : ∀ (x1 : Int) (x2 : Int) (y0 : Bool) (σ : Sg), B_X11_areAlternatives_40 x1 x2 y0 σ = some q → Go l m_X11_areAlternatives (d + 1) LAYM (.inl (some (.inl (b2i q)))) σ 40 [some (.inr 0), some (.inl x1), some (.inl x2), none] [.inl (b2i y0)] σ := by
      intro x1 x2 y0 σ h
      unfold B_X11_areAlternatives_40 at h
      refine go_ops ok_X11_areAlternatives_40_2 (L' := [some (.inr 0), some (.inl x1), some (.inl x2), some (.inl (b2i y0))]) (st' := [.inl (b2i y0)]) (σ1 := σ) rfl ?_
      refine go_ifb_eq dc_X11_areAlternatives_42 (by rfl) (fun hc => ?_) (fun hc => ?_)
      · replace h := (if_neg hc).symm.trans h
        refine go_ops ok_X11_areAlternatives_76_1 (L' := [some (.inr 0), some (.inl x1), some (.inl x2), some (.inl (b2i y0))]) (st' := [.inl 0]) (σ1 := σ) rfl ?_
        have h9 := Option.some.inj h
        subst h9
        exact go_zret (x := false) dc_X11_areAlternatives_77 rfl
      · replace h := (if_pos hc).symm.trans h
        refine go_ops ok_X11_areAlternatives_45_3 (L' := [some (.inr 0), some (.inl x1), some (.inl x2), some (.inl (b2i y0))]) (st' := [.inl x1, .inr 15]) (σ1 := σ) rfl ?_
        obtain ⟨v3, e4, h⟩ := bind_inv h
        refine go_rd (k := 15) dc_X11_areAlternatives_50 rfl e4 ?_
        refine go_ops ok_X11_areAlternatives_51_3 (L' := [some (.inr 0), some (.inl x1), some (.inl x2), some (.inl (b2i y0))]) (st' := [.inl x2, .inr 15, .inl v3]) (σ1 := σ) rfl ?_
        obtain ⟨v5, e6, h⟩ := bind_inv h
        refine go_rd (k := 15) dc_X11_areAlternatives_56 rfl e6 ?_
        refine go_icmp_ne dc_X11_areAlternatives_57 (by rfl) (fun hc => ?_) (fun hc => ?_)
        · replace h := (if_neg hc).symm.trans h
          refine go_ops ok_X11_areAlternatives_76_1 (L' := [some (.inr 0), some (.inl x1), some (.inl x2), some (.inl (b2i y0))]) (st' := [.inl 0]) (σ1 := σ) rfl ?_
          have h9 := Option.some.inj h
          subst h9
          exact go_zret (x := false) dc_X11_areAlternatives_77 rfl
        · replace h := (if_pos hc).symm.trans h
          refine go_ops ok_X11_areAlternatives_60_4 (L' := [some (.inr 0), some (.inl x1), some (.inl x2), some (.inl (b2i y0))]) (st' := [.inl (-1), .inl x2, .inl x1, .inr 0]) (σ1 := σ) rfl ?_
          obtain ⟨q7, e8, h⟩ := bind_inv h
          refine go_V (M1 := m_X11_sizeOf) (as := [.inl x1, .inl x2, .inl (-1)]) (st := []) (k := 0) (ci := 11) dc_X11_areAlternatives_64 ln_11_200 im_X11_sizeOf (by decide) rfl rfl mk_X11_sizeOf rfl (Nat.le_of_ble_eq_true rfl) (Nat.le_refl _) (v := (some (.inl q7))) (σ1 := σ) (lk_X11_sizeOf l d (by omega) x1 x2 (-1) σ q7 e8) _ rfl ?_
          refine go_ops ok_X11_areAlternatives_67_1 (L' := [some (.inr 0), some (.inl x1), some (.inl x2), some (.inl (b2i y0))]) (st' := [.inl 40, .inl q7]) (σ1 := σ) rfl ?_
          refine go_icmp_gt dc_X11_areAlternatives_69 (by rfl) (fun hc => ?_) (fun hc => ?_)
          · replace h := (if_pos hc).symm.trans h
            refine go_ops ok_X11_areAlternatives_76_1 (L' := [some (.inr 0), some (.inl x1), some (.inl x2), some (.inl (b2i y0))]) (st' := [.inl 0]) (σ1 := σ) rfl ?_
            have h9 := Option.some.inj h
            subst h9
            exact go_zret (x := false) dc_X11_areAlternatives_77 rfl
          · replace h := (if_neg hc).symm.trans h
            refine go_ops ok_X11_areAlternatives_72_1 (L' := [some (.inr 0), some (.inl x1), some (.inl x2), some (.inl (b2i y0))]) (st' := [.inl 1]) (σ1 := σ) rfl ?_
            refine go_goto dc_X11_areAlternatives_73 (by rfl) ?_
            have h9 := Option.some.inj h
            subst h9
            exact go_zret (x := true) dc_X11_areAlternatives_77 rfl
    have hB_X11_areAlternatives_35 : ∀ (x1 : Int) (x2 : Int) (σ : Sg), B_X11_areAlternatives_35 x1 x2 σ = some q → Go l m_X11_areAlternatives (d + 1) LAYM (.inl (some (.inl (b2i q)))) σ 35 [some (.inr 0), some (.inl x1), some (.inl x2), none] [] σ := by
      intro x1 x2 σ h
      unfold B_X11_areAlternatives_35 at h
      refine go_ops ok_X11_areAlternatives_35_1 (L' := [some (.inr 0), some (.inl x1), some (.inl x2), none]) (st' := [.inl 1]) (σ1 := σ) rfl ?_
      refine go_goto dc_X11_areAlternatives_36 (by rfl) ?_
      exact hB_X11_areAlternatives_40 x1 x2 true σ h
    refine go_ops ok_X11_areAlternatives_0_3 (L' := [some (.inr 0), some (.inl a1), some (.inl a2), none]) (st' := [.inl a1, .inr 12]) (σ1 := σ) rfl ?_
    obtain ⟨v1, e2, h⟩ := bind_inv h
    refine go_rd (k := 12) dc_X11_areAlternatives_5 rfl e2 ?_
    refine go_ops ok_X11_areAlternatives_6_1 (L' := [some (.inr 0), some (.inl a1), some (.inl a2), none]) (st' := [.inl (-1), .inl v1]) (σ1 := σ) rfl ?_
    refine go_icmp_eq dc_X11_areAlternatives_7 (by rfl) (fun hc => ?_) (fun hc => ?_)
    · replace h := (if_pos hc).symm.trans h
      exact hB_X11_areAlternatives_35 a1 a2 σ h
    · replace h := (if_neg hc).symm.trans h
      refine go_ops ok_X11_areAlternatives_10_3 (L' := [some (.inr 0), some (.inl a1), some (.inl a2), none]) (st' := [.inl a2, .inr 12]) (σ1 := σ) rfl ?_
      obtain ⟨v9, e10, h⟩ := bind_inv h
      refine go_rd (k := 12) dc_X11_areAlternatives_15 rfl e10 ?_
      refine go_ops ok_X11_areAlternatives_16_1 (L' := [some (.inr 0), some (.inl a1), some (.inl a2), none]) (st' := [.inl (-1), .inl v9]) (σ1 := σ) rfl ?_
      refine go_icmp_eq dc_X11_areAlternatives_17 (by rfl) (fun hc => ?_) (fun hc => ?_)
      · replace h := (if_pos hc).symm.trans h
        exact hB_X11_areAlternatives_35 a1 a2 σ h
      · replace h := (if_neg hc).symm.trans h
        refine go_ops ok_X11_areAlternatives_20_3 (L' := [some (.inr 0), some (.inl a1), some (.inl a2), none]) (st' := [.inl a1, .inr 12]) (σ1 := σ) rfl ?_
        obtain ⟨v11, e12, h⟩ := bind_inv h
        refine go_rd (k := 12) dc_X11_areAlternatives_25 rfl e12 ?_
        refine go_ops ok_X11_areAlternatives_26_3 (L' := [some (.inr 0), some (.inl a1), some (.inl a2), none]) (st' := [.inl a2, .inr 12, .inl v11]) (σ1 := σ) rfl ?_
        obtain ⟨v13, e14, h⟩ := bind_inv h
        refine go_rd (k := 12) dc_X11_areAlternatives_31 rfl e14 ?_
        refine go_icmp_ne dc_X11_areAlternatives_32 (by rfl) (fun hc => ?_) (fun hc => ?_)
        · replace h := (if_neg hc).symm.trans h
          refine go_ops ok_X11_areAlternatives_39_1 (L' := [some (.inr 0), some (.inl a1), some (.inl a2), none]) (st' := [.inl 0]) (σ1 := σ) rfl ?_
          exact hB_X11_areAlternatives_40 a1 a2 false σ h
        · replace h := (if_pos hc).symm.trans h
          exact hB_X11_areAlternatives_35 a1 a2 σ h
  have hf := go_ct (as := [.inr 0, .inl a1, .inl a2]) mk_X11_areAlternatives (by rfl) (Nat.le_of_ble_eq_true rfl) key
  exact hf
theorem dc_X11_alternatives_12 : decode m_X11_alternatives.2.2.1 12 = .ok (.iaload, 1) := by decide +kernel
theorem dc_X11_alternatives_14 : decode m_X11_alternatives.2.2.1 14 = .ok (.if_icmp .ne 12, 3) := by decide +kernel
theorem dc_X11_alternatives_22 : decode m_X11_alternatives.2.2.1 22 = .ok (.iaload, 1) := by decide +kernel
theorem dc_X11_alternatives_23 : decode m_X11_alternatives.2.2.1 23 = .ok (.goto 9, 3) := by decide +kernel
theorem dc_X11_alternatives_31 : decode m_X11_alternatives.2.2.1 31 = .ok (.iaload, 1) := by decide +kernel
theorem dc_X11_alternatives_32 : decode m_X11_alternatives.2.2.1 32 = .ok (.invokevirtual 208, 3) := by decide +kernel
theorem dc_X11_alternatives_35 : decode m_X11_alternatives.2.2.1 35 = .ok (.ireturn, 1) := by decide +kernel
theorem ok_X11_alternatives_0_10 : oks m_X11_alternatives.1 m_X11_alternatives.2.2.1 0 [(.aload_n 0, 1, (0, 0, 0)), (.iconst 4, 1, (0, 0, 0)), (.iconst 0, 1, (0, 0, 0)), (.iconst 0, 1, (0, 0, 0)), (.iload_n 1, 1, (0, 0, 0)), (.iload_n 2, 1, (0, 0, 0)), (.iconst (-1), 1, (0, 0, 0)), (.aload_n 0, 1, (0, 0, 0)), (.getfield 43, 3, (11, 14, 0)), (.iload_n 1, 1, (0, 0, 0))] = true ∧ plen 0 [(.aload_n 0, 1, (0, 0, 0)), (.iconst 4, 1, (0, 0, 0)), (.iconst 0, 1, (0, 0, 0)), (.iconst 0, 1, (0, 0, 0)), (.iload_n 1, 1, (0, 0, 0)), (.iload_n 2, 1, (0, 0, 0)), (.iconst (-1), 1, (0, 0, 0)), (.aload_n 0, 1, (0, 0, 0)), (.getfield 43, 3, (11, 14, 0)), (.iload_n 1, 1, (0, 0, 0))] = 12 := by decide +kernel
theorem ok_X11_alternatives_13_1 : oks m_X11_alternatives.1 m_X11_alternatives.2.2.1 13 [(.iconst (-1), 1, (0, 0, 0))] = true ∧ plen 13 [(.iconst (-1), 1, (0, 0, 0))] = 14 := by decide +kernel
theorem ok_X11_alternatives_17_3 : oks m_X11_alternatives.1 m_X11_alternatives.2.2.1 17 [(.aload_n 0, 1, (0, 0, 0)), (.getfield 43, 3, (11, 14, 0)), (.iload_n 2, 1, (0, 0, 0))] = true ∧ plen 17 [(.aload_n 0, 1, (0, 0, 0)), (.getfield 43, 3, (11, 14, 0)), (.iload_n 2, 1, (0, 0, 0))] = 22 := by decide +kernel
theorem ok_X11_alternatives_26_3 : oks m_X11_alternatives.1 m_X11_alternatives.2.2.1 26 [(.aload_n 0, 1, (0, 0, 0)), (.getfield 43, 3, (11, 14, 0)), (.iload_n 1, 1, (0, 0, 0))] = true ∧ plen 26 [(.aload_n 0, 1, (0, 0, 0)), (.getfield 43, 3, (11, 14, 0)), (.iload_n 1, 1, (0, 0, 0))] = 31 := by decide +kernel
def B_X11_alternatives_32 (y0 : Int) (y1 : Int) (y2 : Int) (y3 : Int) (y4 : Bool) (y5 : Bool) (y6 : Int) (σ : Sg) : Option (Int × Sg) :=
(F_X11_pattern y6 (b2i y5) (b2i y4) y3 y2 y1 y0 σ).bind fun q5 =>
some (q5.1, q5.2)
def F_X11_alternatives (a1 : Int) (a2 : Int) (σ : Sg) : Option (Int × Sg) :=
(rdn 60 σ 12 a1).bind fun v1 =>
if v1 = (-1) then
(rdn 60 σ 12 a2).bind fun v7 =>
B_X11_alternatives_32 v7 (-1) a2 a1 false false 4 σ
else
(rdn 60 σ 12 a1).bind fun v3 =>
B_X11_alternatives_32 v3 (-1) a2 a1 false false 4 σ
theorem lk_X11_alternatives (l : Launch) (d : Nat) (hd : 2 ≤ d) (a1 : Int) (a2 : Int) (σ : Sg) (q : (Int × Sg)) (h : F_X11_alternatives a1 a2 σ = some q) : CT l d m_X11_alternatives.2.1 m_X11_alternatives.2.2.1 m_X11_alternatives.2.2.2.1 m_X11_alternatives.2.2.2.2 [.inr 0, .inl a1, .inl a2] (LAYM, σ) (some (.inl q.1)) (LAYM, q.2) := by
  obtain ⟨d, rfl⟩ : ∃ e, d = e + 1 := ⟨d - 1, by omega⟩
  have key : Go l m_X11_alternatives (d + 1) LAYM (.inl (some (.inl q.1))) q.2 0 [some (.inr 0), some (.inl a1), some (.inl a2)] [] σ := by
    unfold F_X11_alternatives at h
    have hB_X11_alternatives_32 : ∀ (y0 : Int) (y1 : Int) (y2 : Int) (y3 : Int) (y4 : Bool) (y5 : Bool) (y6 : Int) (σ : Sg), B_X11_alternatives_32 y0 y1 y2 y3 y4 y5 y6 σ = some q → Go l m_X11_alternatives (d + 1) LAYM (.inl (some (.inl q.1))) q.2 32 [none, none, none] [.inl y0, .inl y1, .inl y2, .inl y3, .inl (b2i y4), .inl (b2i y5), .inl y6, .inr 0] σ := by
      intro y0 y1 y2 y3 y4 y5 y6 σ h
      unfold B_X11_alternatives_32 at h
      obtain ⟨q5, e6, h⟩ := bind_inv h
      refine go_V (M1 := m_X11_pattern) (as := [.inl y6, .inl (b2i y5), .inl (b2i y4), .inl y3, .inl y2, .inl y1, .inl y0]) (st := []) (k := 0) (ci := 11) dc_X11_alternatives_32 ln_11_208 im_X11_pattern (by decide) rfl rfl mk_X11_pattern rfl (Nat.le_of_ble_eq_true rfl) (Nat.le_refl _) (v := (some (.inl q5.1))) (σ1 := q5.2) (lk_X11_pattern l d (by omega) y6 (b2i y5) (b2i y4) y3 y2 y1 y0 σ q5 e6) _ rfl ?_
      have h9 := Option.some.inj h
      subst h9
      exact go_iret dc_X11_alternatives_35 rfl
    refine go_ops ok_X11_alternatives_0_10 (L' := [some (.inr 0), some (.inl a1), some (.inl a2)]) (st' := [.inl a1, .inr 12, .inl (-1), .inl a2, .inl a1, .inl 0, .inl 0, .inl 4, .inr 0]) (σ1 := σ) rfl ?_
    obtain ⟨v1, e2, h⟩ := bind_inv h
    refine go_rd (k := 12) dc_X11_alternatives_12 rfl e2 ?_
    refine go_ops ok_X11_alternatives_13_1 (L' := [some (.inr 0), some (.inl a1), some (.inl a2)]) (st' := [.inl (-1), .inl v1, .inl (-1), .inl a2, .inl a1, .inl 0, .inl 0, .inl 4, .inr 0]) (σ1 := σ) rfl ?_
    refine go_icmp_ne dc_X11_alternatives_14 (by rfl) (fun hc => ?_) (fun hc => ?_)
    · replace h := (if_neg hc).symm.trans h
      refine go_ops ok_X11_alternatives_26_3 (L' := [some (.inr 0), some (.inl a1), some (.inl a2)]) (st' := [.inl a1, .inr 12, .inl (-1), .inl a2, .inl a1, .inl 0, .inl 0, .inl 4, .inr 0]) (σ1 := σ) rfl ?_
      obtain ⟨v3, e4, h⟩ := bind_inv h
      refine go_rd (k := 12) dc_X11_alternatives_31 rfl e4 ?_
      refine go_wk (L' := [none, none, none]) trivial ?_
      exact hB_X11_alternatives_32 v3 (-1) a2 a1 false false 4 σ h
    · replace h := (if_pos hc).symm.trans h
      refine go_ops ok_X11_alternatives_17_3 (L' := [some (.inr 0), some (.inl a1), some (.inl a2)]) (st' := [.inl a2, .inr 12, .inl (-1), .inl a2, .inl a1, .inl 0, .inl 0, .inl 4, .inr 0]) (σ1 := σ) rfl ?_
      obtain ⟨v7, e8, h⟩ := bind_inv h
      refine go_rd (k := 12) dc_X11_alternatives_22 rfl e8 ?_
      refine go_goto dc_X11_alternatives_23 (by rfl) ?_
      refine go_wk (L' := [none, none, none]) trivial ?_
      exact hB_X11_alternatives_32 v7 (-1) a2 a1 false false 4 σ h
  have hf := go_ct (as := [.inr 0, .inl a1, .inl a2]) mk_X11_alternatives (by rfl) (Nat.le_of_ble_eq_true rfl) key
  exact hf
theorem dc_X11_either_2 : decode m_X11_either.2.2.1 2 = .ok (.invokevirtual 212, 3) := by decide +kernel
theorem dc_X11_either_5 : decode m_X11_either.2.2.1 5 = .ok (.ifCond .eq 15, 3) := by decide +kernel
theorem dc_X11_either_10 : decode m_X11_either.2.2.1 10 = .ok (.invokevirtual 212, 3) := by decide +kernel
theorem dc_X11_either_13 : decode m_X11_either.2.2.1 13 = .ok (.ifCond .eq 7, 3) := by decide +kernel
theorem dc_X11_either_17 : decode m_X11_either.2.2.1 17 = .ok (.goto 4, 3) := by decide +kernel
theorem dc_X11_either_24 : decode m_X11_either.2.2.1 24 = .ok (.ifCond .ne 7, 3) := by decide +kernel
theorem dc_X11_either_28 : decode m_X11_either.2.2.1 28 = .ok (.goto 28, 3) := by decide +kernel
theorem dc_X11_either_34 : decode m_X11_either.2.2.1 34 = .ok (.invokevirtual 221, 3) := by decide +kernel
theorem dc_X11_either_37 : decode m_X11_either.2.2.1 37 = .ok (.ifCond .ne 7, 3) := by decide +kernel
theorem dc_X11_either_41 : decode m_X11_either.2.2.1 41 = .ok (.goto 15, 3) := by decide +kernel
theorem dc_X11_either_45 : decode m_X11_either.2.2.1 45 = .ok (.invokevirtual 204, 3) := by decide +kernel
theorem dc_X11_either_48 : decode m_X11_either.2.2.1 48 = .ok (.ifCond .eq 7, 3) := by decide +kernel
theorem dc_X11_either_52 : decode m_X11_either.2.2.1 52 = .ok (.goto 4, 3) := by decide +kernel
theorem dc_X11_either_56 : decode m_X11_either.2.2.1 56 = .ok (.invokevirtual 183, 3) := by decide +kernel
theorem dc_X11_either_59 : decode m_X11_either.2.2.1 59 = .ok (.ifCond .eq 7, 3) := by decide +kernel
theorem dc_X11_either_63 : decode m_X11_either.2.2.1 63 = .ok (.goto 9, 3) := by decide +kernel
theorem dc_X11_either_69 : decode m_X11_either.2.2.1 69 = .ok (.invokevirtual 224, 3) := by decide +kernel
theorem dc_X11_either_72 : decode m_X11_either.2.2.1 72 = .ok (.ireturn, 1) := by decide +kernel
theorem ok_X11_either_0_2 : oks m_X11_either.1 m_X11_either.2.2.1 0 [(.aload_n 0, 1, (0, 0, 0)), (.iload_n 1, 1, (0, 0, 0))] = true ∧ plen 0 [(.aload_n 0, 1, (0, 0, 0)), (.iload_n 1, 1, (0, 0, 0))] = 2 := by decide +kernel
theorem ok_X11_either_8_2 : oks m_X11_either.1 m_X11_either.2.2.1 8 [(.aload_n 0, 1, (0, 0, 0)), (.iload_n 2, 1, (0, 0, 0))] = true ∧ plen 8 [(.aload_n 0, 1, (0, 0, 0)), (.iload_n 2, 1, (0, 0, 0))] = 10 := by decide +kernel
theorem ok_X11_either_16_1 : oks m_X11_either.1 m_X11_either.2.2.1 16 [(.iconst 1, 1, (0, 0, 0))] = true ∧ plen 16 [(.iconst 1, 1, (0, 0, 0))] = 17 := by decide +kernel
theorem ok_X11_either_20_1 : oks m_X11_either.1 m_X11_either.2.2.1 20 [(.iconst 0, 1, (0, 0, 0))] = true ∧ plen 20 [(.iconst 0, 1, (0, 0, 0))] = 21 := by decide +kernel
theorem ok_X11_either_21_3 : oks m_X11_either.1 m_X11_either.2.2.1 21 [(.istore_n 3, 1, (0, 0, 0)), (.aload_n 0, 1, (0, 0, 0)), (.iload_n 3, 1, (0, 0, 0))] = true ∧ plen 21 [(.istore_n 3, 1, (0, 0, 0)), (.aload_n 0, 1, (0, 0, 0)), (.iload_n 3, 1, (0, 0, 0))] = 24 := by decide +kernel
theorem ok_X11_either_27_1 : oks m_X11_either.1 m_X11_either.2.2.1 27 [(.iconst 1, 1, (0, 0, 0))] = true ∧ plen 27 [(.iconst 1, 1, (0, 0, 0))] = 28 := by decide +kernel
theorem ok_X11_either_31_3 : oks m_X11_either.1 m_X11_either.2.2.1 31 [(.aload_n 0, 1, (0, 0, 0)), (.iload_n 1, 1, (0, 0, 0)), (.iload_n 2, 1, (0, 0, 0))] = true ∧ plen 31 [(.aload_n 0, 1, (0, 0, 0)), (.iload_n 1, 1, (0, 0, 0)), (.iload_n 2, 1, (0, 0, 0))] = 34 := by decide +kernel
theorem ok_X11_either_40_1 : oks m_X11_either.1 m_X11_either.2.2.1 40 [(.iconst 2, 1, (0, 0, 0))] = true ∧ plen 40 [(.iconst 2, 1, (0, 0, 0))] = 41 := by decide +kernel
theorem ok_X11_either_44_1 : oks m_X11_either.1 m_X11_either.2.2.1 44 [(.aload_n 0, 1, (0, 0, 0))] = true ∧ plen 44 [(.aload_n 0, 1, (0, 0, 0))] = 45 := by decide +kernel
theorem ok_X11_either_51_1 : oks m_X11_either.1 m_X11_either.2.2.1 51 [(.iconst 3, 1, (0, 0, 0))] = true ∧ plen 51 [(.iconst 3, 1, (0, 0, 0))] = 52 := by decide +kernel
theorem ok_X11_either_55_1 : oks m_X11_either.1 m_X11_either.2.2.1 55 [(.iconst 0, 1, (0, 0, 0))] = true ∧ plen 55 [(.iconst 0, 1, (0, 0, 0))] = 56 := by decide +kernel
theorem ok_X11_either_62_1 : oks m_X11_either.1 m_X11_either.2.2.1 62 [(.iconst 0, 1, (0, 0, 0))] = true ∧ plen 62 [(.iconst 0, 1, (0, 0, 0))] = 63 := by decide +kernel
theorem ok_X11_either_66_3 : oks m_X11_either.1 m_X11_either.2.2.1 66 [(.aload_n 0, 1, (0, 0, 0)), (.iload_n 1, 1, (0, 0, 0)), (.iload_n 2, 1, (0, 0, 0))] = true ∧ plen 66 [(.aload_n 0, 1, (0, 0, 0)), (.iload_n 1, 1, (0, 0, 0)), (.iload_n 2, 1, (0, 0, 0))] = 69 := by decide +kernel
def B_X11_either_56 (x1 : Int) (x2 : Int) (y0 : Int) (σ : Sg) : Option (Int × Sg) :=
bnd (F_X11_refused y0 σ) fun q3 =>
if q3.1 = true then
some (0, q3.2)
else
(F_X11_alternatives x1 x2 q3.2).bind fun q5 =>
some (q5.1, q5.2)
def B_X11_either_21 (x1 : Int) (x2 : Int) (y0 : Bool) (σ : Sg) : Option (Int × Sg) :=
if y0 = true then
(F_X11_areAlternatives x1 x2 σ).bind fun q1 =>
if q1 = true then
if (F_X11_isFull σ) = true then
B_X11_either_56 x1 x2 3 σ
else
B_X11_either_56 x1 x2 0 σ
else
B_X11_either_56 x1 x2 2 σ
else
B_X11_either_56 x1 x2 1 σ
def B_X11_either_20 (x1 : Int) (x2 : Int) (σ : Sg) : Option (Int × Sg) :=
B_X11_either_21 x1 x2 false σ
def F_X11_either (a1 : Int) (a2 : Int) (σ : Sg) : Option (Int × Sg) :=
if (F_X11_isPattern a1 σ) = true then
if (F_X11_isPattern a2 σ) = true then
B_X11_either_21 a1 a2 true σ
else
B_X11_either_20 a1 a2 σ
else
B_X11_either_20 a1 a2 σ
theorem lk_X11_either (l : Launch) (d : Nat) (hd : 3 ≤ d) (a1 : Int) (a2 : Int) (σ : Sg) (q : (Int × Sg)) (h : F_X11_either a1 a2 σ = some q) : CT l d m_X11_either.2.1 m_X11_either.2.2.1 m_X11_either.2.2.2.1 m_X11_either.2.2.2.2 [.inr 0, .inl a1, .inl a2] (LAYM, σ) (some (.inl q.1)) (LAYM, q.2) := by
  obtain ⟨d, rfl⟩ : ∃ e, d = e + 1 := ⟨d - 1, by omega⟩
  have key : Go l m_X11_either (d + 1) LAYM (.inl (some (.inl q.1))) q.2 0 [some (.inr 0), some (.inl a1), some (.inl a2), none] [] σ := by
    unfold F_X11_either at h
    have hB_X11_either_56 : ∀ (x1 : Int) (x2 : Int) (y0 : Int) (σ : Sg), B_X11_either_56 x1 x2 y0 σ = some q → Go l m_X11_either (d + 1) LAYM (.inl (some (.inl q.1))) q.2 56 [some (.inr 0), some (.inl x1), some (.inl x2), none] [.inl y0, .inr 0] σ := by
      intro x1 x2 y0 σ h
      unfold B_X11_either_56 at h
      obtain ⟨q3, e4, h⟩ := bnd_inv h
      refine go_V (M1 := m_X11_refused) (as := [.inl y0]) (st := []) (k := 0) (ci := 11) dc_X11_either_56 ln_11_183 im_X11_refused (by decide) rfl rfl mk_X11_refused rfl (Nat.le_of_ble_eq_true rfl) (Nat.le_refl _) (v := (some (.inl (b2i q3.1)))) (σ1 := q3.2) (lk_X11_refused l d (by omega) y0 σ q3 e4.symm) _ rfl ?_
      refine go_ifb_eq dc_X11_either_59 (by rfl) (fun hc => ?_) (fun hc => ?_)
      · replace h := (if_neg hc).symm.trans h
        refine go_ops ok_X11_either_66_3 (L' := [some (.inr 0), some (.inl x1), some (.inl x2), none]) (st' := [.inl x2, .inl x1, .inr 0]) (σ1 := q3.2) rfl ?_
        obtain ⟨q5, e6, h⟩ := bind_inv h
        refine go_V (M1 := m_X11_alternatives) (as := [.inl x1, .inl x2]) (st := []) (k := 0) (ci := 11) dc_X11_either_69 ln_11_224 im_X11_alternatives (by decide) rfl rfl mk_X11_alternatives rfl (Nat.le_of_ble_eq_true rfl) (Nat.le_refl _) (v := (some (.inl q5.1))) (σ1 := q5.2) (lk_X11_alternatives l d (by omega) x1 x2 q3.2 q5 e6) _ rfl ?_
        have h9 := Option.some.inj h
        subst h9
        exact go_iret dc_X11_either_72 rfl
      · replace h := (if_pos hc).symm.trans h
        refine go_ops ok_X11_either_62_1 (L' := [some (.inr 0), some (.inl x1), some (.inl x2), none]) (st' := [.inl 0]) (σ1 := q3.2) rfl ?_
        refine go_goto dc_X11_either_63 (by rfl) ?_
        have h9 := Option.some.inj h
        subst h9
        exact go_iret dc_X11_either_72 rfl
    have hB_X11_either_21 : ∀ (x1 : Int) (x2 : Int) (y0 : Bool) (σ : Sg), B_X11_either_21 x1 x2 y0 σ = some q → Go l m_X11_either (d + 1) LAYM (.inl (some (.inl q.1))) q.2 21 [some (.inr 0), some (.inl x1), some (.inl x2), none] [.inl (b2i y0)] σ := by
      intro x1 x2 y0 σ h
      unfold B_X11_either_21 at h
      refine go_ops ok_X11_either_21_3 (L' := [some (.inr 0), some (.inl x1), some (.inl x2), some (.inl (b2i y0))]) (st' := [.inl (b2i y0), .inr 0]) (σ1 := σ) rfl ?_
      refine go_ifb_ne dc_X11_either_24 (by rfl) (fun hc => ?_) (fun hc => ?_)
      · replace h := (if_pos hc).symm.trans h
        refine go_ops ok_X11_either_31_3 (L' := [some (.inr 0), some (.inl x1), some (.inl x2), some (.inl (b2i y0))]) (st' := [.inl x2, .inl x1, .inr 0, .inr 0]) (σ1 := σ) rfl ?_
        obtain ⟨q1, e2, h⟩ := bind_inv h
        refine go_V (M1 := m_X11_areAlternatives) (as := [.inl x1, .inl x2]) (st := [.inr 0]) (k := 0) (ci := 11) dc_X11_either_34 ln_11_221 im_X11_areAlternatives (by decide) rfl rfl mk_X11_areAlternatives rfl (Nat.le_of_ble_eq_true rfl) (Nat.le_refl _) (v := (some (.inl (b2i q1)))) (σ1 := σ) (lk_X11_areAlternatives l d (by omega) x1 x2 σ q1 e2) _ rfl ?_
        refine go_ifb_ne dc_X11_either_37 (by rfl) (fun hc => ?_) (fun hc => ?_)
        · replace h := (if_pos hc).symm.trans h
          refine go_ops ok_X11_either_44_1 (L' := [some (.inr 0), some (.inl x1), some (.inl x2), some (.inl (b2i y0))]) (st' := [.inr 0, .inr 0]) (σ1 := σ) rfl ?_
          refine go_V (M1 := m_X11_isFull) (as := []) (st := [.inr 0]) (k := 0) (ci := 11) dc_X11_either_45 ln_11_204 im_X11_isFull (by decide) rfl rfl mk_X11_isFull rfl (Nat.le_of_ble_eq_true rfl) (Nat.le_refl _) (v := (some (.inl (b2i (F_X11_isFull σ))))) (σ1 := σ) (lk_X11_isFull l d (by omega) σ _ rfl) _ rfl ?_
          refine go_ifb_eq dc_X11_either_48 (by rfl) (fun hc => ?_) (fun hc => ?_)
          · replace h := (if_neg hc).symm.trans h
            refine go_ops ok_X11_either_55_1 (L' := [some (.inr 0), some (.inl x1), some (.inl x2), some (.inl (b2i y0))]) (st' := [.inl 0, .inr 0]) (σ1 := σ) rfl ?_
            refine go_wk (L' := [some (.inr 0), some (.inl x1), some (.inl x2), none]) ⟨rfl, rfl, rfl, trivial⟩ ?_
            exact hB_X11_either_56 x1 x2 0 σ h
          · replace h := (if_pos hc).symm.trans h
            refine go_ops ok_X11_either_51_1 (L' := [some (.inr 0), some (.inl x1), some (.inl x2), some (.inl (b2i y0))]) (st' := [.inl 3, .inr 0]) (σ1 := σ) rfl ?_
            refine go_goto dc_X11_either_52 (by rfl) ?_
            refine go_wk (L' := [some (.inr 0), some (.inl x1), some (.inl x2), none]) ⟨rfl, rfl, rfl, trivial⟩ ?_
            exact hB_X11_either_56 x1 x2 3 σ h
        · replace h := (if_neg hc).symm.trans h
          refine go_ops ok_X11_either_40_1 (L' := [some (.inr 0), some (.inl x1), some (.inl x2), some (.inl (b2i y0))]) (st' := [.inl 2, .inr 0]) (σ1 := σ) rfl ?_
          refine go_goto dc_X11_either_41 (by rfl) ?_
          refine go_wk (L' := [some (.inr 0), some (.inl x1), some (.inl x2), none]) ⟨rfl, rfl, rfl, trivial⟩ ?_
          exact hB_X11_either_56 x1 x2 2 σ h
      · replace h := (if_neg hc).symm.trans h
        refine go_ops ok_X11_either_27_1 (L' := [some (.inr 0), some (.inl x1), some (.inl x2), some (.inl (b2i y0))]) (st' := [.inl 1, .inr 0]) (σ1 := σ) rfl ?_
        refine go_goto dc_X11_either_28 (by rfl) ?_
        refine go_wk (L' := [some (.inr 0), some (.inl x1), some (.inl x2), none]) ⟨rfl, rfl, rfl, trivial⟩ ?_
        exact hB_X11_either_56 x1 x2 1 σ h
    have hB_X11_either_20 : ∀ (x1 : Int) (x2 : Int) (σ : Sg), B_X11_either_20 x1 x2 σ = some q → Go l m_X11_either (d + 1) LAYM (.inl (some (.inl q.1))) q.2 20 [some (.inr 0), some (.inl x1), some (.inl x2), none] [] σ := by
      intro x1 x2 σ h
      unfold B_X11_either_20 at h
      refine go_ops ok_X11_either_20_1 (L' := [some (.inr 0), some (.inl x1), some (.inl x2), none]) (st' := [.inl 0]) (σ1 := σ) rfl ?_
      exact hB_X11_either_21 x1 x2 false σ h
    refine go_ops ok_X11_either_0_2 (L' := [some (.inr 0), some (.inl a1), some (.inl a2), none]) (st' := [.inl a1, .inr 0]) (σ1 := σ) rfl ?_
    refine go_V (M1 := m_X11_isPattern) (as := [.inl a1]) (st := []) (k := 0) (ci := 11) dc_X11_either_2 ln_11_212 im_X11_isPattern (by decide) rfl rfl mk_X11_isPattern rfl (Nat.le_of_ble_eq_true rfl) (Nat.le_refl _) (v := (some (.inl (b2i (F_X11_isPattern a1 σ))))) (σ1 := σ) (lk_X11_isPattern l d (by omega) a1 σ _ rfl) _ rfl ?_
    refine go_ifb_eq dc_X11_either_5 (by rfl) (fun hc => ?_) (fun hc => ?_)
    · replace h := (if_neg hc).symm.trans h
      exact hB_X11_either_20 a1 a2 σ h
    · replace h := (if_pos hc).symm.trans h
      refine go_ops ok_X11_either_8_2 (L' := [some (.inr 0), some (.inl a1), some (.inl a2), none]) (st' := [.inl a2, .inr 0]) (σ1 := σ) rfl ?_
      refine go_V (M1 := m_X11_isPattern) (as := [.inl a2]) (st := []) (k := 0) (ci := 11) dc_X11_either_10 ln_11_212 im_X11_isPattern (by decide) rfl rfl mk_X11_isPattern rfl (Nat.le_of_ble_eq_true rfl) (Nat.le_refl _) (v := (some (.inl (b2i (F_X11_isPattern a2 σ))))) (σ1 := σ) (lk_X11_isPattern l d (by omega) a2 σ _ rfl) _ rfl ?_
      refine go_ifb_eq dc_X11_either_13 (by rfl) (fun hc => ?_) (fun hc => ?_)
      · replace h := (if_neg hc).symm.trans h
        exact hB_X11_either_20 a1 a2 σ h
      · replace h := (if_pos hc).symm.trans h
        refine go_ops ok_X11_either_16_1 (L' := [some (.inr 0), some (.inl a1), some (.inl a2), none]) (st' := [.inl 1]) (σ1 := σ) rfl ?_
        refine go_goto dc_X11_either_17 (by rfl) ?_
        exact hB_X11_either_21 a1 a2 true σ h
  have hf := go_ct (as := [.inr 0, .inl a1, .inl a2]) mk_X11_either (by rfl) (Nat.le_of_ble_eq_true rfl) key
  exact hf
theorem dc_X11_view_3 : decode m_X11_view.2.2.1 3 = .ok (.invokestatic 171, 3) := by decide +kernel
theorem dc_X11_view_6 : decode m_X11_view.2.2.1 6 = .ok (.ifCond .eq 15, 3) := by decide +kernel
theorem dc_X11_view_11 : decode m_X11_view.2.2.1 11 = .ok (.invokevirtual 212, 3) := by decide +kernel
theorem dc_X11_view_14 : decode m_X11_view.2.2.1 14 = .ok (.ifCond .eq 7, 3) := by decide +kernel
theorem dc_X11_view_18 : decode m_X11_view.2.2.1 18 = .ok (.goto 4, 3) := by decide +kernel
theorem dc_X11_view_24 : decode m_X11_view.2.2.1 24 = .ok (.ifCond .eq 28, 3) := by decide +kernel
theorem dc_X11_view_32 : decode m_X11_view.2.2.1 32 = .ok (.baload, 1) := by decide +kernel
theorem dc_X11_view_33 : decode m_X11_view.2.2.1 33 = .ok (.ifCond .eq 19, 3) := by decide +kernel
theorem dc_X11_view_40 : decode m_X11_view.2.2.1 40 = .ok (.invokevirtual 200, 3) := by decide +kernel
theorem dc_X11_view_45 : decode m_X11_view.2.2.1 45 = .ok (.if_icmp .gt 7, 3) := by decide +kernel
theorem dc_X11_view_49 : decode m_X11_view.2.2.1 49 = .ok (.goto 4, 3) := by decide +kernel
theorem dc_X11_view_57 : decode m_X11_view.2.2.1 57 = .ok (.ifCond .ne 7, 3) := by decide +kernel
theorem dc_X11_view_61 : decode m_X11_view.2.2.1 61 = .ok (.goto 24, 3) := by decide +kernel
theorem dc_X11_view_66 : decode m_X11_view.2.2.1 66 = .ok (.ifCond .ne 7, 3) := by decide +kernel
theorem dc_X11_view_70 : decode m_X11_view.2.2.1 70 = .ok (.goto 15, 3) := by decide +kernel
theorem dc_X11_view_74 : decode m_X11_view.2.2.1 74 = .ok (.invokevirtual 204, 3) := by decide +kernel
theorem dc_X11_view_77 : decode m_X11_view.2.2.1 77 = .ok (.ifCond .eq 7, 3) := by decide +kernel
theorem dc_X11_view_81 : decode m_X11_view.2.2.1 81 = .ok (.goto 4, 3) := by decide +kernel
theorem dc_X11_view_85 : decode m_X11_view.2.2.1 85 = .ok (.invokevirtual 183, 3) := by decide +kernel
theorem dc_X11_view_88 : decode m_X11_view.2.2.1 88 = .ok (.ifCond .eq 7, 3) := by decide +kernel
theorem dc_X11_view_92 : decode m_X11_view.2.2.1 92 = .ok (.goto 14, 3) := by decide +kernel
theorem dc_X11_view_103 : decode m_X11_view.2.2.1 103 = .ok (.invokevirtual 208, 3) := by decide +kernel
theorem dc_X11_view_106 : decode m_X11_view.2.2.1 106 = .ok (.ireturn, 1) := by decide +kernel
theorem ok_X11_view_0_3 : oks m_X11_view.1 m_X11_view.2.2.1 0 [(.iload_n 1, 1, (0, 0, 0)), (.iconst 0, 1, (0, 0, 0)), (.iconst 2, 1, (0, 0, 0))] = true ∧ plen 0 [(.iload_n 1, 1, (0, 0, 0)), (.iconst 0, 1, (0, 0, 0)), (.iconst 2, 1, (0, 0, 0))] = 3 := by decide +kernel
theorem ok_X11_view_9_2 : oks m_X11_view.1 m_X11_view.2.2.1 9 [(.aload_n 0, 1, (0, 0, 0)), (.iload_n 2, 1, (0, 0, 0))] = true ∧ plen 9 [(.aload_n 0, 1, (0, 0, 0)), (.iload_n 2, 1, (0, 0, 0))] = 11 := by decide +kernel
theorem ok_X11_view_17_1 : oks m_X11_view.1 m_X11_view.2.2.1 17 [(.iconst 1, 1, (0, 0, 0))] = true ∧ plen 17 [(.iconst 1, 1, (0, 0, 0))] = 18 := by decide +kernel
theorem ok_X11_view_21_1 : oks m_X11_view.1 m_X11_view.2.2.1 21 [(.iconst 0, 1, (0, 0, 0))] = true ∧ plen 21 [(.iconst 0, 1, (0, 0, 0))] = 22 := by decide +kernel
theorem ok_X11_view_22_2 : oks m_X11_view.1 m_X11_view.2.2.1 22 [(.istore_n 3, 1, (0, 0, 0)), (.iload_n 3, 1, (0, 0, 0))] = true ∧ plen 22 [(.istore_n 3, 1, (0, 0, 0)), (.iload_n 3, 1, (0, 0, 0))] = 24 := by decide +kernel
theorem ok_X11_view_27_3 : oks m_X11_view.1 m_X11_view.2.2.1 27 [(.aload_n 0, 1, (0, 0, 0)), (.getfield 59, 3, (11, 19, 0)), (.iload_n 2, 1, (0, 0, 0))] = true ∧ plen 27 [(.aload_n 0, 1, (0, 0, 0)), (.getfield 59, 3, (11, 19, 0)), (.iload_n 2, 1, (0, 0, 0))] = 32 := by decide +kernel
theorem ok_X11_view_36_4 : oks m_X11_view.1 m_X11_view.2.2.1 36 [(.aload_n 0, 1, (0, 0, 0)), (.iload_n 2, 1, (0, 0, 0)), (.iconst (-1), 1, (0, 0, 0)), (.iconst (-1), 1, (0, 0, 0))] = true ∧ plen 36 [(.aload_n 0, 1, (0, 0, 0)), (.iload_n 2, 1, (0, 0, 0)), (.iconst (-1), 1, (0, 0, 0)), (.iconst (-1), 1, (0, 0, 0))] = 40 := by decide +kernel
theorem ok_X11_view_43_1 : oks m_X11_view.1 m_X11_view.2.2.1 43 [(.bipush 40, 2, (0, 0, 0))] = true ∧ plen 43 [(.bipush 40, 2, (0, 0, 0))] = 45 := by decide +kernel
theorem ok_X11_view_48_1 : oks m_X11_view.1 m_X11_view.2.2.1 48 [(.iconst 1, 1, (0, 0, 0))] = true ∧ plen 48 [(.iconst 1, 1, (0, 0, 0))] = 49 := by decide +kernel
theorem ok_X11_view_52_1 : oks m_X11_view.1 m_X11_view.2.2.1 52 [(.iconst 0, 1, (0, 0, 0))] = true ∧ plen 52 [(.iconst 0, 1, (0, 0, 0))] = 53 := by decide +kernel
theorem ok_X11_view_53_3 : oks m_X11_view.1 m_X11_view.2.2.1 53 [(.istore 4, 2, (0, 0, 0)), (.aload_n 0, 1, (0, 0, 0)), (.iload_n 3, 1, (0, 0, 0))] = true ∧ plen 53 [(.istore 4, 2, (0, 0, 0)), (.aload_n 0, 1, (0, 0, 0)), (.iload_n 3, 1, (0, 0, 0))] = 57 := by decide +kernel
theorem ok_X11_view_60_1 : oks m_X11_view.1 m_X11_view.2.2.1 60 [(.iconst 1, 1, (0, 0, 0))] = true ∧ plen 60 [(.iconst 1, 1, (0, 0, 0))] = 61 := by decide +kernel
theorem ok_X11_view_64_1 : oks m_X11_view.1 m_X11_view.2.2.1 64 [(.iload 4, 2, (0, 0, 0))] = true ∧ plen 64 [(.iload 4, 2, (0, 0, 0))] = 66 := by decide +kernel
theorem ok_X11_view_69_1 : oks m_X11_view.1 m_X11_view.2.2.1 69 [(.iconst 2, 1, (0, 0, 0))] = true ∧ plen 69 [(.iconst 2, 1, (0, 0, 0))] = 70 := by decide +kernel
theorem ok_X11_view_73_1 : oks m_X11_view.1 m_X11_view.2.2.1 73 [(.aload_n 0, 1, (0, 0, 0))] = true ∧ plen 73 [(.aload_n 0, 1, (0, 0, 0))] = 74 := by decide +kernel
theorem ok_X11_view_80_1 : oks m_X11_view.1 m_X11_view.2.2.1 80 [(.iconst 3, 1, (0, 0, 0))] = true ∧ plen 80 [(.iconst 3, 1, (0, 0, 0))] = 81 := by decide +kernel
theorem ok_X11_view_84_1 : oks m_X11_view.1 m_X11_view.2.2.1 84 [(.iconst 0, 1, (0, 0, 0))] = true ∧ plen 84 [(.iconst 0, 1, (0, 0, 0))] = 85 := by decide +kernel
theorem ok_X11_view_91_1 : oks m_X11_view.1 m_X11_view.2.2.1 91 [(.iconst 0, 1, (0, 0, 0))] = true ∧ plen 91 [(.iconst 0, 1, (0, 0, 0))] = 92 := by decide +kernel
theorem ok_X11_view_95_8 : oks m_X11_view.1 m_X11_view.2.2.1 95 [(.aload_n 0, 1, (0, 0, 0)), (.iconst 5, 1, (0, 0, 0)), (.iload_n 1, 1, (0, 0, 0)), (.iconst 0, 1, (0, 0, 0)), (.iload_n 2, 1, (0, 0, 0)), (.iconst (-1), 1, (0, 0, 0)), (.iconst (-1), 1, (0, 0, 0)), (.iconst (-1), 1, (0, 0, 0))] = true ∧ plen 95 [(.aload_n 0, 1, (0, 0, 0)), (.iconst 5, 1, (0, 0, 0)), (.iload_n 1, 1, (0, 0, 0)), (.iconst 0, 1, (0, 0, 0)), (.iload_n 2, 1, (0, 0, 0)), (.iconst (-1), 1, (0, 0, 0)), (.iconst (-1), 1, (0, 0, 0)), (.iconst (-1), 1, (0, 0, 0))] = 103 := by decide +kernel
def B_X11_view_85 (x1 : Int) (x2 : Int) (y0 : Int) (σ : Sg) : Option (Int × Sg) :=
bnd (F_X11_refused y0 σ) fun q1 =>
if q1.1 = true then
some (0, q1.2)
else
(F_X11_pattern 5 x1 0 x2 (-1) (-1) (-1) q1.2).bind fun q3 =>
some (q3.1, q3.2)
def B_X11_view_53 (x1 : Int) (x2 : Int) (x3 : Bool) (y0 : Bool) (σ : Sg) : Option (Int × Sg) :=
if x3 = true then
if y0 = true then
if (F_X11_isFull σ) = true then
B_X11_view_85 x1 x2 3 σ
else
B_X11_view_85 x1 x2 0 σ
else
B_X11_view_85 x1 x2 2 σ
else
B_X11_view_85 x1 x2 1 σ
def B_X11_view_52 (x1 : Int) (x2 : Int) (x3 : Bool) (σ : Sg) : Option (Int × Sg) :=
B_X11_view_53 x1 x2 x3 false σ
def B_X11_view_22 (x1 : Int) (x2 : Int) (y0 : Bool) (σ : Sg) : Option (Int × Sg) :=
if y0 = true then
(rdn 60 σ 17 x2).bind fun v5 =>
if v5 = 0 then
B_X11_view_52 x1 x2 y0 σ
else
(F_X11_sizeOf x2 (-1) (-1) σ).bind fun q7 =>
if 40 < q7 then
B_X11_view_52 x1 x2 y0 σ
else
B_X11_view_53 x1 x2 y0 true σ
else
B_X11_view_52 x1 x2 y0 σ
def B_X11_view_21 (x1 : Int) (x2 : Int) (σ : Sg) : Option (Int × Sg) :=
B_X11_view_22 x1 x2 false σ
def F_X11_view (a1 : Int) (a2 : Int) (σ : Sg) : Option (Int × Sg) :=
if (F_X11_in a1 0 2) = true then
if (F_X11_isPattern a2 σ) = true then
B_X11_view_22 a1 a2 true σ
else
B_X11_view_21 a1 a2 σ
else
B_X11_view_21 a1 a2 σ
theorem lk_X11_view (l : Launch) (d : Nat) (hd : 2 ≤ d) (a1 : Int) (a2 : Int) (σ : Sg) (q : (Int × Sg)) (h : F_X11_view a1 a2 σ = some q) : CT l d m_X11_view.2.1 m_X11_view.2.2.1 m_X11_view.2.2.2.1 m_X11_view.2.2.2.2 [.inr 0, .inl a1, .inl a2] (LAYM, σ) (some (.inl q.1)) (LAYM, q.2) := by
  obtain ⟨d, rfl⟩ : ∃ e, d = e + 1 := ⟨d - 1, by omega⟩
  have key : Go l m_X11_view (d + 1) LAYM (.inl (some (.inl q.1))) q.2 0 [some (.inr 0), some (.inl a1), some (.inl a2), none, none] [] σ := by
    unfold F_X11_view at h
    have hB_X11_view_85 : ∀ (x1 : Int) (x2 : Int) (y0 : Int) (σ : Sg), B_X11_view_85 x1 x2 y0 σ = some q → Go l m_X11_view (d + 1) LAYM (.inl (some (.inl q.1))) q.2 85 [some (.inr 0), some (.inl x1), some (.inl x2), none, none] [.inl y0, .inr 0] σ := by
      intro x1 x2 y0 σ h
      unfold B_X11_view_85 at h
      obtain ⟨q1, e2, h⟩ := bnd_inv h
      refine go_V (M1 := m_X11_refused) (as := [.inl y0]) (st := []) (k := 0) (ci := 11) dc_X11_view_85 ln_11_183 im_X11_refused (by decide) rfl rfl mk_X11_refused rfl (Nat.le_of_ble_eq_true rfl) (Nat.le_refl _) (v := (some (.inl (b2i q1.1)))) (σ1 := q1.2) (lk_X11_refused l d (by omega) y0 σ q1 e2.symm) _ rfl ?_
      refine go_ifb_eq dc_X11_view_88 (by rfl) (fun hc => ?_) (fun hc => ?_)
      · replace h := (if_neg hc).symm.trans h
        refine go_ops ok_X11_view_95_8 (L' := [some (.inr 0), some (.inl x1), some (.inl x2), none, none]) (st' := [.inl (-1), .inl (-1), .inl (-1), .inl x2, .inl 0, .inl x1, .inl 5, .inr 0]) (σ1 := q1.2) rfl ?_
        obtain ⟨q3, e4, h⟩ := bind_inv h
        refine go_V (M1 := m_X11_pattern) (as := [.inl 5, .inl x1, .inl 0, .inl x2, .inl (-1), .inl (-1), .inl (-1)]) (st := []) (k := 0) (ci := 11) dc_X11_view_103 ln_11_208 im_X11_pattern (by decide) rfl rfl mk_X11_pattern rfl (Nat.le_of_ble_eq_true rfl) (Nat.le_refl _) (v := (some (.inl q3.1))) (σ1 := q3.2) (lk_X11_pattern l d (by omega) 5 x1 0 x2 (-1) (-1) (-1) q1.2 q3 e4) _ rfl ?_
        have h9 := Option.some.inj h
        subst h9
        exact go_iret dc_X11_view_106 rfl
      · replace h := (if_pos hc).symm.trans h
        refine go_ops ok_X11_view_91_1 (L' := [some (.inr 0), some (.inl x1), some (.inl x2), none, none]) (st' := [.inl 0]) (σ1 := q1.2) rfl ?_
        refine go_goto dc_X11_view_92 (by rfl) ?_
        have h9 := Option.some.inj h
        subst h9
        exact go_iret dc_X11_view_106 rfl
    have hB_X11_view_53 : ∀ (x1 : Int) (x2 : Int) (x3 : Bool) (y0 : Bool) (σ : Sg), B_X11_view_53 x1 x2 x3 y0 σ = some q → Go l m_X11_view (d + 1) LAYM (.inl (some (.inl q.1))) q.2 53 [some (.inr 0), some (.inl x1), some (.inl x2), some (.inl (b2i x3)), none] [.inl (b2i y0)] σ := by
      intro x1 x2 x3 y0 σ h
      unfold B_X11_view_53 at h
      refine go_ops ok_X11_view_53_3 (L' := [some (.inr 0), some (.inl x1), some (.inl x2), some (.inl (b2i x3)), some (.inl (b2i y0))]) (st' := [.inl (b2i x3), .inr 0]) (σ1 := σ) rfl ?_
      refine go_ifb_ne dc_X11_view_57 (by rfl) (fun hc => ?_) (fun hc => ?_)
      · replace h := (if_pos hc).symm.trans h
        refine go_ops ok_X11_view_64_1 (L' := [some (.inr 0), some (.inl x1), some (.inl x2), some (.inl (b2i x3)), some (.inl (b2i y0))]) (st' := [.inl (b2i y0), .inr 0]) (σ1 := σ) rfl ?_
        refine go_ifb_ne dc_X11_view_66 (by rfl) (fun hc => ?_) (fun hc => ?_)
        · replace h := (if_pos hc).symm.trans h
          refine go_ops ok_X11_view_73_1 (L' := [some (.inr 0), some (.inl x1), some (.inl x2), some (.inl (b2i x3)), some (.inl (b2i y0))]) (st' := [.inr 0, .inr 0]) (σ1 := σ) rfl ?_
          refine go_V (M1 := m_X11_isFull) (as := []) (st := [.inr 0]) (k := 0) (ci := 11) dc_X11_view_74 ln_11_204 im_X11_isFull (by decide) rfl rfl mk_X11_isFull rfl (Nat.le_of_ble_eq_true rfl) (Nat.le_refl _) (v := (some (.inl (b2i (F_X11_isFull σ))))) (σ1 := σ) (lk_X11_isFull l d (by omega) σ _ rfl) _ rfl ?_
          refine go_ifb_eq dc_X11_view_77 (by rfl) (fun hc => ?_) (fun hc => ?_)
          · replace h := (if_neg hc).symm.trans h
            refine go_ops ok_X11_view_84_1 (L' := [some (.inr 0), some (.inl x1), some (.inl x2), some (.inl (b2i x3)), some (.inl (b2i y0))]) (st' := [.inl 0, .inr 0]) (σ1 := σ) rfl ?_
            refine go_wk (L' := [some (.inr 0), some (.inl x1), some (.inl x2), none, none]) ⟨rfl, rfl, rfl, trivial⟩ ?_
            exact hB_X11_view_85 x1 x2 0 σ h
          · replace h := (if_pos hc).symm.trans h
            refine go_ops ok_X11_view_80_1 (L' := [some (.inr 0), some (.inl x1), some (.inl x2), some (.inl (b2i x3)), some (.inl (b2i y0))]) (st' := [.inl 3, .inr 0]) (σ1 := σ) rfl ?_
            refine go_goto dc_X11_view_81 (by rfl) ?_
            refine go_wk (L' := [some (.inr 0), some (.inl x1), some (.inl x2), none, none]) ⟨rfl, rfl, rfl, trivial⟩ ?_
            exact hB_X11_view_85 x1 x2 3 σ h
        · replace h := (if_neg hc).symm.trans h
          refine go_ops ok_X11_view_69_1 (L' := [some (.inr 0), some (.inl x1), some (.inl x2), some (.inl (b2i x3)), some (.inl (b2i y0))]) (st' := [.inl 2, .inr 0]) (σ1 := σ) rfl ?_
          refine go_goto dc_X11_view_70 (by rfl) ?_
          refine go_wk (L' := [some (.inr 0), some (.inl x1), some (.inl x2), none, none]) ⟨rfl, rfl, rfl, trivial⟩ ?_
          exact hB_X11_view_85 x1 x2 2 σ h
      · replace h := (if_neg hc).symm.trans h
        refine go_ops ok_X11_view_60_1 (L' := [some (.inr 0), some (.inl x1), some (.inl x2), some (.inl (b2i x3)), some (.inl (b2i y0))]) (st' := [.inl 1, .inr 0]) (σ1 := σ) rfl ?_
        refine go_goto dc_X11_view_61 (by rfl) ?_
        refine go_wk (L' := [some (.inr 0), some (.inl x1), some (.inl x2), none, none]) ⟨rfl, rfl, rfl, trivial⟩ ?_
        exact hB_X11_view_85 x1 x2 1 σ h
    have hB_X11_view_52 : ∀ (x1 : Int) (x2 : Int) (x3 : Bool) (σ : Sg), B_X11_view_52 x1 x2 x3 σ = some q → Go l m_X11_view (d + 1) LAYM (.inl (some (.inl q.1))) q.2 52 [some (.inr 0), some (.inl x1), some (.inl x2), some (.inl (b2i x3)), none] [] σ := by
      intro x1 x2 x3 σ h
      unfold B_X11_view_52 at h
      refine go_ops ok_X11_view_52_1 (L' := [some (.inr 0), some (.inl x1), some (.inl x2), some (.inl (b2i x3)), none]) (st' := [.inl 0]) (σ1 := σ) rfl ?_
      exact hB_X11_view_53 x1 x2 x3 false σ h
    have hB_X11_view_22 : ∀ (x1 : Int) (x2 : Int) (y0 : Bool) (σ : Sg), B_X11_view_22 x1 x2 y0 σ = some q → Go l m_X11_view (d + 1) LAYM (.inl (some (.inl q.1))) q.2 22 [some (.inr 0), some (.inl x1), some (.inl x2), none, none] [.inl (b2i y0)] σ := by
      intro x1 x2 y0 σ h
      unfold B_X11_view_22 at h
      refine go_ops ok_X11_view_22_2 (L' := [some (.inr 0), some (.inl x1), some (.inl x2), some (.inl (b2i y0)), none]) (st' := [.inl (b2i y0)]) (σ1 := σ) rfl ?_
      refine go_ifb_eq dc_X11_view_24 (by rfl) (fun hc => ?_) (fun hc => ?_)
      · replace h := (if_neg hc).symm.trans h
        exact hB_X11_view_52 x1 x2 y0 σ h
      · replace h := (if_pos hc).symm.trans h
        refine go_ops ok_X11_view_27_3 (L' := [some (.inr 0), some (.inl x1), some (.inl x2), some (.inl (b2i y0)), none]) (st' := [.inl x2, .inr 17]) (σ1 := σ) rfl ?_
        obtain ⟨v5, e6, h⟩ := bind_inv h
        refine go_rdb (k := 17) dc_X11_view_32 rfl e6 ?_
        refine go_if_eq dc_X11_view_33 (by rfl) (fun hc => ?_) (fun hc => ?_)
        · replace h := (if_pos hc).symm.trans h
          exact hB_X11_view_52 x1 x2 y0 σ h
        · replace h := (if_neg hc).symm.trans h
          refine go_ops ok_X11_view_36_4 (L' := [some (.inr 0), some (.inl x1), some (.inl x2), some (.inl (b2i y0)), none]) (st' := [.inl (-1), .inl (-1), .inl x2, .inr 0]) (σ1 := σ) rfl ?_
          obtain ⟨q7, e8, h⟩ := bind_inv h
          refine go_V (M1 := m_X11_sizeOf) (as := [.inl x2, .inl (-1), .inl (-1)]) (st := []) (k := 0) (ci := 11) dc_X11_view_40 ln_11_200 im_X11_sizeOf (by decide) rfl rfl mk_X11_sizeOf rfl (Nat.le_of_ble_eq_true rfl) (Nat.le_refl _) (v := (some (.inl q7))) (σ1 := σ) (lk_X11_sizeOf l d (by omega) x2 (-1) (-1) σ q7 e8) _ rfl ?_
          refine go_ops ok_X11_view_43_1 (L' := [some (.inr 0), some (.inl x1), some (.inl x2), some (.inl (b2i y0)), none]) (st' := [.inl 40, .inl q7]) (σ1 := σ) rfl ?_
          refine go_icmp_gt dc_X11_view_45 (by rfl) (fun hc => ?_) (fun hc => ?_)
          · replace h := (if_pos hc).symm.trans h
            exact hB_X11_view_52 x1 x2 y0 σ h
          · replace h := (if_neg hc).symm.trans h
            refine go_ops ok_X11_view_48_1 (L' := [some (.inr 0), some (.inl x1), some (.inl x2), some (.inl (b2i y0)), none]) (st' := [.inl 1]) (σ1 := σ) rfl ?_
            refine go_goto dc_X11_view_49 (by rfl) ?_
            exact hB_X11_view_53 x1 x2 y0 true σ h
    have hB_X11_view_21 : ∀ (x1 : Int) (x2 : Int) (σ : Sg), B_X11_view_21 x1 x2 σ = some q → Go l m_X11_view (d + 1) LAYM (.inl (some (.inl q.1))) q.2 21 [some (.inr 0), some (.inl x1), some (.inl x2), none, none] [] σ := by
      intro x1 x2 σ h
      unfold B_X11_view_21 at h
      refine go_ops ok_X11_view_21_1 (L' := [some (.inr 0), some (.inl x1), some (.inl x2), none, none]) (st' := [.inl 0]) (σ1 := σ) rfl ?_
      exact hB_X11_view_22 x1 x2 false σ h
    refine go_ops ok_X11_view_0_3 (L' := [some (.inr 0), some (.inl a1), some (.inl a2), none, none]) (st' := [.inl 2, .inl 0, .inl a1]) (σ1 := σ) rfl ?_
    refine go_S (M1 := m_X11_in) (as := [.inl a1, .inl 0, .inl 2]) (st := []) dc_X11_view_3 ln_11_171 sm_X11_in mk_X11_in rfl (Nat.le_of_ble_eq_true rfl) (Nat.le_refl _) (v := (some (.inl (b2i (F_X11_in a1 0 2))))) (σ1 := σ) (lk_X11_in l d (by omega) a1 0 2 σ _ rfl) _ rfl ?_
    refine go_ifb_eq dc_X11_view_6 (by rfl) (fun hc => ?_) (fun hc => ?_)
    · replace h := (if_neg hc).symm.trans h
      exact hB_X11_view_21 a1 a2 σ h
    · replace h := (if_pos hc).symm.trans h
      refine go_ops ok_X11_view_9_2 (L' := [some (.inr 0), some (.inl a1), some (.inl a2), none, none]) (st' := [.inl a2, .inr 0]) (σ1 := σ) rfl ?_
      refine go_V (M1 := m_X11_isPattern) (as := [.inl a2]) (st := []) (k := 0) (ci := 11) dc_X11_view_11 ln_11_212 im_X11_isPattern (by decide) rfl rfl mk_X11_isPattern rfl (Nat.le_of_ble_eq_true rfl) (Nat.le_refl _) (v := (some (.inl (b2i (F_X11_isPattern a2 σ))))) (σ1 := σ) (lk_X11_isPattern l d (by omega) a2 σ _ rfl) _ rfl ?_
      refine go_ifb_eq dc_X11_view_14 (by rfl) (fun hc => ?_) (fun hc => ?_)
      · replace h := (if_neg hc).symm.trans h
        exact hB_X11_view_21 a1 a2 σ h
      · replace h := (if_pos hc).symm.trans h
        refine go_ops ok_X11_view_17_1 (L' := [some (.inr 0), some (.inl a1), some (.inl a2), none, none]) (st' := [.inl 1]) (σ1 := σ) rfl ?_
        refine go_goto dc_X11_view_18 (by rfl) ?_
        exact hB_X11_view_22 a1 a2 true σ h
  have hf := go_ct (as := [.inr 0, .inl a1, .inl a2]) mk_X11_view (by rfl) (Nat.le_of_ble_eq_true rfl) key
  exact hf
theorem dc_X11_list_3 : decode m_X11_list.2.2.1 3 = .ok (.invokestatic 171, 3) := by decide +kernel
theorem dc_X11_list_12 : decode m_X11_list.2.2.1 12 = .ok (.invokestatic 171, 3) := by decide +kernel
theorem dc_X11_list_30 : decode m_X11_list.2.2.1 30 = .ok (.if_icmp .ge 149, 3) := by decide +kernel
theorem dc_X11_list_35 : decode m_X11_list.2.2.1 35 = .ok (.ifCond .ne 7, 3) := by decide +kernel
theorem dc_X11_list_39 : decode m_X11_list.2.2.1 39 = .ok (.goto 4, 3) := by decide +kernel
theorem dc_X11_list_47 : decode m_X11_list.2.2.1 47 = .ok (.ifCond .eq 13, 3) := by decide +kernel
theorem dc_X11_list_53 : decode m_X11_list.2.2.1 53 = .ok (.if_icmp .ge 7, 3) := by decide +kernel
theorem dc_X11_list_57 : decode m_X11_list.2.2.1 57 = .ok (.goto 4, 3) := by decide +kernel
theorem dc_X11_list_66 : decode m_X11_list.2.2.1 66 = .ok (.invokevirtual 212, 3) := by decide +kernel
theorem dc_X11_list_73 : decode m_X11_list.2.2.1 73 = .ok (.ifCond .eq 17, 3) := by decide +kernel
theorem dc_X11_list_78 : decode m_X11_list.2.2.1 78 = .ok (.ifCond .eq 8, 3) := by decide +kernel
theorem dc_X11_list_83 : decode m_X11_list.2.2.1 83 = .ok (.ifCond .eq 7, 3) := by decide +kernel
theorem dc_X11_list_87 : decode m_X11_list.2.2.1 87 = .ok (.goto 4, 3) := by decide +kernel
theorem dc_X11_list_95 : decode m_X11_list.2.2.1 95 = .ok (.ifCond .eq 49, 3) := by decide +kernel
theorem dc_X11_list_100 : decode m_X11_list.2.2.1 100 = .ok (.ifCond .eq 34, 3) := by decide +kernel
theorem dc_X11_list_105 : decode m_X11_list.2.2.1 105 = .ok (.ifCond .eq 39, 3) := by decide +kernel
theorem dc_X11_list_112 : decode m_X11_list.2.2.1 112 = .ok (.invokevirtual 215, 3) := by decide +kernel
theorem dc_X11_list_115 : decode m_X11_list.2.2.1 115 = .ok (.ifCond .eq 29, 3) := by decide +kernel
theorem dc_X11_list_124 : decode m_X11_list.2.2.1 124 = .ok (.iaload, 1) := by decide +kernel
theorem dc_X11_list_128 : decode m_X11_list.2.2.1 128 = .ok (.ifCond .ne 16, 3) := by decide +kernel
theorem dc_X11_list_131 : decode m_X11_list.2.2.1 131 = .ok (.goto 9, 3) := by decide +kernel
theorem dc_X11_list_137 : decode m_X11_list.2.2.1 137 = .ok (.if_icmp .ne 7, 3) := by decide +kernel
theorem dc_X11_list_141 : decode m_X11_list.2.2.1 141 = .ok (.goto 4, 3) := by decide +kernel
theorem dc_X11_list_151 : decode m_X11_list.2.2.1 151 = .ok (.ifCond .eq 18, 3) := by decide +kernel
theorem dc_X11_list_156 : decode m_X11_list.2.2.1 156 = .ok (.ifCond .eq 13, 3) := by decide +kernel
theorem dc_X11_list_165 : decode m_X11_list.2.2.1 165 = .ok (.iaload, 1) := by decide +kernel
theorem dc_X11_list_166 : decode m_X11_list.2.2.1 166 = .ok (.goto 4, 3) := by decide +kernel
theorem dc_X11_list_176 : decode m_X11_list.2.2.1 176 = .ok (.goto (-149), 3) := by decide +kernel
theorem dc_X11_list_181 : decode m_X11_list.2.2.1 181 = .ok (.ifCond .eq 35, 3) := by decide +kernel
theorem dc_X11_list_186 : decode m_X11_list.2.2.1 186 = .ok (.ifCond .eq 30, 3) := by decide +kernel
theorem dc_X11_list_193 : decode m_X11_list.2.2.1 193 = .ok (.invokevirtual 218, 3) := by decide +kernel
theorem dc_X11_list_197 : decode m_X11_list.2.2.1 197 = .ok (.if_icmp .gt 19, 3) := by decide +kernel
theorem dc_X11_list_204 : decode m_X11_list.2.2.1 204 = .ok (.invokevirtual 200, 3) := by decide +kernel
theorem dc_X11_list_209 : decode m_X11_list.2.2.1 209 = .ok (.if_icmp .gt 7, 3) := by decide +kernel
theorem dc_X11_list_213 : decode m_X11_list.2.2.1 213 = .ok (.goto 4, 3) := by decide +kernel
theorem dc_X11_list_222 : decode m_X11_list.2.2.1 222 = .ok (.ifCond .ne 7, 3) := by decide +kernel
theorem dc_X11_list_226 : decode m_X11_list.2.2.1 226 = .ok (.goto 24, 3) := by decide +kernel
theorem dc_X11_list_231 : decode m_X11_list.2.2.1 231 = .ok (.ifCond .ne 7, 3) := by decide +kernel
theorem dc_X11_list_235 : decode m_X11_list.2.2.1 235 = .ok (.goto 15, 3) := by decide +kernel
theorem dc_X11_list_239 : decode m_X11_list.2.2.1 239 = .ok (.invokevirtual 204, 3) := by decide +kernel
theorem dc_X11_list_242 : decode m_X11_list.2.2.1 242 = .ok (.ifCond .eq 7, 3) := by decide +kernel
theorem dc_X11_list_246 : decode m_X11_list.2.2.1 246 = .ok (.goto 4, 3) := by decide +kernel
theorem dc_X11_list_250 : decode m_X11_list.2.2.1 250 = .ok (.invokevirtual 183, 3) := by decide +kernel
theorem dc_X11_list_253 : decode m_X11_list.2.2.1 253 = .ok (.ifCond .eq 7, 3) := by decide +kernel
theorem dc_X11_list_257 : decode m_X11_list.2.2.1 257 = .ok (.goto 16, 3) := by decide +kernel
theorem dc_X11_list_270 : decode m_X11_list.2.2.1 270 = .ok (.invokevirtual 208, 3) := by decide +kernel
theorem dc_X11_list_273 : decode m_X11_list.2.2.1 273 = .ok (.ireturn, 1) := by decide +kernel
theorem ok_X11_list_0_3 : oks m_X11_list.1 m_X11_list.2.2.1 0 [(.iload_n 1, 1, (0, 0, 0)), (.iconst 0, 1, (0, 0, 0)), (.iconst 2, 1, (0, 0, 0))] = true ∧ plen 0 [(.iload_n 1, 1, (0, 0, 0)), (.iconst 0, 1, (0, 0, 0)), (.iconst 2, 1, (0, 0, 0))] = 3 := by decide +kernel
theorem ok_X11_list_6_4 : oks m_X11_list.1 m_X11_list.2.2.1 6 [(.istore 5, 2, (0, 0, 0)), (.iload 4, 2, (0, 0, 0)), (.iconst 0, 1, (0, 0, 0)), (.iconst 2, 1, (0, 0, 0))] = true ∧ plen 6 [(.istore 5, 2, (0, 0, 0)), (.iload 4, 2, (0, 0, 0)), (.iconst 0, 1, (0, 0, 0)), (.iconst 2, 1, (0, 0, 0))] = 12 := by decide +kernel
theorem ok_X11_list_15_7 : oks m_X11_list.1 m_X11_list.2.2.1 15 [(.istore 6, 2, (0, 0, 0)), (.iload 5, 2, (0, 0, 0)), (.istore 7, 2, (0, 0, 0)), (.iconst 0, 1, (0, 0, 0)), (.istore 8, 2, (0, 0, 0)), (.iconst 0, 1, (0, 0, 0)), (.istore 9, 2, (0, 0, 0))] = true ∧ plen 15 [(.istore 6, 2, (0, 0, 0)), (.iload 5, 2, (0, 0, 0)), (.istore 7, 2, (0, 0, 0)), (.iconst 0, 1, (0, 0, 0)), (.istore 8, 2, (0, 0, 0)), (.iconst 0, 1, (0, 0, 0)), (.istore 9, 2, (0, 0, 0))] = 27 := by decide +kernel
theorem ok_X11_list_27_2 : oks m_X11_list.1 m_X11_list.2.2.1 27 [(.iload 9, 2, (0, 0, 0)), (.iconst 2, 1, (0, 0, 0))] = true ∧ plen 27 [(.iload 9, 2, (0, 0, 0)), (.iconst 2, 1, (0, 0, 0))] = 30 := by decide +kernel
theorem ok_X11_list_33_1 : oks m_X11_list.1 m_X11_list.2.2.1 33 [(.iload 9, 2, (0, 0, 0))] = true ∧ plen 33 [(.iload 9, 2, (0, 0, 0))] = 35 := by decide +kernel
theorem ok_X11_list_38_1 : oks m_X11_list.1 m_X11_list.2.2.1 38 [(.iload_n 2, 1, (0, 0, 0))] = true ∧ plen 38 [(.iload_n 2, 1, (0, 0, 0))] = 39 := by decide +kernel
theorem ok_X11_list_42_1 : oks m_X11_list.1 m_X11_list.2.2.1 42 [(.iload_n 3, 1, (0, 0, 0))] = true ∧ plen 42 [(.iload_n 3, 1, (0, 0, 0))] = 43 := by decide +kernel
theorem ok_X11_list_43_2 : oks m_X11_list.1 m_X11_list.2.2.1 43 [(.istore 10, 2, (0, 0, 0)), (.iload 5, 2, (0, 0, 0))] = true ∧ plen 43 [(.istore 10, 2, (0, 0, 0)), (.iload 5, 2, (0, 0, 0))] = 47 := by decide +kernel
theorem ok_X11_list_50_2 : oks m_X11_list.1 m_X11_list.2.2.1 50 [(.iload 9, 2, (0, 0, 0)), (.iload_n 1, 1, (0, 0, 0))] = true ∧ plen 50 [(.iload 9, 2, (0, 0, 0)), (.iload_n 1, 1, (0, 0, 0))] = 53 := by decide +kernel
theorem ok_X11_list_56_1 : oks m_X11_list.1 m_X11_list.2.2.1 56 [(.iconst 1, 1, (0, 0, 0))] = true ∧ plen 56 [(.iconst 1, 1, (0, 0, 0))] = 57 := by decide +kernel
theorem ok_X11_list_60_1 : oks m_X11_list.1 m_X11_list.2.2.1 60 [(.iconst 0, 1, (0, 0, 0))] = true ∧ plen 60 [(.iconst 0, 1, (0, 0, 0))] = 61 := by decide +kernel
theorem ok_X11_list_61_3 : oks m_X11_list.1 m_X11_list.2.2.1 61 [(.istore 11, 2, (0, 0, 0)), (.aload_n 0, 1, (0, 0, 0)), (.iload 10, 2, (0, 0, 0))] = true ∧ plen 61 [(.istore 11, 2, (0, 0, 0)), (.aload_n 0, 1, (0, 0, 0)), (.iload 10, 2, (0, 0, 0))] = 66 := by decide +kernel
theorem ok_X11_list_69_2 : oks m_X11_list.1 m_X11_list.2.2.1 69 [(.istore 12, 2, (0, 0, 0)), (.iload 6, 2, (0, 0, 0))] = true ∧ plen 69 [(.istore 12, 2, (0, 0, 0)), (.iload 6, 2, (0, 0, 0))] = 73 := by decide +kernel
theorem ok_X11_list_76_1 : oks m_X11_list.1 m_X11_list.2.2.1 76 [(.iload 11, 2, (0, 0, 0))] = true ∧ plen 76 [(.iload 11, 2, (0, 0, 0))] = 78 := by decide +kernel
theorem ok_X11_list_81_1 : oks m_X11_list.1 m_X11_list.2.2.1 81 [(.iload 12, 2, (0, 0, 0))] = true ∧ plen 81 [(.iload 12, 2, (0, 0, 0))] = 83 := by decide +kernel
theorem ok_X11_list_86_1 : oks m_X11_list.1 m_X11_list.2.2.1 86 [(.iconst 1, 1, (0, 0, 0))] = true ∧ plen 86 [(.iconst 1, 1, (0, 0, 0))] = 87 := by decide +kernel
theorem ok_X11_list_90_1 : oks m_X11_list.1 m_X11_list.2.2.1 90 [(.iconst 0, 1, (0, 0, 0))] = true ∧ plen 90 [(.iconst 0, 1, (0, 0, 0))] = 91 := by decide +kernel
theorem ok_X11_list_91_2 : oks m_X11_list.1 m_X11_list.2.2.1 91 [(.istore 6, 2, (0, 0, 0)), (.iload 7, 2, (0, 0, 0))] = true ∧ plen 91 [(.istore 6, 2, (0, 0, 0)), (.iload 7, 2, (0, 0, 0))] = 95 := by decide +kernel
theorem ok_X11_list_98_1 : oks m_X11_list.1 m_X11_list.2.2.1 98 [(.iload 11, 2, (0, 0, 0))] = true ∧ plen 98 [(.iload 11, 2, (0, 0, 0))] = 100 := by decide +kernel
theorem ok_X11_list_103_1 : oks m_X11_list.1 m_X11_list.2.2.1 103 [(.iload 12, 2, (0, 0, 0))] = true ∧ plen 103 [(.iload 12, 2, (0, 0, 0))] = 105 := by decide +kernel
theorem ok_X11_list_108_3 : oks m_X11_list.1 m_X11_list.2.2.1 108 [(.aload_n 0, 1, (0, 0, 0)), (.iload 10, 2, (0, 0, 0)), (.iconst 4, 1, (0, 0, 0))] = true ∧ plen 108 [(.aload_n 0, 1, (0, 0, 0)), (.iload 10, 2, (0, 0, 0)), (.iconst 4, 1, (0, 0, 0))] = 112 := by decide +kernel
theorem ok_X11_list_118_3 : oks m_X11_list.1 m_X11_list.2.2.1 118 [(.aload_n 0, 1, (0, 0, 0)), (.getfield 52, 3, (11, 17, 0)), (.iload 10, 2, (0, 0, 0))] = true ∧ plen 118 [(.aload_n 0, 1, (0, 0, 0)), (.getfield 52, 3, (11, 17, 0)), (.iload 10, 2, (0, 0, 0))] = 124 := by decide +kernel
theorem ok_X11_list_125_2 : oks m_X11_list.1 m_X11_list.2.2.1 125 [(.iload 8, 2, (0, 0, 0)), (.iand, 1, (0, 0, 0))] = true ∧ plen 125 [(.iload 8, 2, (0, 0, 0)), (.iand, 1, (0, 0, 0))] = 128 := by decide +kernel
theorem ok_X11_list_134_2 : oks m_X11_list.1 m_X11_list.2.2.1 134 [(.iload 10, 2, (0, 0, 0)), (.iconst (-1), 1, (0, 0, 0))] = true ∧ plen 134 [(.iload 10, 2, (0, 0, 0)), (.iconst (-1), 1, (0, 0, 0))] = 137 := by decide +kernel
theorem ok_X11_list_140_1 : oks m_X11_list.1 m_X11_list.2.2.1 140 [(.iconst 1, 1, (0, 0, 0))] = true ∧ plen 140 [(.iconst 1, 1, (0, 0, 0))] = 141 := by decide +kernel
theorem ok_X11_list_144_1 : oks m_X11_list.1 m_X11_list.2.2.1 144 [(.iconst 0, 1, (0, 0, 0))] = true ∧ plen 144 [(.iconst 0, 1, (0, 0, 0))] = 145 := by decide +kernel
theorem ok_X11_list_145_3 : oks m_X11_list.1 m_X11_list.2.2.1 145 [(.istore 7, 2, (0, 0, 0)), (.iload 8, 2, (0, 0, 0)), (.iload 11, 2, (0, 0, 0))] = true ∧ plen 145 [(.istore 7, 2, (0, 0, 0)), (.iload 8, 2, (0, 0, 0)), (.iload 11, 2, (0, 0, 0))] = 151 := by decide +kernel
theorem ok_X11_list_154_1 : oks m_X11_list.1 m_X11_list.2.2.1 154 [(.iload 12, 2, (0, 0, 0))] = true ∧ plen 154 [(.iload 12, 2, (0, 0, 0))] = 156 := by decide +kernel
theorem ok_X11_list_159_3 : oks m_X11_list.1 m_X11_list.2.2.1 159 [(.aload_n 0, 1, (0, 0, 0)), (.getfield 52, 3, (11, 17, 0)), (.iload 10, 2, (0, 0, 0))] = true ∧ plen 159 [(.aload_n 0, 1, (0, 0, 0)), (.getfield 52, 3, (11, 17, 0)), (.iload 10, 2, (0, 0, 0))] = 165 := by decide +kernel
theorem ok_X11_list_169_1 : oks m_X11_list.1 m_X11_list.2.2.1 169 [(.iconst 0, 1, (0, 0, 0))] = true ∧ plen 169 [(.iconst 0, 1, (0, 0, 0))] = 170 := by decide +kernel
theorem ok_X11_list_170_3 : oks m_X11_list.1 m_X11_list.2.2.1 170 [(.ior, 1, (0, 0, 0)), (.istore 8, 2, (0, 0, 0)), (.iinc 9 1, 3, (0, 0, 0))] = true ∧ plen 170 [(.ior, 1, (0, 0, 0)), (.istore 8, 2, (0, 0, 0)), (.iinc 9 1, 3, (0, 0, 0))] = 176 := by decide +kernel
theorem ok_X11_list_179_1 : oks m_X11_list.1 m_X11_list.2.2.1 179 [(.iload 6, 2, (0, 0, 0))] = true ∧ plen 179 [(.iload 6, 2, (0, 0, 0))] = 181 := by decide +kernel
theorem ok_X11_list_184_1 : oks m_X11_list.1 m_X11_list.2.2.1 184 [(.iload 7, 2, (0, 0, 0))] = true ∧ plen 184 [(.iload 7, 2, (0, 0, 0))] = 186 := by decide +kernel
theorem ok_X11_list_189_4 : oks m_X11_list.1 m_X11_list.2.2.1 189 [(.aload_n 0, 1, (0, 0, 0)), (.iload_n 2, 1, (0, 0, 0)), (.iload_n 3, 1, (0, 0, 0)), (.iconst (-1), 1, (0, 0, 0))] = true ∧ plen 189 [(.aload_n 0, 1, (0, 0, 0)), (.iload_n 2, 1, (0, 0, 0)), (.iload_n 3, 1, (0, 0, 0)), (.iconst (-1), 1, (0, 0, 0))] = 193 := by decide +kernel
theorem ok_X11_list_196_1 : oks m_X11_list.1 m_X11_list.2.2.1 196 [(.iconst 4, 1, (0, 0, 0))] = true ∧ plen 196 [(.iconst 4, 1, (0, 0, 0))] = 197 := by decide +kernel
theorem ok_X11_list_200_4 : oks m_X11_list.1 m_X11_list.2.2.1 200 [(.aload_n 0, 1, (0, 0, 0)), (.iload_n 2, 1, (0, 0, 0)), (.iload_n 3, 1, (0, 0, 0)), (.iconst (-1), 1, (0, 0, 0))] = true ∧ plen 200 [(.aload_n 0, 1, (0, 0, 0)), (.iload_n 2, 1, (0, 0, 0)), (.iload_n 3, 1, (0, 0, 0)), (.iconst (-1), 1, (0, 0, 0))] = 204 := by decide +kernel
theorem ok_X11_list_207_1 : oks m_X11_list.1 m_X11_list.2.2.1 207 [(.bipush 40, 2, (0, 0, 0))] = true ∧ plen 207 [(.bipush 40, 2, (0, 0, 0))] = 209 := by decide +kernel
theorem ok_X11_list_212_1 : oks m_X11_list.1 m_X11_list.2.2.1 212 [(.iconst 1, 1, (0, 0, 0))] = true ∧ plen 212 [(.iconst 1, 1, (0, 0, 0))] = 213 := by decide +kernel
theorem ok_X11_list_216_1 : oks m_X11_list.1 m_X11_list.2.2.1 216 [(.iconst 0, 1, (0, 0, 0))] = true ∧ plen 216 [(.iconst 0, 1, (0, 0, 0))] = 217 := by decide +kernel
theorem ok_X11_list_217_3 : oks m_X11_list.1 m_X11_list.2.2.1 217 [(.istore 7, 2, (0, 0, 0)), (.aload_n 0, 1, (0, 0, 0)), (.iload 6, 2, (0, 0, 0))] = true ∧ plen 217 [(.istore 7, 2, (0, 0, 0)), (.aload_n 0, 1, (0, 0, 0)), (.iload 6, 2, (0, 0, 0))] = 222 := by decide +kernel
theorem ok_X11_list_225_1 : oks m_X11_list.1 m_X11_list.2.2.1 225 [(.iconst 1, 1, (0, 0, 0))] = true ∧ plen 225 [(.iconst 1, 1, (0, 0, 0))] = 226 := by decide +kernel
theorem ok_X11_list_229_1 : oks m_X11_list.1 m_X11_list.2.2.1 229 [(.iload 7, 2, (0, 0, 0))] = true ∧ plen 229 [(.iload 7, 2, (0, 0, 0))] = 231 := by decide +kernel
theorem ok_X11_list_234_1 : oks m_X11_list.1 m_X11_list.2.2.1 234 [(.iconst 2, 1, (0, 0, 0))] = true ∧ plen 234 [(.iconst 2, 1, (0, 0, 0))] = 235 := by decide +kernel
theorem ok_X11_list_238_1 : oks m_X11_list.1 m_X11_list.2.2.1 238 [(.aload_n 0, 1, (0, 0, 0))] = true ∧ plen 238 [(.aload_n 0, 1, (0, 0, 0))] = 239 := by decide +kernel
theorem ok_X11_list_245_1 : oks m_X11_list.1 m_X11_list.2.2.1 245 [(.iconst 3, 1, (0, 0, 0))] = true ∧ plen 245 [(.iconst 3, 1, (0, 0, 0))] = 246 := by decide +kernel
theorem ok_X11_list_249_1 : oks m_X11_list.1 m_X11_list.2.2.1 249 [(.iconst 0, 1, (0, 0, 0))] = true ∧ plen 249 [(.iconst 0, 1, (0, 0, 0))] = 250 := by decide +kernel
theorem ok_X11_list_256_1 : oks m_X11_list.1 m_X11_list.2.2.1 256 [(.iconst 0, 1, (0, 0, 0))] = true ∧ plen 256 [(.iconst 0, 1, (0, 0, 0))] = 257 := by decide +kernel
theorem ok_X11_list_260_8 : oks m_X11_list.1 m_X11_list.2.2.1 260 [(.aload_n 0, 1, (0, 0, 0)), (.bipush 6, 2, (0, 0, 0)), (.iload_n 1, 1, (0, 0, 0)), (.iload 4, 2, (0, 0, 0)), (.iload_n 2, 1, (0, 0, 0)), (.iload_n 3, 1, (0, 0, 0)), (.iconst (-1), 1, (0, 0, 0)), (.iconst 5, 1, (0, 0, 0))] = true ∧ plen 260 [(.aload_n 0, 1, (0, 0, 0)), (.bipush 6, 2, (0, 0, 0)), (.iload_n 1, 1, (0, 0, 0)), (.iload 4, 2, (0, 0, 0)), (.iload_n 2, 1, (0, 0, 0)), (.iload_n 3, 1, (0, 0, 0)), (.iconst (-1), 1, (0, 0, 0)), (.iconst 5, 1, (0, 0, 0))] = 270 := by decide +kernel
def B_X11_list_170 (x6 : Bool) (x7 : Bool) (x9 : Int) (y0 : Int) (y1 : Int) (σ : Sg) : Option ((Bool × Bool × Int × Int) ⊕ (Bool × Bool)) :=
bnd (jor y1 y0) fun v7 =>
some (.inl (x6, x7, v7, wrap (x9 + 1)))
def B_X11_list_169 (x6 : Bool) (x7 : Bool) (x9 : Int) (y0 : Int) (σ : Sg) : Option ((Bool × Bool × Int × Int) ⊕ (Bool × Bool)) :=
B_X11_list_170 x6 x7 x9 0 y0 σ
def B_X11_list_145 (x6 : Bool) (x8 : Int) (x9 : Int) (x10 : Int) (x11 : Bool) (x12 : Bool) (y0 : Bool) (σ : Sg) : Option ((Bool × Bool × Int × Int) ⊕ (Bool × Bool)) :=
if x11 = true then
if x12 = true then
(rdn 60 σ 15 x10).bind fun v9 =>
B_X11_list_170 x6 y0 x9 v9 x8 σ
else
B_X11_list_169 x6 y0 x9 x8 σ
else
B_X11_list_169 x6 y0 x9 x8 σ
def B_X11_list_144 (x6 : Bool) (x8 : Int) (x9 : Int) (x10 : Int) (x11 : Bool) (x12 : Bool) (σ : Sg) : Option ((Bool × Bool × Int × Int) ⊕ (Bool × Bool)) :=
B_X11_list_145 x6 x8 x9 x10 x11 x12 false σ
def B_X11_list_140 (x6 : Bool) (x8 : Int) (x9 : Int) (x10 : Int) (x11 : Bool) (x12 : Bool) (σ : Sg) : Option ((Bool × Bool × Int × Int) ⊕ (Bool × Bool)) :=
B_X11_list_145 x6 x8 x9 x10 x11 x12 true σ
def B_X11_list_91 (x7 : Bool) (x8 : Int) (x9 : Int) (x10 : Int) (x11 : Bool) (x12 : Bool) (y0 : Bool) (σ : Sg) : Option ((Bool × Bool × Int × Int) ⊕ (Bool × Bool)) :=
if x7 = true then
if x11 = true then
if x12 = true then
(F_X11_suits x10 4 σ).bind fun q11 =>
if q11 = true then
(rdn 60 σ 15 x10).bind fun v13 =>
if (jand v13 x8) = 0 then
B_X11_list_140 y0 x8 x9 x10 x11 x12 σ
else
B_X11_list_144 y0 x8 x9 x10 x11 x12 σ
else
B_X11_list_144 y0 x8 x9 x10 x11 x12 σ
else
B_X11_list_144 y0 x8 x9 x10 x11 x12 σ
else
if x10 = (-1) then
B_X11_list_140 y0 x8 x9 x10 x11 x12 σ
else
B_X11_list_144 y0 x8 x9 x10 x11 x12 σ
else
B_X11_list_144 y0 x8 x9 x10 x11 x12 σ
def B_X11_list_90 (x7 : Bool) (x8 : Int) (x9 : Int) (x10 : Int) (x11 : Bool) (x12 : Bool) (σ : Sg) : Option ((Bool × Bool × Int × Int) ⊕ (Bool × Bool)) :=
B_X11_list_91 x7 x8 x9 x10 x11 x12 false σ
def B_X11_list_86 (x7 : Bool) (x8 : Int) (x9 : Int) (x10 : Int) (x11 : Bool) (x12 : Bool) (σ : Sg) : Option ((Bool × Bool × Int × Int) ⊕ (Bool × Bool)) :=
B_X11_list_91 x7 x8 x9 x10 x11 x12 true σ
def B_X11_list_61 (x6 : Bool) (x7 : Bool) (x8 : Int) (x9 : Int) (x10 : Int) (y0 : Bool) (σ : Sg) : Option ((Bool × Bool × Int × Int) ⊕ (Bool × Bool)) :=
bnd (F_X11_isPattern x10 σ) fun v5 =>
if x6 = true then
if y0 = true then
if v5 = true then
B_X11_list_86 x7 x8 x9 x10 y0 v5 σ
else
B_X11_list_90 x7 x8 x9 x10 y0 v5 σ
else
B_X11_list_86 x7 x8 x9 x10 y0 v5 σ
else
B_X11_list_90 x7 x8 x9 x10 y0 v5 σ
def B_X11_list_60 (x6 : Bool) (x7 : Bool) (x8 : Int) (x9 : Int) (x10 : Int) (σ : Sg) : Option ((Bool × Bool × Int × Int) ⊕ (Bool × Bool)) :=
B_X11_list_61 x6 x7 x8 x9 x10 false σ
def B_X11_list_43 (x1 : Int) (x5 : Bool) (x6 : Bool) (x7 : Bool) (x8 : Int) (x9 : Int) (y0 : Int) (σ : Sg) : Option ((Bool × Bool × Int × Int) ⊕ (Bool × Bool)) :=
if x5 = true then
if x1 ≤ x9 then
B_X11_list_60 x6 x7 x8 x9 y0 σ
else
B_X11_list_61 x6 x7 x8 x9 y0 true σ
else
B_X11_list_60 x6 x7 x8 x9 y0 σ
def L_X11_list_27 (x1 : Int) (x2 : Int) (x3 : Int) (x5 : Bool) (σ : Sg) (x6 : Bool) (x7 : Bool) (x8 : Int) (x9 : Int) : Option ((Bool × Bool × Int × Int) ⊕ (Bool × Bool)) :=
if 2 ≤ x9 then
some (.inr (x6, x7))
else
if x9 = 0 then
B_X11_list_43 x1 x5 x6 x7 x8 x9 x2 σ
else
B_X11_list_43 x1 x5 x6 x7 x8 x9 x3 σ
def B_X11_list_250 (x1 : Int) (x2 : Int) (x3 : Int) (x4 : Int) (y0 : Int) (σ : Sg) : Option (Int × Sg) :=
bnd (F_X11_refused y0 σ) fun q17 =>
if q17.1 = true then
some (0, q17.2)
else
(F_X11_pattern 6 x1 x4 x2 x3 (-1) 5 q17.2).bind fun q19 =>
some (q19.1, q19.2)
def B_X11_list_217 (x1 : Int) (x2 : Int) (x3 : Int) (x4 : Int) (x6 : Bool) (y0 : Bool) (σ : Sg) : Option (Int × Sg) :=
if x6 = true then
if y0 = true then
if (F_X11_isFull σ) = true then
B_X11_list_250 x1 x2 x3 x4 3 σ
else
B_X11_list_250 x1 x2 x3 x4 0 σ
else
B_X11_list_250 x1 x2 x3 x4 2 σ
else
B_X11_list_250 x1 x2 x3 x4 1 σ
def B_X11_list_216 (x1 : Int) (x2 : Int) (x3 : Int) (x4 : Int) (x6 : Bool) (σ : Sg) : Option (Int × Sg) :=
B_X11_list_217 x1 x2 x3 x4 x6 false σ
def F_X11_list (a1 : Int) (a2 : Int) (a3 : Int) (a4 : Int) (σ : Sg) : Option (Int × Sg) :=
bnd (F_X11_in a1 0 2) fun v1 =>
bnd (F_X11_in a4 0 2) fun v3 =>
(iter (fun a : (Bool × Bool × Int × Int) => L_X11_list_27 a1 a2 a3 v1 σ a.1 a.2.1 a.2.2.1 a.2.2.2) 3 (v3, v1, 0, 0)).bind fun y15 =>
if y15.1 = true then
if y15.2 = true then
(F_X11_depthOf a2 a3 (-1) σ).bind fun q21 =>
if 4 < q21 then
B_X11_list_216 a1 a2 a3 a4 y15.1 σ
else
(F_X11_sizeOf a2 a3 (-1) σ).bind fun q23 =>
if 40 < q23 then
B_X11_list_216 a1 a2 a3 a4 y15.1 σ
else
B_X11_list_217 a1 a2 a3 a4 y15.1 true σ
else
B_X11_list_216 a1 a2 a3 a4 y15.1 σ
else
B_X11_list_216 a1 a2 a3 a4 y15.1 σ
theorem lk_X11_list (l : Launch) (d : Nat) (hd : 2 ≤ d) (a1 : Int) (a2 : Int) (a3 : Int) (a4 : Int) (σ : Sg) (q : (Int × Sg)) (h : F_X11_list a1 a2 a3 a4 σ = some q) : CT l d m_X11_list.2.1 m_X11_list.2.2.1 m_X11_list.2.2.2.1 m_X11_list.2.2.2.2 [.inr 0, .inl a1, .inl a2, .inl a3, .inl a4] (LAYM, σ) (some (.inl q.1)) (LAYM, q.2) := by
  obtain ⟨d, rfl⟩ : ∃ e, d = e + 1 := ⟨d - 1, by omega⟩
  have key : Go l m_X11_list (d + 1) LAYM (.inl (some (.inl q.1))) q.2 0 [some (.inr 0), some (.inl a1), some (.inl a2), some (.inl a3), some (.inl a4), none, none, none, none, none, none, none, none] [] σ := by
    unfold F_X11_list at h
    have hL_X11_list_27 : ∀ (x1 : Int) (x2 : Int) (x3 : Int) (x4 : Int) (x5 : Bool) (σ : Sg) (n : Nat) (a : (Bool × Bool × Int × Int)) (y : (Bool × Bool)), iter (fun a : (Bool × Bool × Int × Int) => L_X11_list_27 x1 x2 x3 x5 σ a.1 a.2.1 a.2.2.1 a.2.2.2) n a = some y → (fun y : (Bool × Bool) => Go l m_X11_list (d + 1) LAYM (.inl (some (.inl q.1))) q.2 179 [some (.inr 0), some (.inl x1), some (.inl x2), some (.inl x3), some (.inl x4), none, some (.inl (b2i y.1)), some (.inl (b2i y.2)), none, none, none, none, none] [] σ) y → (fun a : (Bool × Bool × Int × Int) => Go l m_X11_list (d + 1) LAYM (.inl (some (.inl q.1))) q.2 27 [some (.inr 0), some (.inl x1), some (.inl x2), some (.inl x3), some (.inl x4), some (.inl (b2i x5)), some (.inl (b2i a.1)), some (.inl (b2i a.2.1)), some (.inl a.2.2.1), some (.inl a.2.2.2), none, none, none] [] σ) a := by
      intro x1 x2 x3 x4 x5 σ
      refine go_iter (G := fun a : (Bool × Bool × Int × Int) => Go l m_X11_list (d + 1) LAYM (.inl (some (.inl q.1))) q.2 27 [some (.inr 0), some (.inl x1), some (.inl x2), some (.inl x3), some (.inl x4), some (.inl (b2i x5)), some (.inl (b2i a.1)), some (.inl (b2i a.2.1)), some (.inl a.2.2.1), some (.inl a.2.2.2), none, none, none] [] σ) (K := fun y : (Bool × Bool) => Go l m_X11_list (d + 1) LAYM (.inl (some (.inl q.1))) q.2 179 [some (.inr 0), some (.inl x1), some (.inl x2), some (.inl x3), some (.inl x4), none, some (.inl (b2i y.1)), some (.inl (b2i y.2)), none, none, none, none, none] [] σ) ?_
      rintro ⟨x6, x7, x8, x9⟩ w h hK
      replace h : L_X11_list_27 x1 x2 x3 x5 σ x6 x7 x8 x9 = some w := h
      show Go l m_X11_list (d + 1) LAYM (.inl (some (.inl q.1))) q.2 27 [some (.inr 0), some (.inl x1), some (.inl x2), some (.inl x3), some (.inl x4), some (.inl (b2i x5)), some (.inl (b2i x6)), some (.inl (b2i x7)), some (.inl x8), some (.inl x9), none, none, none] [] σ
      unfold L_X11_list_27 at h
      have hB_X11_list_170 : ∀ (x6 : Bool) (x7 : Bool) (x9 : Int) (y0 : Int) (y1 : Int), B_X11_list_170 x6 x7 x9 y0 y1 σ = some w → Go l m_X11_list (d + 1) LAYM (.inl (some (.inl q.1))) q.2 170 [some (.inr 0), some (.inl x1), some (.inl x2), some (.inl x3), some (.inl x4), some (.inl (b2i x5)), some (.inl (b2i x6)), some (.inl (b2i x7)), none, some (.inl x9), none, none, none] [.inl y0, .inl y1] σ := by
        intro x6 x7 x9 y0 y1 h
        unfold B_X11_list_170 at h
        obtain ⟨v7, e8, h⟩ := bnd_inv h
        refine go_ops ok_X11_list_170_3 (L' := [some (.inr 0), some (.inl x1), some (.inl x2), some (.inl x3), some (.inl x4), some (.inl (b2i x5)), some (.inl (b2i x6)), some (.inl (b2i x7)), some (.inl v7), some (.inl (wrap (x9 + 1))), none, none, none]) (st' := []) (σ1 := σ) (by subst e8; rfl) ?_
        refine go_goto dc_X11_list_176 (by rfl) ?_
        cases h
        exact hK
      have hB_X11_list_169 : ∀ (x6 : Bool) (x7 : Bool) (x9 : Int) (y0 : Int), B_X11_list_169 x6 x7 x9 y0 σ = some w → Go l m_X11_list (d + 1) LAYM (.inl (some (.inl q.1))) q.2 169 [some (.inr 0), some (.inl x1), some (.inl x2), some (.inl x3), some (.inl x4), some (.inl (b2i x5)), some (.inl (b2i x6)), some (.inl (b2i x7)), none, some (.inl x9), none, none, none] [.inl y0] σ := by
        intro x6 x7 x9 y0 h
        unfold B_X11_list_169 at h
        refine go_ops ok_X11_list_169_1 (L' := [some (.inr 0), some (.inl x1), some (.inl x2), some (.inl x3), some (.inl x4), some (.inl (b2i x5)), some (.inl (b2i x6)), some (.inl (b2i x7)), none, some (.inl x9), none, none, none]) (st' := [.inl 0, .inl y0]) (σ1 := σ) rfl ?_
        exact hB_X11_list_170 x6 x7 x9 0 y0 h
      have hB_X11_list_145 : ∀ (x6 : Bool) (x8 : Int) (x9 : Int) (x10 : Int) (x11 : Bool) (x12 : Bool) (y0 : Bool), B_X11_list_145 x6 x8 x9 x10 x11 x12 y0 σ = some w → Go l m_X11_list (d + 1) LAYM (.inl (some (.inl q.1))) q.2 145 [some (.inr 0), some (.inl x1), some (.inl x2), some (.inl x3), some (.inl x4), some (.inl (b2i x5)), some (.inl (b2i x6)), none, some (.inl x8), some (.inl x9), some (.inl x10), some (.inl (b2i x11)), some (.inl (b2i x12))] [.inl (b2i y0)] σ := by
        intro x6 x8 x9 x10 x11 x12 y0 h
        unfold B_X11_list_145 at h
        refine go_ops ok_X11_list_145_3 (L' := [some (.inr 0), some (.inl x1), some (.inl x2), some (.inl x3), some (.inl x4), some (.inl (b2i x5)), some (.inl (b2i x6)), some (.inl (b2i y0)), some (.inl x8), some (.inl x9), some (.inl x10), some (.inl (b2i x11)), some (.inl (b2i x12))]) (st' := [.inl (b2i x11), .inl x8]) (σ1 := σ) rfl ?_
        refine go_ifb_eq dc_X11_list_151 (by rfl) (fun hc => ?_) (fun hc => ?_)
        · replace h := (if_neg hc).symm.trans h
          refine go_wk (L' := [some (.inr 0), some (.inl x1), some (.inl x2), some (.inl x3), some (.inl x4), some (.inl (b2i x5)), some (.inl (b2i x6)), some (.inl (b2i y0)), none, some (.inl x9), none, none, none]) ⟨rfl, rfl, rfl, rfl, rfl, rfl, rfl, rfl, rfl, trivial⟩ ?_
          exact hB_X11_list_169 x6 y0 x9 x8 h
        · replace h := (if_pos hc).symm.trans h
          refine go_ops ok_X11_list_154_1 (L' := [some (.inr 0), some (.inl x1), some (.inl x2), some (.inl x3), some (.inl x4), some (.inl (b2i x5)), some (.inl (b2i x6)), some (.inl (b2i y0)), some (.inl x8), some (.inl x9), some (.inl x10), some (.inl (b2i x11)), some (.inl (b2i x12))]) (st' := [.inl (b2i x12), .inl x8]) (σ1 := σ) rfl ?_
          refine go_ifb_eq dc_X11_list_156 (by rfl) (fun hc => ?_) (fun hc => ?_)
          · replace h := (if_neg hc).symm.trans h
            refine go_wk (L' := [some (.inr 0), some (.inl x1), some (.inl x2), some (.inl x3), some (.inl x4), some (.inl (b2i x5)), some (.inl (b2i x6)), some (.inl (b2i y0)), none, some (.inl x9), none, none, none]) ⟨rfl, rfl, rfl, rfl, rfl, rfl, rfl, rfl, rfl, trivial⟩ ?_
            exact hB_X11_list_169 x6 y0 x9 x8 h
          · replace h := (if_pos hc).symm.trans h
            refine go_ops ok_X11_list_159_3 (L' := [some (.inr 0), some (.inl x1), some (.inl x2), some (.inl x3), some (.inl x4), some (.inl (b2i x5)), some (.inl (b2i x6)), some (.inl (b2i y0)), some (.inl x8), some (.inl x9), some (.inl x10), some (.inl (b2i x11)), some (.inl (b2i x12))]) (st' := [.inl x10, .inr 15, .inl x8]) (σ1 := σ) rfl ?_
            obtain ⟨v9, e10, h⟩ := bind_inv h
            refine go_rd (k := 15) dc_X11_list_165 rfl e10 ?_
            refine go_goto dc_X11_list_166 (by rfl) ?_
            refine go_wk (L' := [some (.inr 0), some (.inl x1), some (.inl x2), some (.inl x3), some (.inl x4), some (.inl (b2i x5)), some (.inl (b2i x6)), some (.inl (b2i y0)), none, some (.inl x9), none, none, none]) ⟨rfl, rfl, rfl, rfl, rfl, rfl, rfl, rfl, rfl, trivial⟩ ?_
            exact hB_X11_list_170 x6 y0 x9 v9 x8 h
      have hB_X11_list_144 : ∀ (x6 : Bool) (x8 : Int) (x9 : Int) (x10 : Int) (x11 : Bool) (x12 : Bool), B_X11_list_144 x6 x8 x9 x10 x11 x12 σ = some w → Go l m_X11_list (d + 1) LAYM (.inl (some (.inl q.1))) q.2 144 [some (.inr 0), some (.inl x1), some (.inl x2), some (.inl x3), some (.inl x4), some (.inl (b2i x5)), some (.inl (b2i x6)), none, some (.inl x8), some (.inl x9), some (.inl x10), some (.inl (b2i x11)), some (.inl (b2i x12))] [] σ := by
        intro x6 x8 x9 x10 x11 x12 h
        unfold B_X11_list_144 at h
        refine go_ops ok_X11_list_144_1 (L' := [some (.inr 0), some (.inl x1), some (.inl x2), some (.inl x3), some (.inl x4), some (.inl (b2i x5)), some (.inl (b2i x6)), none, some (.inl x8), some (.inl x9), some (.inl x10), some (.inl (b2i x11)), some (.inl (b2i x12))]) (st' := [.inl 0]) (σ1 := σ) rfl ?_
        exact hB_X11_list_145 x6 x8 x9 x10 x11 x12 false h
      have hB_X11_list_140 : ∀ (x6 : Bool) (x8 : Int) (x9 : Int) (x10 : Int) (x11 : Bool) (x12 : Bool), B_X11_list_140 x6 x8 x9 x10 x11 x12 σ = some w → Go l m_X11_list (d + 1) LAYM (.inl (some (.inl q.1))) q.2 140 [some (.inr 0), some (.inl x1), some (.inl x2), some (.inl x3), some (.inl x4), some (.inl (b2i x5)), some (.inl (b2i x6)), none, some (.inl x8), some (.inl x9), some (.inl x10), some (.inl (b2i x11)), some (.inl (b2i x12))] [] σ := by
        intro x6 x8 x9 x10 x11 x12 h
        unfold B_X11_list_140 at h
        refine go_ops ok_X11_list_140_1 (L' := [some (.inr 0), some (.inl x1), some (.inl x2), some (.inl x3), some (.inl x4), some (.inl (b2i x5)), some (.inl (b2i x6)), none, some (.inl x8), some (.inl x9), some (.inl x10), some (.inl (b2i x11)), some (.inl (b2i x12))]) (st' := [.inl 1]) (σ1 := σ) rfl ?_
        refine go_goto dc_X11_list_141 (by rfl) ?_
        exact hB_X11_list_145 x6 x8 x9 x10 x11 x12 true h
      have hB_X11_list_91 : ∀ (x7 : Bool) (x8 : Int) (x9 : Int) (x10 : Int) (x11 : Bool) (x12 : Bool) (y0 : Bool), B_X11_list_91 x7 x8 x9 x10 x11 x12 y0 σ = some w → Go l m_X11_list (d + 1) LAYM (.inl (some (.inl q.1))) q.2 91 [some (.inr 0), some (.inl x1), some (.inl x2), some (.inl x3), some (.inl x4), some (.inl (b2i x5)), none, some (.inl (b2i x7)), some (.inl x8), some (.inl x9), some (.inl x10), some (.inl (b2i x11)), some (.inl (b2i x12))] [.inl (b2i y0)] σ := by
        intro x7 x8 x9 x10 x11 x12 y0 h
        unfold B_X11_list_91 at h
        refine go_ops ok_X11_list_91_2 (L' := [some (.inr 0), some (.inl x1), some (.inl x2), some (.inl x3), some (.inl x4), some (.inl (b2i x5)), some (.inl (b2i y0)), some (.inl (b2i x7)), some (.inl x8), some (.inl x9), some (.inl x10), some (.inl (b2i x11)), some (.inl (b2i x12))]) (st' := [.inl (b2i x7)]) (σ1 := σ) rfl ?_
        refine go_ifb_eq dc_X11_list_95 (by rfl) (fun hc => ?_) (fun hc => ?_)
        · replace h := (if_neg hc).symm.trans h
          refine go_wk (L' := [some (.inr 0), some (.inl x1), some (.inl x2), some (.inl x3), some (.inl x4), some (.inl (b2i x5)), some (.inl (b2i y0)), none, some (.inl x8), some (.inl x9), some (.inl x10), some (.inl (b2i x11)), some (.inl (b2i x12))]) ⟨rfl, rfl, rfl, rfl, rfl, rfl, rfl, rfl, rfl, rfl, rfl, rfl, trivial⟩ ?_
          exact hB_X11_list_144 y0 x8 x9 x10 x11 x12 h
        · replace h := (if_pos hc).symm.trans h
          refine go_ops ok_X11_list_98_1 (L' := [some (.inr 0), some (.inl x1), some (.inl x2), some (.inl x3), some (.inl x4), some (.inl (b2i x5)), some (.inl (b2i y0)), some (.inl (b2i x7)), some (.inl x8), some (.inl x9), some (.inl x10), some (.inl (b2i x11)), some (.inl (b2i x12))]) (st' := [.inl (b2i x11)]) (σ1 := σ) rfl ?_
          refine go_ifb_eq dc_X11_list_100 (by rfl) (fun hc => ?_) (fun hc => ?_)
          · replace h := (if_neg hc).symm.trans h
            refine go_ops ok_X11_list_134_2 (L' := [some (.inr 0), some (.inl x1), some (.inl x2), some (.inl x3), some (.inl x4), some (.inl (b2i x5)), some (.inl (b2i y0)), some (.inl (b2i x7)), some (.inl x8), some (.inl x9), some (.inl x10), some (.inl (b2i x11)), some (.inl (b2i x12))]) (st' := [.inl (-1), .inl x10]) (σ1 := σ) rfl ?_
            refine go_icmp_ne dc_X11_list_137 (by rfl) (fun hc => ?_) (fun hc => ?_)
            · replace h := (if_neg hc).symm.trans h
              refine go_wk (L' := [some (.inr 0), some (.inl x1), some (.inl x2), some (.inl x3), some (.inl x4), some (.inl (b2i x5)), some (.inl (b2i y0)), none, some (.inl x8), some (.inl x9), some (.inl x10), some (.inl (b2i x11)), some (.inl (b2i x12))]) ⟨rfl, rfl, rfl, rfl, rfl, rfl, rfl, rfl, rfl, rfl, rfl, rfl, trivial⟩ ?_
              exact hB_X11_list_144 y0 x8 x9 x10 x11 x12 h
            · replace h := (if_pos hc).symm.trans h
              refine go_wk (L' := [some (.inr 0), some (.inl x1), some (.inl x2), some (.inl x3), some (.inl x4), some (.inl (b2i x5)), some (.inl (b2i y0)), none, some (.inl x8), some (.inl x9), some (.inl x10), some (.inl (b2i x11)), some (.inl (b2i x12))]) ⟨rfl, rfl, rfl, rfl, rfl, rfl, rfl, rfl, rfl, rfl, rfl, rfl, trivial⟩ ?_
              exact hB_X11_list_140 y0 x8 x9 x10 x11 x12 h
          · replace h := (if_pos hc).symm.trans h
            refine go_ops ok_X11_list_103_1 (L' := [some (.inr 0), some (.inl x1), some (.inl x2), some (.inl x3), some (.inl x4), some (.inl (b2i x5)), some (.inl (b2i y0)), some (.inl (b2i x7)), some (.inl x8), some (.inl x9), some (.inl x10), some (.inl (b2i x11)), some (.inl (b2i x12))]) (st' := [.inl (b2i x12)]) (σ1 := σ) rfl ?_
            refine go_ifb_eq dc_X11_list_105 (by rfl) (fun hc => ?_) (fun hc => ?_)
            · replace h := (if_neg hc).symm.trans h
              refine go_wk (L' := [some (.inr 0), some (.inl x1), some (.inl x2), some (.inl x3), some (.inl x4), some (.inl (b2i x5)), some (.inl (b2i y0)), none, some (.inl x8), some (.inl x9), some (.inl x10), some (.inl (b2i x11)), some (.inl (b2i x12))]) ⟨rfl, rfl, rfl, rfl, rfl, rfl, rfl, rfl, rfl, rfl, rfl, rfl, trivial⟩ ?_
              exact hB_X11_list_144 y0 x8 x9 x10 x11 x12 h
            · replace h := (if_pos hc).symm.trans h
              refine go_ops ok_X11_list_108_3 (L' := [some (.inr 0), some (.inl x1), some (.inl x2), some (.inl x3), some (.inl x4), some (.inl (b2i x5)), some (.inl (b2i y0)), some (.inl (b2i x7)), some (.inl x8), some (.inl x9), some (.inl x10), some (.inl (b2i x11)), some (.inl (b2i x12))]) (st' := [.inl 4, .inl x10, .inr 0]) (σ1 := σ) rfl ?_
              obtain ⟨q11, e12, h⟩ := bind_inv h
              refine go_V (M1 := m_X11_suits) (as := [.inl x10, .inl 4]) (st := []) (k := 0) (ci := 11) dc_X11_list_112 ln_11_215 im_X11_suits (by decide) rfl rfl mk_X11_suits rfl (Nat.le_of_ble_eq_true rfl) (Nat.le_refl _) (v := (some (.inl (b2i q11)))) (σ1 := σ) (lk_X11_suits l d (by omega) x10 4 σ q11 e12) _ rfl ?_
              refine go_ifb_eq dc_X11_list_115 (by rfl) (fun hc => ?_) (fun hc => ?_)
              · replace h := (if_neg hc).symm.trans h
                refine go_wk (L' := [some (.inr 0), some (.inl x1), some (.inl x2), some (.inl x3), some (.inl x4), some (.inl (b2i x5)), some (.inl (b2i y0)), none, some (.inl x8), some (.inl x9), some (.inl x10), some (.inl (b2i x11)), some (.inl (b2i x12))]) ⟨rfl, rfl, rfl, rfl, rfl, rfl, rfl, rfl, rfl, rfl, rfl, rfl, trivial⟩ ?_
                exact hB_X11_list_144 y0 x8 x9 x10 x11 x12 h
              · replace h := (if_pos hc).symm.trans h
                refine go_ops ok_X11_list_118_3 (L' := [some (.inr 0), some (.inl x1), some (.inl x2), some (.inl x3), some (.inl x4), some (.inl (b2i x5)), some (.inl (b2i y0)), some (.inl (b2i x7)), some (.inl x8), some (.inl x9), some (.inl x10), some (.inl (b2i x11)), some (.inl (b2i x12))]) (st' := [.inl x10, .inr 15]) (σ1 := σ) rfl ?_
                obtain ⟨v13, e14, h⟩ := bind_inv h
                refine go_rd (k := 15) dc_X11_list_124 rfl e14 ?_
                refine go_ops ok_X11_list_125_2 (L' := [some (.inr 0), some (.inl x1), some (.inl x2), some (.inl x3), some (.inl x4), some (.inl (b2i x5)), some (.inl (b2i y0)), some (.inl (b2i x7)), some (.inl x8), some (.inl x9), some (.inl x10), some (.inl (b2i x11)), some (.inl (b2i x12))]) (st' := [.inl (jand v13 x8)]) (σ1 := σ) rfl ?_
                refine go_if_ne dc_X11_list_128 (by rfl) (fun hc => ?_) (fun hc => ?_)
                · replace h := (if_neg hc).symm.trans h
                  refine go_wk (L' := [some (.inr 0), some (.inl x1), some (.inl x2), some (.inl x3), some (.inl x4), some (.inl (b2i x5)), some (.inl (b2i y0)), none, some (.inl x8), some (.inl x9), some (.inl x10), some (.inl (b2i x11)), some (.inl (b2i x12))]) ⟨rfl, rfl, rfl, rfl, rfl, rfl, rfl, rfl, rfl, rfl, rfl, rfl, trivial⟩ ?_
                  exact hB_X11_list_144 y0 x8 x9 x10 x11 x12 h
                · replace h := (if_pos hc).symm.trans h
                  refine go_goto dc_X11_list_131 (by rfl) ?_
                  refine go_wk (L' := [some (.inr 0), some (.inl x1), some (.inl x2), some (.inl x3), some (.inl x4), some (.inl (b2i x5)), some (.inl (b2i y0)), none, some (.inl x8), some (.inl x9), some (.inl x10), some (.inl (b2i x11)), some (.inl (b2i x12))]) ⟨rfl, rfl, rfl, rfl, rfl, rfl, rfl, rfl, rfl, rfl, rfl, rfl, trivial⟩ ?_
                  exact hB_X11_list_140 y0 x8 x9 x10 x11 x12 h
      have hB_X11_list_90 : ∀ (x7 : Bool) (x8 : Int) (x9 : Int) (x10 : Int) (x11 : Bool) (x12 : Bool), B_X11_list_90 x7 x8 x9 x10 x11 x12 σ = some w → Go l m_X11_list (d + 1) LAYM (.inl (some (.inl q.1))) q.2 90 [some (.inr 0), some (.inl x1), some (.inl x2), some (.inl x3), some (.inl x4), some (.inl (b2i x5)), none, some (.inl (b2i x7)), some (.inl x8), some (.inl x9), some (.inl x10), some (.inl (b2i x11)), some (.inl (b2i x12))] [] σ := by
        intro x7 x8 x9 x10 x11 x12 h
        unfold B_X11_list_90 at h
        refine go_ops ok_X11_list_90_1 (L' := [some (.inr 0), some (.inl x1), some (.inl x2), some (.inl x3), some (.inl x4), some (.inl (b2i x5)), none, some (.inl (b2i x7)), some (.inl x8), some (.inl x9), some (.inl x10), some (.inl (b2i x11)), some (.inl (b2i x12))]) (st' := [.inl 0]) (σ1 := σ) rfl ?_
        exact hB_X11_list_91 x7 x8 x9 x10 x11 x12 false h
      have hB_X11_list_86 : ∀ (x7 : Bool) (x8 : Int) (x9 : Int) (x10 : Int) (x11 : Bool) (x12 : Bool), B_X11_list_86 x7 x8 x9 x10 x11 x12 σ = some w → Go l m_X11_list (d + 1) LAYM (.inl (some (.inl q.1))) q.2 86 [some (.inr 0), some (.inl x1), some (.inl x2), some (.inl x3), some (.inl x4), some (.inl (b2i x5)), none, some (.inl (b2i x7)), some (.inl x8), some (.inl x9), some (.inl x10), some (.inl (b2i x11)), some (.inl (b2i x12))] [] σ := by
        intro x7 x8 x9 x10 x11 x12 h
        unfold B_X11_list_86 at h
        refine go_ops ok_X11_list_86_1 (L' := [some (.inr 0), some (.inl x1), some (.inl x2), some (.inl x3), some (.inl x4), some (.inl (b2i x5)), none, some (.inl (b2i x7)), some (.inl x8), some (.inl x9), some (.inl x10), some (.inl (b2i x11)), some (.inl (b2i x12))]) (st' := [.inl 1]) (σ1 := σ) rfl ?_
        refine go_goto dc_X11_list_87 (by rfl) ?_
        exact hB_X11_list_91 x7 x8 x9 x10 x11 x12 true h
      have hB_X11_list_61 : ∀ (x6 : Bool) (x7 : Bool) (x8 : Int) (x9 : Int) (x10 : Int) (y0 : Bool), B_X11_list_61 x6 x7 x8 x9 x10 y0 σ = some w → Go l m_X11_list (d + 1) LAYM (.inl (some (.inl q.1))) q.2 61 [some (.inr 0), some (.inl x1), some (.inl x2), some (.inl x3), some (.inl x4), some (.inl (b2i x5)), some (.inl (b2i x6)), some (.inl (b2i x7)), some (.inl x8), some (.inl x9), some (.inl x10), none, none] [.inl (b2i y0)] σ := by
        intro x6 x7 x8 x9 x10 y0 h
        unfold B_X11_list_61 at h
        refine go_ops ok_X11_list_61_3 (L' := [some (.inr 0), some (.inl x1), some (.inl x2), some (.inl x3), some (.inl x4), some (.inl (b2i x5)), some (.inl (b2i x6)), some (.inl (b2i x7)), some (.inl x8), some (.inl x9), some (.inl x10), some (.inl (b2i y0)), none]) (st' := [.inl x10, .inr 0]) (σ1 := σ) rfl ?_
        refine go_V (M1 := m_X11_isPattern) (as := [.inl x10]) (st := []) (k := 0) (ci := 11) dc_X11_list_66 ln_11_212 im_X11_isPattern (by decide) rfl rfl mk_X11_isPattern rfl (Nat.le_of_ble_eq_true rfl) (Nat.le_refl _) (v := (some (.inl (b2i (F_X11_isPattern x10 σ))))) (σ1 := σ) (lk_X11_isPattern l d (by omega) x10 σ _ rfl) _ rfl ?_
        obtain ⟨v5, e6, h⟩ := bnd_inv h
        refine go_ops ok_X11_list_69_2 (L' := [some (.inr 0), some (.inl x1), some (.inl x2), some (.inl x3), some (.inl x4), some (.inl (b2i x5)), some (.inl (b2i x6)), some (.inl (b2i x7)), some (.inl x8), some (.inl x9), some (.inl x10), some (.inl (b2i y0)), some (.inl (b2i v5))]) (st' := [.inl (b2i x6)]) (σ1 := σ) (by subst e6; rfl) ?_
        refine go_ifb_eq dc_X11_list_73 (by rfl) (fun hc => ?_) (fun hc => ?_)
        · replace h := (if_neg hc).symm.trans h
          refine go_wk (L' := [some (.inr 0), some (.inl x1), some (.inl x2), some (.inl x3), some (.inl x4), some (.inl (b2i x5)), none, some (.inl (b2i x7)), some (.inl x8), some (.inl x9), some (.inl x10), some (.inl (b2i y0)), some (.inl (b2i v5))]) ⟨rfl, rfl, rfl, rfl, rfl, rfl, rfl, rfl, rfl, rfl, rfl, rfl, trivial⟩ ?_
          exact hB_X11_list_90 x7 x8 x9 x10 y0 v5 h
        · replace h := (if_pos hc).symm.trans h
          refine go_ops ok_X11_list_76_1 (L' := [some (.inr 0), some (.inl x1), some (.inl x2), some (.inl x3), some (.inl x4), some (.inl (b2i x5)), some (.inl (b2i x6)), some (.inl (b2i x7)), some (.inl x8), some (.inl x9), some (.inl x10), some (.inl (b2i y0)), some (.inl (b2i v5))]) (st' := [.inl (b2i y0)]) (σ1 := σ) rfl ?_
          refine go_ifb_eq dc_X11_list_78 (by rfl) (fun hc => ?_) (fun hc => ?_)
          · replace h := (if_neg hc).symm.trans h
            refine go_wk (L' := [some (.inr 0), some (.inl x1), some (.inl x2), some (.inl x3), some (.inl x4), some (.inl (b2i x5)), none, some (.inl (b2i x7)), some (.inl x8), some (.inl x9), some (.inl x10), some (.inl (b2i y0)), some (.inl (b2i v5))]) ⟨rfl, rfl, rfl, rfl, rfl, rfl, rfl, rfl, rfl, rfl, rfl, rfl, trivial⟩ ?_
            exact hB_X11_list_86 x7 x8 x9 x10 y0 v5 h
          · replace h := (if_pos hc).symm.trans h
            refine go_ops ok_X11_list_81_1 (L' := [some (.inr 0), some (.inl x1), some (.inl x2), some (.inl x3), some (.inl x4), some (.inl (b2i x5)), some (.inl (b2i x6)), some (.inl (b2i x7)), some (.inl x8), some (.inl x9), some (.inl x10), some (.inl (b2i y0)), some (.inl (b2i v5))]) (st' := [.inl (b2i v5)]) (σ1 := σ) rfl ?_
            refine go_ifb_eq dc_X11_list_83 (by rfl) (fun hc => ?_) (fun hc => ?_)
            · replace h := (if_neg hc).symm.trans h
              refine go_wk (L' := [some (.inr 0), some (.inl x1), some (.inl x2), some (.inl x3), some (.inl x4), some (.inl (b2i x5)), none, some (.inl (b2i x7)), some (.inl x8), some (.inl x9), some (.inl x10), some (.inl (b2i y0)), some (.inl (b2i v5))]) ⟨rfl, rfl, rfl, rfl, rfl, rfl, rfl, rfl, rfl, rfl, rfl, rfl, trivial⟩ ?_
              exact hB_X11_list_90 x7 x8 x9 x10 y0 v5 h
            · replace h := (if_pos hc).symm.trans h
              refine go_wk (L' := [some (.inr 0), some (.inl x1), some (.inl x2), some (.inl x3), some (.inl x4), some (.inl (b2i x5)), none, some (.inl (b2i x7)), some (.inl x8), some (.inl x9), some (.inl x10), some (.inl (b2i y0)), some (.inl (b2i v5))]) ⟨rfl, rfl, rfl, rfl, rfl, rfl, rfl, rfl, rfl, rfl, rfl, rfl, trivial⟩ ?_
              exact hB_X11_list_86 x7 x8 x9 x10 y0 v5 h
      have hB_X11_list_60 : ∀ (x6 : Bool) (x7 : Bool) (x8 : Int) (x9 : Int) (x10 : Int), B_X11_list_60 x6 x7 x8 x9 x10 σ = some w → Go l m_X11_list (d + 1) LAYM (.inl (some (.inl q.1))) q.2 60 [some (.inr 0), some (.inl x1), some (.inl x2), some (.inl x3), some (.inl x4), some (.inl (b2i x5)), some (.inl (b2i x6)), some (.inl (b2i x7)), some (.inl x8), some (.inl x9), some (.inl x10), none, none] [] σ := by
        intro x6 x7 x8 x9 x10 h
        unfold B_X11_list_60 at h
        refine go_ops ok_X11_list_60_1 (L' := [some (.inr 0), some (.inl x1), some (.inl x2), some (.inl x3), some (.inl x4), some (.inl (b2i x5)), some (.inl (b2i x6)), some (.inl (b2i x7)), some (.inl x8), some (.inl x9), some (.inl x10), none, none]) (st' := [.inl 0]) (σ1 := σ) rfl ?_
        exact hB_X11_list_61 x6 x7 x8 x9 x10 false h
      have hB_X11_list_43 : ∀ (x6 : Bool) (x7 : Bool) (x8 : Int) (x9 : Int) (y0 : Int), B_X11_list_43 x1 x5 x6 x7 x8 x9 y0 σ = some w → Go l m_X11_list (d + 1) LAYM (.inl (some (.inl q.1))) q.2 43 [some (.inr 0), some (.inl x1), some (.inl x2), some (.inl x3), some (.inl x4), some (.inl (b2i x5)), some (.inl (b2i x6)), some (.inl (b2i x7)), some (.inl x8), some (.inl x9), none, none, none] [.inl y0] σ := by
        intro x6 x7 x8 x9 y0 h
        unfold B_X11_list_43 at h
        refine go_ops ok_X11_list_43_2 (L' := [some (.inr 0), some (.inl x1), some (.inl x2), some (.inl x3), some (.inl x4), some (.inl (b2i x5)), some (.inl (b2i x6)), some (.inl (b2i x7)), some (.inl x8), some (.inl x9), some (.inl y0), none, none]) (st' := [.inl (b2i x5)]) (σ1 := σ) rfl ?_
        refine go_ifb_eq dc_X11_list_47 (by rfl) (fun hc => ?_) (fun hc => ?_)
        · replace h := (if_neg hc).symm.trans h
          exact hB_X11_list_60 x6 x7 x8 x9 y0 h
        · replace h := (if_pos hc).symm.trans h
          refine go_ops ok_X11_list_50_2 (L' := [some (.inr 0), some (.inl x1), some (.inl x2), some (.inl x3), some (.inl x4), some (.inl (b2i x5)), some (.inl (b2i x6)), some (.inl (b2i x7)), some (.inl x8), some (.inl x9), some (.inl y0), none, none]) (st' := [.inl x1, .inl x9]) (σ1 := σ) rfl ?_
          refine go_icmp_ge dc_X11_list_53 (by rfl) (fun hc => ?_) (fun hc => ?_)
          · replace h := (if_pos hc).symm.trans h
            exact hB_X11_list_60 x6 x7 x8 x9 y0 h
          · replace h := (if_neg hc).symm.trans h
            refine go_ops ok_X11_list_56_1 (L' := [some (.inr 0), some (.inl x1), some (.inl x2), some (.inl x3), some (.inl x4), some (.inl (b2i x5)), some (.inl (b2i x6)), some (.inl (b2i x7)), some (.inl x8), some (.inl x9), some (.inl y0), none, none]) (st' := [.inl 1]) (σ1 := σ) rfl ?_
            refine go_goto dc_X11_list_57 (by rfl) ?_
            exact hB_X11_list_61 x6 x7 x8 x9 y0 true h
      refine go_ops ok_X11_list_27_2 (L' := [some (.inr 0), some (.inl x1), some (.inl x2), some (.inl x3), some (.inl x4), some (.inl (b2i x5)), some (.inl (b2i x6)), some (.inl (b2i x7)), some (.inl x8), some (.inl x9), none, none, none]) (st' := [.inl 2, .inl x9]) (σ1 := σ) rfl ?_
      refine go_icmp_ge dc_X11_list_30 (by rfl) (fun hc => ?_) (fun hc => ?_)
      · replace h := (if_pos hc).symm.trans h
        cases h
        refine go_wk (L' := [some (.inr 0), some (.inl x1), some (.inl x2), some (.inl x3), some (.inl x4), none, some (.inl (b2i x6)), some (.inl (b2i x7)), none, none, none, none, none]) ⟨rfl, rfl, rfl, rfl, rfl, rfl, rfl, trivial⟩ ?_
        exact hK
      · replace h := (if_neg hc).symm.trans h
        refine go_ops ok_X11_list_33_1 (L' := [some (.inr 0), some (.inl x1), some (.inl x2), some (.inl x3), some (.inl x4), some (.inl (b2i x5)), some (.inl (b2i x6)), some (.inl (b2i x7)), some (.inl x8), some (.inl x9), none, none, none]) (st' := [.inl x9]) (σ1 := σ) rfl ?_
        refine go_if_ne dc_X11_list_35 (by rfl) (fun hc => ?_) (fun hc => ?_)
        · replace h := (if_neg hc).symm.trans h
          refine go_ops ok_X11_list_42_1 (L' := [some (.inr 0), some (.inl x1), some (.inl x2), some (.inl x3), some (.inl x4), some (.inl (b2i x5)), some (.inl (b2i x6)), some (.inl (b2i x7)), some (.inl x8), some (.inl x9), none, none, none]) (st' := [.inl x3]) (σ1 := σ) rfl ?_
          exact hB_X11_list_43 x6 x7 x8 x9 x3 h
        · replace h := (if_pos hc).symm.trans h
          refine go_ops ok_X11_list_38_1 (L' := [some (.inr 0), some (.inl x1), some (.inl x2), some (.inl x3), some (.inl x4), some (.inl (b2i x5)), some (.inl (b2i x6)), some (.inl (b2i x7)), some (.inl x8), some (.inl x9), none, none, none]) (st' := [.inl x2]) (σ1 := σ) rfl ?_
          refine go_goto dc_X11_list_39 (by rfl) ?_
          exact hB_X11_list_43 x6 x7 x8 x9 x2 h
    have hB_X11_list_250 : ∀ (x1 : Int) (x2 : Int) (x3 : Int) (x4 : Int) (y0 : Int) (σ : Sg), B_X11_list_250 x1 x2 x3 x4 y0 σ = some q → Go l m_X11_list (d + 1) LAYM (.inl (some (.inl q.1))) q.2 250 [some (.inr 0), some (.inl x1), some (.inl x2), some (.inl x3), some (.inl x4), none, none, none, none, none, none, none, none] [.inl y0, .inr 0] σ := by
      intro x1 x2 x3 x4 y0 σ h
      unfold B_X11_list_250 at h
      obtain ⟨q17, e18, h⟩ := bnd_inv h
      refine go_V (M1 := m_X11_refused) (as := [.inl y0]) (st := []) (k := 0) (ci := 11) dc_X11_list_250 ln_11_183 im_X11_refused (by decide) rfl rfl mk_X11_refused rfl (Nat.le_of_ble_eq_true rfl) (Nat.le_refl _) (v := (some (.inl (b2i q17.1)))) (σ1 := q17.2) (lk_X11_refused l d (by omega) y0 σ q17 e18.symm) _ rfl ?_
      refine go_ifb_eq dc_X11_list_253 (by rfl) (fun hc => ?_) (fun hc => ?_)
      · replace h := (if_neg hc).symm.trans h
        refine go_ops ok_X11_list_260_8 (L' := [some (.inr 0), some (.inl x1), some (.inl x2), some (.inl x3), some (.inl x4), none, none, none, none, none, none, none, none]) (st' := [.inl 5, .inl (-1), .inl x3, .inl x2, .inl x4, .inl x1, .inl 6, .inr 0]) (σ1 := q17.2) rfl ?_
        obtain ⟨q19, e20, h⟩ := bind_inv h
        refine go_V (M1 := m_X11_pattern) (as := [.inl 6, .inl x1, .inl x4, .inl x2, .inl x3, .inl (-1), .inl 5]) (st := []) (k := 0) (ci := 11) dc_X11_list_270 ln_11_208 im_X11_pattern (by decide) rfl rfl mk_X11_pattern rfl (Nat.le_of_ble_eq_true rfl) (Nat.le_refl _) (v := (some (.inl q19.1))) (σ1 := q19.2) (lk_X11_pattern l d (by omega) 6 x1 x4 x2 x3 (-1) 5 q17.2 q19 e20) _ rfl ?_
        have h9 := Option.some.inj h
        subst h9
        exact go_iret dc_X11_list_273 rfl
      · replace h := (if_pos hc).symm.trans h
        refine go_ops ok_X11_list_256_1 (L' := [some (.inr 0), some (.inl x1), some (.inl x2), some (.inl x3), some (.inl x4), none, none, none, none, none, none, none, none]) (st' := [.inl 0]) (σ1 := q17.2) rfl ?_
        refine go_goto dc_X11_list_257 (by rfl) ?_
        have h9 := Option.some.inj h
        subst h9
        exact go_iret dc_X11_list_273 rfl
    have hB_X11_list_217 : ∀ (x1 : Int) (x2 : Int) (x3 : Int) (x4 : Int) (x6 : Bool) (y0 : Bool) (σ : Sg), B_X11_list_217 x1 x2 x3 x4 x6 y0 σ = some q → Go l m_X11_list (d + 1) LAYM (.inl (some (.inl q.1))) q.2 217 [some (.inr 0), some (.inl x1), some (.inl x2), some (.inl x3), some (.inl x4), none, some (.inl (b2i x6)), none, none, none, none, none, none] [.inl (b2i y0)] σ := by
      intro x1 x2 x3 x4 x6 y0 σ h
      unfold B_X11_list_217 at h
      refine go_ops ok_X11_list_217_3 (L' := [some (.inr 0), some (.inl x1), some (.inl x2), some (.inl x3), some (.inl x4), none, some (.inl (b2i x6)), some (.inl (b2i y0)), none, none, none, none, none]) (st' := [.inl (b2i x6), .inr 0]) (σ1 := σ) rfl ?_
      refine go_ifb_ne dc_X11_list_222 (by rfl) (fun hc => ?_) (fun hc => ?_)
      · replace h := (if_pos hc).symm.trans h
        refine go_ops ok_X11_list_229_1 (L' := [some (.inr 0), some (.inl x1), some (.inl x2), some (.inl x3), some (.inl x4), none, some (.inl (b2i x6)), some (.inl (b2i y0)), none, none, none, none, none]) (st' := [.inl (b2i y0), .inr 0]) (σ1 := σ) rfl ?_
        refine go_ifb_ne dc_X11_list_231 (by rfl) (fun hc => ?_) (fun hc => ?_)
        · replace h := (if_pos hc).symm.trans h
          refine go_ops ok_X11_list_238_1 (L' := [some (.inr 0), some (.inl x1), some (.inl x2), some (.inl x3), some (.inl x4), none, some (.inl (b2i x6)), some (.inl (b2i y0)), none, none, none, none, none]) (st' := [.inr 0, .inr 0]) (σ1 := σ) rfl ?_
          refine go_V (M1 := m_X11_isFull) (as := []) (st := [.inr 0]) (k := 0) (ci := 11) dc_X11_list_239 ln_11_204 im_X11_isFull (by decide) rfl rfl mk_X11_isFull rfl (Nat.le_of_ble_eq_true rfl) (Nat.le_refl _) (v := (some (.inl (b2i (F_X11_isFull σ))))) (σ1 := σ) (lk_X11_isFull l d (by omega) σ _ rfl) _ rfl ?_
          refine go_ifb_eq dc_X11_list_242 (by rfl) (fun hc => ?_) (fun hc => ?_)
          · replace h := (if_neg hc).symm.trans h
            refine go_ops ok_X11_list_249_1 (L' := [some (.inr 0), some (.inl x1), some (.inl x2), some (.inl x3), some (.inl x4), none, some (.inl (b2i x6)), some (.inl (b2i y0)), none, none, none, none, none]) (st' := [.inl 0, .inr 0]) (σ1 := σ) rfl ?_
            refine go_wk (L' := [some (.inr 0), some (.inl x1), some (.inl x2), some (.inl x3), some (.inl x4), none, none, none, none, none, none, none, none]) ⟨rfl, rfl, rfl, rfl, rfl, trivial⟩ ?_
            exact hB_X11_list_250 x1 x2 x3 x4 0 σ h
          · replace h := (if_pos hc).symm.trans h
            refine go_ops ok_X11_list_245_1 (L' := [some (.inr 0), some (.inl x1), some (.inl x2), some (.inl x3), some (.inl x4), none, some (.inl (b2i x6)), some (.inl (b2i y0)), none, none, none, none, none]) (st' := [.inl 3, .inr 0]) (σ1 := σ) rfl ?_
            refine go_goto dc_X11_list_246 (by rfl) ?_
            refine go_wk (L' := [some (.inr 0), some (.inl x1), some (.inl x2), some (.inl x3), some (.inl x4), none, none, none, none, none, none, none, none]) ⟨rfl, rfl, rfl, rfl, rfl, trivial⟩ ?_
            exact hB_X11_list_250 x1 x2 x3 x4 3 σ h
        · replace h := (if_neg hc).symm.trans h
          refine go_ops ok_X11_list_234_1 (L' := [some (.inr 0), some (.inl x1), some (.inl x2), some (.inl x3), some (.inl x4), none, some (.inl (b2i x6)), some (.inl (b2i y0)), none, none, none, none, none]) (st' := [.inl 2, .inr 0]) (σ1 := σ) rfl ?_
          refine go_goto dc_X11_list_235 (by rfl) ?_
          refine go_wk (L' := [some (.inr 0), some (.inl x1), some (.inl x2), some (.inl x3), some (.inl x4), none, none, none, none, none, none, none, none]) ⟨rfl, rfl, rfl, rfl, rfl, trivial⟩ ?_
          exact hB_X11_list_250 x1 x2 x3 x4 2 σ h
      · replace h := (if_neg hc).symm.trans h
        refine go_ops ok_X11_list_225_1 (L' := [some (.inr 0), some (.inl x1), some (.inl x2), some (.inl x3), some (.inl x4), none, some (.inl (b2i x6)), some (.inl (b2i y0)), none, none, none, none, none]) (st' := [.inl 1, .inr 0]) (σ1 := σ) rfl ?_
        refine go_goto dc_X11_list_226 (by rfl) ?_
        refine go_wk (L' := [some (.inr 0), some (.inl x1), some (.inl x2), some (.inl x3), some (.inl x4), none, none, none, none, none, none, none, none]) ⟨rfl, rfl, rfl, rfl, rfl, trivial⟩ ?_
        exact hB_X11_list_250 x1 x2 x3 x4 1 σ h
    have hB_X11_list_216 : ∀ (x1 : Int) (x2 : Int) (x3 : Int) (x4 : Int) (x6 : Bool) (σ : Sg), B_X11_list_216 x1 x2 x3 x4 x6 σ = some q → Go l m_X11_list (d + 1) LAYM (.inl (some (.inl q.1))) q.2 216 [some (.inr 0), some (.inl x1), some (.inl x2), some (.inl x3), some (.inl x4), none, some (.inl (b2i x6)), none, none, none, none, none, none] [] σ := by
      intro x1 x2 x3 x4 x6 σ h
      unfold B_X11_list_216 at h
      refine go_ops ok_X11_list_216_1 (L' := [some (.inr 0), some (.inl x1), some (.inl x2), some (.inl x3), some (.inl x4), none, some (.inl (b2i x6)), none, none, none, none, none, none]) (st' := [.inl 0]) (σ1 := σ) rfl ?_
      exact hB_X11_list_217 x1 x2 x3 x4 x6 false σ h
    refine go_ops ok_X11_list_0_3 (L' := [some (.inr 0), some (.inl a1), some (.inl a2), some (.inl a3), some (.inl a4), none, none, none, none, none, none, none, none]) (st' := [.inl 2, .inl 0, .inl a1]) (σ1 := σ) rfl ?_
    refine go_S (M1 := m_X11_in) (as := [.inl a1, .inl 0, .inl 2]) (st := []) dc_X11_list_3 ln_11_171 sm_X11_in mk_X11_in rfl (Nat.le_of_ble_eq_true rfl) (Nat.le_refl _) (v := (some (.inl (b2i (F_X11_in a1 0 2))))) (σ1 := σ) (lk_X11_in l d (by omega) a1 0 2 σ _ rfl) _ rfl ?_
    obtain ⟨v1, e2, h⟩ := bnd_inv h
    refine go_ops ok_X11_list_6_4 (L' := [some (.inr 0), some (.inl a1), some (.inl a2), some (.inl a3), some (.inl a4), some (.inl (b2i v1)), none, none, none, none, none, none, none]) (st' := [.inl 2, .inl 0, .inl a4]) (σ1 := σ) (by subst e2; rfl) ?_
    refine go_S (M1 := m_X11_in) (as := [.inl a4, .inl 0, .inl 2]) (st := []) dc_X11_list_12 ln_11_171 sm_X11_in mk_X11_in rfl (Nat.le_of_ble_eq_true rfl) (Nat.le_refl _) (v := (some (.inl (b2i (F_X11_in a4 0 2))))) (σ1 := σ) (lk_X11_in l d (by omega) a4 0 2 σ _ rfl) _ rfl ?_
    obtain ⟨v3, e4, h⟩ := bnd_inv h
    refine go_ops ok_X11_list_15_7 (L' := [some (.inr 0), some (.inl a1), some (.inl a2), some (.inl a3), some (.inl a4), some (.inl (b2i v1)), some (.inl (b2i v3)), some (.inl (b2i v1)), some (.inl 0), some (.inl 0), none, none, none]) (st' := []) (σ1 := σ) (by subst e4; rfl) ?_
    obtain ⟨y15, e16, h⟩ := bind_inv h
    refine hL_X11_list_27 a1 a2 a3 a4 v1 σ 3 (v3, v1, 0, 0) y15 e16 ?_
    show Go l m_X11_list (d + 1) LAYM (.inl (some (.inl q.1))) q.2 179 [some (.inr 0), some (.inl a1), some (.inl a2), some (.inl a3), some (.inl a4), none, some (.inl (b2i y15.1)), some (.inl (b2i y15.2)), none, none, none, none, none] [] σ
    refine go_ops ok_X11_list_179_1 (L' := [some (.inr 0), some (.inl a1), some (.inl a2), some (.inl a3), some (.inl a4), none, some (.inl (b2i y15.1)), some (.inl (b2i y15.2)), none, none, none, none, none]) (st' := [.inl (b2i y15.1)]) (σ1 := σ) rfl ?_
    refine go_ifb_eq dc_X11_list_181 (by rfl) (fun hc => ?_) (fun hc => ?_)
    · replace h := (if_neg hc).symm.trans h
      refine go_wk (L' := [some (.inr 0), some (.inl a1), some (.inl a2), some (.inl a3), some (.inl a4), none, some (.inl (b2i y15.1)), none, none, none, none, none, none]) ⟨rfl, rfl, rfl, rfl, rfl, rfl, trivial⟩ ?_
      exact hB_X11_list_216 a1 a2 a3 a4 y15.1 σ h
    · replace h := (if_pos hc).symm.trans h
      refine go_ops ok_X11_list_184_1 (L' := [some (.inr 0), some (.inl a1), some (.inl a2), some (.inl a3), some (.inl a4), none, some (.inl (b2i y15.1)), some (.inl (b2i y15.2)), none, none, none, none, none]) (st' := [.inl (b2i y15.2)]) (σ1 := σ) rfl ?_
      refine go_ifb_eq dc_X11_list_186 (by rfl) (fun hc => ?_) (fun hc => ?_)
      · replace h := (if_neg hc).symm.trans h
        refine go_wk (L' := [some (.inr 0), some (.inl a1), some (.inl a2), some (.inl a3), some (.inl a4), none, some (.inl (b2i y15.1)), none, none, none, none, none, none]) ⟨rfl, rfl, rfl, rfl, rfl, rfl, trivial⟩ ?_
        exact hB_X11_list_216 a1 a2 a3 a4 y15.1 σ h
      · replace h := (if_pos hc).symm.trans h
        refine go_ops ok_X11_list_189_4 (L' := [some (.inr 0), some (.inl a1), some (.inl a2), some (.inl a3), some (.inl a4), none, some (.inl (b2i y15.1)), some (.inl (b2i y15.2)), none, none, none, none, none]) (st' := [.inl (-1), .inl a3, .inl a2, .inr 0]) (σ1 := σ) rfl ?_
        obtain ⟨q21, e22, h⟩ := bind_inv h
        refine go_V (M1 := m_X11_depthOf) (as := [.inl a2, .inl a3, .inl (-1)]) (st := []) (k := 0) (ci := 11) dc_X11_list_193 ln_11_218 im_X11_depthOf (by decide) rfl rfl mk_X11_depthOf rfl (Nat.le_of_ble_eq_true rfl) (Nat.le_refl _) (v := (some (.inl q21))) (σ1 := σ) (lk_X11_depthOf l d (by omega) a2 a3 (-1) σ q21 e22) _ rfl ?_
        refine go_ops ok_X11_list_196_1 (L' := [some (.inr 0), some (.inl a1), some (.inl a2), some (.inl a3), some (.inl a4), none, some (.inl (b2i y15.1)), some (.inl (b2i y15.2)), none, none, none, none, none]) (st' := [.inl 4, .inl q21]) (σ1 := σ) rfl ?_
        refine go_icmp_gt dc_X11_list_197 (by rfl) (fun hc => ?_) (fun hc => ?_)
        · replace h := (if_pos hc).symm.trans h
          refine go_wk (L' := [some (.inr 0), some (.inl a1), some (.inl a2), some (.inl a3), some (.inl a4), none, some (.inl (b2i y15.1)), none, none, none, none, none, none]) ⟨rfl, rfl, rfl, rfl, rfl, rfl, trivial⟩ ?_
          exact hB_X11_list_216 a1 a2 a3 a4 y15.1 σ h
        · replace h := (if_neg hc).symm.trans h
          refine go_ops ok_X11_list_200_4 (L' := [some (.inr 0), some (.inl a1), some (.inl a2), some (.inl a3), some (.inl a4), none, some (.inl (b2i y15.1)), some (.inl (b2i y15.2)), none, none, none, none, none]) (st' := [.inl (-1), .inl a3, .inl a2, .inr 0]) (σ1 := σ) rfl ?_
          obtain ⟨q23, e24, h⟩ := bind_inv h
          refine go_V (M1 := m_X11_sizeOf) (as := [.inl a2, .inl a3, .inl (-1)]) (st := []) (k := 0) (ci := 11) dc_X11_list_204 ln_11_200 im_X11_sizeOf (by decide) rfl rfl mk_X11_sizeOf rfl (Nat.le_of_ble_eq_true rfl) (Nat.le_refl _) (v := (some (.inl q23))) (σ1 := σ) (lk_X11_sizeOf l d (by omega) a2 a3 (-1) σ q23 e24) _ rfl ?_
          refine go_ops ok_X11_list_207_1 (L' := [some (.inr 0), some (.inl a1), some (.inl a2), some (.inl a3), some (.inl a4), none, some (.inl (b2i y15.1)), some (.inl (b2i y15.2)), none, none, none, none, none]) (st' := [.inl 40, .inl q23]) (σ1 := σ) rfl ?_
          refine go_icmp_gt dc_X11_list_209 (by rfl) (fun hc => ?_) (fun hc => ?_)
          · replace h := (if_pos hc).symm.trans h
            refine go_wk (L' := [some (.inr 0), some (.inl a1), some (.inl a2), some (.inl a3), some (.inl a4), none, some (.inl (b2i y15.1)), none, none, none, none, none, none]) ⟨rfl, rfl, rfl, rfl, rfl, rfl, trivial⟩ ?_
            exact hB_X11_list_216 a1 a2 a3 a4 y15.1 σ h
          · replace h := (if_neg hc).symm.trans h
            refine go_ops ok_X11_list_212_1 (L' := [some (.inr 0), some (.inl a1), some (.inl a2), some (.inl a3), some (.inl a4), none, some (.inl (b2i y15.1)), some (.inl (b2i y15.2)), none, none, none, none, none]) (st' := [.inl 1]) (σ1 := σ) rfl ?_
            refine go_goto dc_X11_list_213 (by rfl) ?_
            refine go_wk (L' := [some (.inr 0), some (.inl a1), some (.inl a2), some (.inl a3), some (.inl a4), none, some (.inl (b2i y15.1)), none, none, none, none, none, none]) ⟨rfl, rfl, rfl, rfl, rfl, rfl, trivial⟩ ?_
            exact hB_X11_list_217 a1 a2 a3 a4 y15.1 true σ h
  have hf := go_ct (as := [.inr 0, .inl a1, .inl a2, .inl a3, .inl a4]) mk_X11_list (by rfl) (Nat.le_of_ble_eq_true rfl) key
  exact hf
theorem dc_X11_setView_5 : decode m_X11_setView.2.2.1 5 = .ok (.invokestatic 171, 3) := by decide +kernel
theorem dc_X11_setView_8 : decode m_X11_setView.2.2.1 8 = .ok (.ifCond .eq 41, 3) := by decide +kernel
theorem dc_X11_setView_16 : decode m_X11_setView.2.2.1 16 = .ok (.invokestatic 171, 3) := by decide +kernel
theorem dc_X11_setView_19 : decode m_X11_setView.2.2.1 19 = .ok (.ifCond .eq 30, 3) := by decide +kernel
theorem dc_X11_setView_28 : decode m_X11_setView.2.2.1 28 = .ok (.invokestatic 171, 3) := by decide +kernel
theorem dc_X11_setView_31 : decode m_X11_setView.2.2.1 31 = .ok (.ifCond .eq 18, 3) := by decide +kernel
theorem dc_X11_setView_39 : decode m_X11_setView.2.2.1 39 = .ok (.invokestatic 171, 3) := by decide +kernel
theorem dc_X11_setView_42 : decode m_X11_setView.2.2.1 42 = .ok (.ifCond .eq 7, 3) := by decide +kernel
theorem dc_X11_setView_46 : decode m_X11_setView.2.2.1 46 = .ok (.goto 4, 3) := by decide +kernel
theorem dc_X11_setView_56 : decode m_X11_setView.2.2.1 56 = .ok (.invokestatic 171, 3) := by decide +kernel
theorem dc_X11_setView_59 : decode m_X11_setView.2.2.1 59 = .ok (.ifCond .ne 7, 3) := by decide +kernel
theorem dc_X11_setView_63 : decode m_X11_setView.2.2.1 63 = .ok (.goto 13, 3) := by decide +kernel
theorem dc_X11_setView_68 : decode m_X11_setView.2.2.1 68 = .ok (.ifCond .eq 7, 3) := by decide +kernel
theorem dc_X11_setView_72 : decode m_X11_setView.2.2.1 72 = .ok (.goto 4, 3) := by decide +kernel
theorem dc_X11_setView_76 : decode m_X11_setView.2.2.1 76 = .ok (.invokevirtual 183, 3) := by decide +kernel
theorem dc_X11_setView_79 : decode m_X11_setView.2.2.1 79 = .ok (.ifCond .eq 5, 3) := by decide +kernel
theorem dc_X11_setView_83 : decode m_X11_setView.2.2.1 83 = .ok (.ireturn, 1) := by decide +kernel
theorem dc_X11_setView_93 : decode m_X11_setView.2.2.1 93 = .ok (.iaload, 1) := by decide +kernel
theorem dc_X11_setView_104 : decode m_X11_setView.2.2.1 104 = .ok (.iastore, 1) := by decide +kernel
theorem dc_X11_setView_115 : decode m_X11_setView.2.2.1 115 = .ok (.iastore, 1) := by decide +kernel
theorem dc_X11_setView_127 : decode m_X11_setView.2.2.1 127 = .ok (.iastore, 1) := by decide +kernel
theorem dc_X11_setView_139 : decode m_X11_setView.2.2.1 139 = .ok (.iastore, 1) := by decide +kernel
theorem dc_X11_setView_147 : decode m_X11_setView.2.2.1 147 = .ok (.ireturn, 1) := by decide +kernel
theorem ok_X11_setView_0_3 : oks m_X11_setView.1 m_X11_setView.2.2.1 0 [(.iload_n 2, 1, (0, 0, 0)), (.bipush (-9), 2, (0, 0, 0)), (.bipush 9, 2, (0, 0, 0))] = true ∧ plen 0 [(.iload_n 2, 1, (0, 0, 0)), (.bipush (-9), 2, (0, 0, 0)), (.bipush 9, 2, (0, 0, 0))] = 5 := by decide +kernel
theorem ok_X11_setView_11_3 : oks m_X11_setView.1 m_X11_setView.2.2.1 11 [(.iload_n 3, 1, (0, 0, 0)), (.bipush (-9), 2, (0, 0, 0)), (.bipush 9, 2, (0, 0, 0))] = true ∧ plen 11 [(.iload_n 3, 1, (0, 0, 0)), (.bipush (-9), 2, (0, 0, 0)), (.bipush 9, 2, (0, 0, 0))] = 16 := by decide +kernel
theorem ok_X11_setView_22_3 : oks m_X11_setView.1 m_X11_setView.2.2.1 22 [(.iload 4, 2, (0, 0, 0)), (.bipush (-9), 2, (0, 0, 0)), (.bipush 9, 2, (0, 0, 0))] = true ∧ plen 22 [(.iload 4, 2, (0, 0, 0)), (.bipush (-9), 2, (0, 0, 0)), (.bipush 9, 2, (0, 0, 0))] = 28 := by decide +kernel
theorem ok_X11_setView_34_3 : oks m_X11_setView.1 m_X11_setView.2.2.1 34 [(.iload 5, 2, (0, 0, 0)), (.iconst 1, 1, (0, 0, 0)), (.bipush 10, 2, (0, 0, 0))] = true ∧ plen 34 [(.iload 5, 2, (0, 0, 0)), (.iconst 1, 1, (0, 0, 0)), (.bipush 10, 2, (0, 0, 0))] = 39 := by decide +kernel
theorem ok_X11_setView_45_1 : oks m_X11_setView.1 m_X11_setView.2.2.1 45 [(.iconst 1, 1, (0, 0, 0))] = true ∧ plen 45 [(.iconst 1, 1, (0, 0, 0))] = 46 := by decide +kernel
theorem ok_X11_setView_49_1 : oks m_X11_setView.1 m_X11_setView.2.2.1 49 [(.iconst 0, 1, (0, 0, 0))] = true ∧ plen 49 [(.iconst 0, 1, (0, 0, 0))] = 50 := by decide +kernel
theorem ok_X11_setView_50_5 : oks m_X11_setView.1 m_X11_setView.2.2.1 50 [(.istore 6, 2, (0, 0, 0)), (.aload_n 0, 1, (0, 0, 0)), (.iload_n 1, 1, (0, 0, 0)), (.iconst 0, 1, (0, 0, 0)), (.iconst 2, 1, (0, 0, 0))] = true ∧ plen 50 [(.istore 6, 2, (0, 0, 0)), (.aload_n 0, 1, (0, 0, 0)), (.iload_n 1, 1, (0, 0, 0)), (.iconst 0, 1, (0, 0, 0)), (.iconst 2, 1, (0, 0, 0))] = 56 := by decide +kernel
theorem ok_X11_setView_62_1 : oks m_X11_setView.1 m_X11_setView.2.2.1 62 [(.iconst 1, 1, (0, 0, 0))] = true ∧ plen 62 [(.iconst 1, 1, (0, 0, 0))] = 63 := by decide +kernel
theorem ok_X11_setView_66_1 : oks m_X11_setView.1 m_X11_setView.2.2.1 66 [(.iload 6, 2, (0, 0, 0))] = true ∧ plen 66 [(.iload 6, 2, (0, 0, 0))] = 68 := by decide +kernel
theorem ok_X11_setView_71_1 : oks m_X11_setView.1 m_X11_setView.2.2.1 71 [(.iconst 0, 1, (0, 0, 0))] = true ∧ plen 71 [(.iconst 0, 1, (0, 0, 0))] = 72 := by decide +kernel
theorem ok_X11_setView_75_1 : oks m_X11_setView.1 m_X11_setView.2.2.1 75 [(.iconst 2, 1, (0, 0, 0))] = true ∧ plen 75 [(.iconst 2, 1, (0, 0, 0))] = 76 := by decide +kernel
theorem ok_X11_setView_82_1 : oks m_X11_setView.1 m_X11_setView.2.2.1 82 [(.iconst 0, 1, (0, 0, 0))] = true ∧ plen 82 [(.iconst 0, 1, (0, 0, 0))] = 83 := by decide +kernel
theorem ok_X11_setView_84_7 : oks m_X11_setView.1 m_X11_setView.2.2.1 84 [(.aload_n 0, 1, (0, 0, 0)), (.getfield 62, 3, (11, 20, 0)), (.iconst 4, 1, (0, 0, 0)), (.iload_n 1, 1, (0, 0, 0)), (.imul, 1, (0, 0, 0)), (.iconst 3, 1, (0, 0, 0)), (.iadd, 1, (0, 0, 0))] = true ∧ plen 84 [(.aload_n 0, 1, (0, 0, 0)), (.getfield 62, 3, (11, 20, 0)), (.iconst 4, 1, (0, 0, 0)), (.iload_n 1, 1, (0, 0, 0)), (.imul, 1, (0, 0, 0)), (.iconst 3, 1, (0, 0, 0)), (.iadd, 1, (0, 0, 0))] = 93 := by decide +kernel
theorem ok_X11_setView_94_7 : oks m_X11_setView.1 m_X11_setView.2.2.1 94 [(.istore 7, 2, (0, 0, 0)), (.aload_n 0, 1, (0, 0, 0)), (.getfield 62, 3, (11, 20, 0)), (.iconst 4, 1, (0, 0, 0)), (.iload_n 1, 1, (0, 0, 0)), (.imul, 1, (0, 0, 0)), (.iload_n 2, 1, (0, 0, 0))] = true ∧ plen 94 [(.istore 7, 2, (0, 0, 0)), (.aload_n 0, 1, (0, 0, 0)), (.getfield 62, 3, (11, 20, 0)), (.iconst 4, 1, (0, 0, 0)), (.iload_n 1, 1, (0, 0, 0)), (.imul, 1, (0, 0, 0)), (.iload_n 2, 1, (0, 0, 0))] = 104 := by decide +kernel
theorem ok_X11_setView_105_8 : oks m_X11_setView.1 m_X11_setView.2.2.1 105 [(.aload_n 0, 1, (0, 0, 0)), (.getfield 62, 3, (11, 20, 0)), (.iconst 4, 1, (0, 0, 0)), (.iload_n 1, 1, (0, 0, 0)), (.imul, 1, (0, 0, 0)), (.iconst 1, 1, (0, 0, 0)), (.iadd, 1, (0, 0, 0)), (.iload_n 3, 1, (0, 0, 0))] = true ∧ plen 105 [(.aload_n 0, 1, (0, 0, 0)), (.getfield 62, 3, (11, 20, 0)), (.iconst 4, 1, (0, 0, 0)), (.iload_n 1, 1, (0, 0, 0)), (.imul, 1, (0, 0, 0)), (.iconst 1, 1, (0, 0, 0)), (.iadd, 1, (0, 0, 0)), (.iload_n 3, 1, (0, 0, 0))] = 115 := by decide +kernel
theorem ok_X11_setView_116_8 : oks m_X11_setView.1 m_X11_setView.2.2.1 116 [(.aload_n 0, 1, (0, 0, 0)), (.getfield 62, 3, (11, 20, 0)), (.iconst 4, 1, (0, 0, 0)), (.iload_n 1, 1, (0, 0, 0)), (.imul, 1, (0, 0, 0)), (.iconst 2, 1, (0, 0, 0)), (.iadd, 1, (0, 0, 0)), (.iload 4, 2, (0, 0, 0))] = true ∧ plen 116 [(.aload_n 0, 1, (0, 0, 0)), (.getfield 62, 3, (11, 20, 0)), (.iconst 4, 1, (0, 0, 0)), (.iload_n 1, 1, (0, 0, 0)), (.imul, 1, (0, 0, 0)), (.iconst 2, 1, (0, 0, 0)), (.iadd, 1, (0, 0, 0)), (.iload 4, 2, (0, 0, 0))] = 127 := by decide +kernel
theorem ok_X11_setView_128_8 : oks m_X11_setView.1 m_X11_setView.2.2.1 128 [(.aload_n 0, 1, (0, 0, 0)), (.getfield 62, 3, (11, 20, 0)), (.iconst 4, 1, (0, 0, 0)), (.iload_n 1, 1, (0, 0, 0)), (.imul, 1, (0, 0, 0)), (.iconst 3, 1, (0, 0, 0)), (.iadd, 1, (0, 0, 0)), (.iload 5, 2, (0, 0, 0))] = true ∧ plen 128 [(.aload_n 0, 1, (0, 0, 0)), (.getfield 62, 3, (11, 20, 0)), (.iconst 4, 1, (0, 0, 0)), (.iload_n 1, 1, (0, 0, 0)), (.imul, 1, (0, 0, 0)), (.iconst 3, 1, (0, 0, 0)), (.iadd, 1, (0, 0, 0)), (.iload 5, 2, (0, 0, 0))] = 139 := by decide +kernel
theorem ok_X11_setView_140_4 : oks m_X11_setView.1 m_X11_setView.2.2.1 140 [(.aload_n 0, 1, (0, 0, 0)), (.iconst (-1), 1, (0, 0, 0)), (.putfield 161, 3, (11, 54, 0)), (.iload 7, 2, (0, 0, 0))] = true ∧ plen 140 [(.aload_n 0, 1, (0, 0, 0)), (.iconst (-1), 1, (0, 0, 0)), (.putfield 161, 3, (11, 54, 0)), (.iload 7, 2, (0, 0, 0))] = 147 := by decide +kernel
def B_X11_setView_76 (x1 : Int) (x2 : Int) (x3 : Int) (x4 : Int) (x5 : Int) (y0 : Int) (σ : Sg) : Option (Int × Sg) :=
bnd (F_X11_refused y0 σ) fun q1 =>
if q1.1 = true then
some (0, q1.2)
else
(rdn 12 q1.2 18 (wrap ((wrap (4 * x1)) + 3))).bind fun v3 =>
(wrn 12 q1.2 18 (wrap (4 * x1)) x2).bind fun s5 =>
(wrn 12 s5 18 (wrap ((wrap (4 * x1)) + 1)) x3).bind fun s7 =>
(wrn 12 s7 18 (wrap ((wrap (4 * x1)) + 2)) x4).bind fun s9 =>
(wrn 12 s9 18 (wrap ((wrap (4 * x1)) + 3)) x5).bind fun s11 =>
bnd (up2 s11 0 54 (-1)) fun s13 =>
some (v3, s13)
def B_X11_setView_50 (x1 : Int) (x2 : Int) (x3 : Int) (x4 : Int) (x5 : Int) (y0 : Bool) (σ : Sg) : Option (Int × Sg) :=
if (F_X11_in x1 0 2) = true then
if y0 = true then
B_X11_setView_76 x1 x2 x3 x4 x5 0 σ
else
B_X11_setView_76 x1 x2 x3 x4 x5 2 σ
else
B_X11_setView_76 x1 x2 x3 x4 x5 1 σ
def B_X11_setView_49 (x1 : Int) (x2 : Int) (x3 : Int) (x4 : Int) (x5 : Int) (σ : Sg) : Option (Int × Sg) :=
B_X11_setView_50 x1 x2 x3 x4 x5 false σ
def F_X11_setView (a1 : Int) (a2 : Int) (a3 : Int) (a4 : Int) (a5 : Int) (σ : Sg) : Option (Int × Sg) :=
if (F_X11_in a2 (-9) 9) = true then
if (F_X11_in a3 (-9) 9) = true then
if (F_X11_in a4 (-9) 9) = true then
if (F_X11_in a5 1 10) = true then
B_X11_setView_50 a1 a2 a3 a4 a5 true σ
else
B_X11_setView_49 a1 a2 a3 a4 a5 σ
else
B_X11_setView_49 a1 a2 a3 a4 a5 σ
else
B_X11_setView_49 a1 a2 a3 a4 a5 σ
else
B_X11_setView_49 a1 a2 a3 a4 a5 σ
theorem lk_X11_setView (l : Launch) (d : Nat) (hd : 1 ≤ d) (a1 : Int) (a2 : Int) (a3 : Int) (a4 : Int) (a5 : Int) (σ : Sg) (q : (Int × Sg)) (h : F_X11_setView a1 a2 a3 a4 a5 σ = some q) : CT l d m_X11_setView.2.1 m_X11_setView.2.2.1 m_X11_setView.2.2.2.1 m_X11_setView.2.2.2.2 [.inr 0, .inl a1, .inl a2, .inl a3, .inl a4, .inl a5] (LAYM, σ) (some (.inl q.1)) (LAYM, q.2) := by
  obtain ⟨d, rfl⟩ : ∃ e, d = e + 1 := ⟨d - 1, by omega⟩
  have key : Go l m_X11_setView (d + 1) LAYM (.inl (some (.inl q.1))) q.2 0 [some (.inr 0), some (.inl a1), some (.inl a2), some (.inl a3), some (.inl a4), some (.inl a5), none, none] [] σ := by
    unfold F_X11_setView at h
    have hB_X11_setView_76 : ∀ (x1 : Int) (x2 : Int) (x3 : Int) (x4 : Int) (x5 : Int) (y0 : Int) (σ : Sg), B_X11_setView_76 x1 x2 x3 x4 x5 y0 σ = some q → Go l m_X11_setView (d + 1) LAYM (.inl (some (.inl q.1))) q.2 76 [some (.inr 0), some (.inl x1), some (.inl x2), some (.inl x3), some (.inl x4), some (.inl x5), none, none] [.inl y0, .inr 0] σ := by
      intro x1 x2 x3 x4 x5 y0 σ h
      unfold B_X11_setView_76 at h
      obtain ⟨q1, e2, h⟩ := bnd_inv h
      refine go_V (M1 := m_X11_refused) (as := [.inl y0]) (st := []) (k := 0) (ci := 11) dc_X11_setView_76 ln_11_183 im_X11_refused (by decide) rfl rfl mk_X11_refused rfl (Nat.le_of_ble_eq_true rfl) (Nat.le_refl _) (v := (some (.inl (b2i q1.1)))) (σ1 := q1.2) (lk_X11_refused l d (by omega) y0 σ q1 e2.symm) _ rfl ?_
      refine go_ifb_eq dc_X11_setView_79 (by rfl) (fun hc => ?_) (fun hc => ?_)
      · replace h := (if_neg hc).symm.trans h
        refine go_ops ok_X11_setView_84_7 (L' := [some (.inr 0), some (.inl x1), some (.inl x2), some (.inl x3), some (.inl x4), some (.inl x5), none, none]) (st' := [.inl (wrap ((wrap (4 * x1)) + 3)), .inr 18]) (σ1 := q1.2) rfl ?_
        obtain ⟨v3, e4, h⟩ := bind_inv h
        refine go_rd (k := 18) dc_X11_setView_93 rfl e4 ?_
        refine go_ops ok_X11_setView_94_7 (L' := [some (.inr 0), some (.inl x1), some (.inl x2), some (.inl x3), some (.inl x4), some (.inl x5), none, some (.inl v3)]) (st' := [.inl x2, .inl (wrap (4 * x1)), .inr 18]) (σ1 := q1.2) rfl ?_
        obtain ⟨s5, e6, h⟩ := bind_inv h
        refine go_wr (k := 18) dc_X11_setView_104 rfl e6 ?_
        refine go_ops ok_X11_setView_105_8 (L' := [some (.inr 0), some (.inl x1), some (.inl x2), some (.inl x3), some (.inl x4), some (.inl x5), none, some (.inl v3)]) (st' := [.inl x3, .inl (wrap ((wrap (4 * x1)) + 1)), .inr 18]) (σ1 := s5) rfl ?_
        obtain ⟨s7, e8, h⟩ := bind_inv h
        refine go_wr (k := 18) dc_X11_setView_115 rfl e8 ?_
        refine go_ops ok_X11_setView_116_8 (L' := [some (.inr 0), some (.inl x1), some (.inl x2), some (.inl x3), some (.inl x4), some (.inl x5), none, some (.inl v3)]) (st' := [.inl x4, .inl (wrap ((wrap (4 * x1)) + 2)), .inr 18]) (σ1 := s7) rfl ?_
        obtain ⟨s9, e10, h⟩ := bind_inv h
        refine go_wr (k := 18) dc_X11_setView_127 rfl e10 ?_
        refine go_ops ok_X11_setView_128_8 (L' := [some (.inr 0), some (.inl x1), some (.inl x2), some (.inl x3), some (.inl x4), some (.inl x5), none, some (.inl v3)]) (st' := [.inl x5, .inl (wrap ((wrap (4 * x1)) + 3)), .inr 18]) (σ1 := s9) rfl ?_
        obtain ⟨s11, e12, h⟩ := bind_inv h
        refine go_wr (k := 18) dc_X11_setView_139 rfl e12 ?_
        obtain ⟨s13, e14, h⟩ := bnd_inv h
        refine go_ops ok_X11_setView_140_4 (L' := [some (.inr 0), some (.inl x1), some (.inl x2), some (.inl x3), some (.inl x4), some (.inl x5), none, some (.inl v3)]) (st' := [.inl v3]) (σ1 := s13) (by subst e14; rfl) ?_
        have h9 := Option.some.inj h
        subst h9
        exact go_iret dc_X11_setView_147 rfl
      · replace h := (if_pos hc).symm.trans h
        refine go_ops ok_X11_setView_82_1 (L' := [some (.inr 0), some (.inl x1), some (.inl x2), some (.inl x3), some (.inl x4), some (.inl x5), none, none]) (st' := [.inl 0]) (σ1 := q1.2) rfl ?_
        have h9 := Option.some.inj h
        subst h9
        exact go_iret dc_X11_setView_83 rfl
    have hB_X11_setView_50 : ∀ (x1 : Int) (x2 : Int) (x3 : Int) (x4 : Int) (x5 : Int) (y0 : Bool) (σ : Sg), B_X11_setView_50 x1 x2 x3 x4 x5 y0 σ = some q → Go l m_X11_setView (d + 1) LAYM (.inl (some (.inl q.1))) q.2 50 [some (.inr 0), some (.inl x1), some (.inl x2), some (.inl x3), some (.inl x4), some (.inl x5), none, none] [.inl (b2i y0)] σ := by
      intro x1 x2 x3 x4 x5 y0 σ h
      unfold B_X11_setView_50 at h
      refine go_ops ok_X11_setView_50_5 (L' := [some (.inr 0), some (.inl x1), some (.inl x2), some (.inl x3), some (.inl x4), some (.inl x5), some (.inl (b2i y0)), none]) (st' := [.inl 2, .inl 0, .inl x1, .inr 0]) (σ1 := σ) rfl ?_
      refine go_S (M1 := m_X11_in) (as := [.inl x1, .inl 0, .inl 2]) (st := [.inr 0]) dc_X11_setView_56 ln_11_171 sm_X11_in mk_X11_in rfl (Nat.le_of_ble_eq_true rfl) (Nat.le_refl _) (v := (some (.inl (b2i (F_X11_in x1 0 2))))) (σ1 := σ) (lk_X11_in l d (by omega) x1 0 2 σ _ rfl) _ rfl ?_
      refine go_ifb_ne dc_X11_setView_59 (by rfl) (fun hc => ?_) (fun hc => ?_)
      · replace h := (if_pos hc).symm.trans h
        refine go_ops ok_X11_setView_66_1 (L' := [some (.inr 0), some (.inl x1), some (.inl x2), some (.inl x3), some (.inl x4), some (.inl x5), some (.inl (b2i y0)), none]) (st' := [.inl (b2i y0), .inr 0]) (σ1 := σ) rfl ?_
        refine go_ifb_eq dc_X11_setView_68 (by rfl) (fun hc => ?_) (fun hc => ?_)
        · replace h := (if_neg hc).symm.trans h
          refine go_ops ok_X11_setView_75_1 (L' := [some (.inr 0), some (.inl x1), some (.inl x2), some (.inl x3), some (.inl x4), some (.inl x5), some (.inl (b2i y0)), none]) (st' := [.inl 2, .inr 0]) (σ1 := σ) rfl ?_
          refine go_wk (L' := [some (.inr 0), some (.inl x1), some (.inl x2), some (.inl x3), some (.inl x4), some (.inl x5), none, none]) ⟨rfl, rfl, rfl, rfl, rfl, rfl, trivial⟩ ?_
          exact hB_X11_setView_76 x1 x2 x3 x4 x5 2 σ h
        · replace h := (if_pos hc).symm.trans h
          refine go_ops ok_X11_setView_71_1 (L' := [some (.inr 0), some (.inl x1), some (.inl x2), some (.inl x3), some (.inl x4), some (.inl x5), some (.inl (b2i y0)), none]) (st' := [.inl 0, .inr 0]) (σ1 := σ) rfl ?_
          refine go_goto dc_X11_setView_72 (by rfl) ?_
          refine go_wk (L' := [some (.inr 0), some (.inl x1), some (.inl x2), some (.inl x3), some (.inl x4), some (.inl x5), none, none]) ⟨rfl, rfl, rfl, rfl, rfl, rfl, trivial⟩ ?_
          exact hB_X11_setView_76 x1 x2 x3 x4 x5 0 σ h
      · replace h := (if_neg hc).symm.trans h
        refine go_ops ok_X11_setView_62_1 (L' := [some (.inr 0), some (.inl x1), some (.inl x2), some (.inl x3), some (.inl x4), some (.inl x5), some (.inl (b2i y0)), none]) (st' := [.inl 1, .inr 0]) (σ1 := σ) rfl ?_
        refine go_goto dc_X11_setView_63 (by rfl) ?_
        refine go_wk (L' := [some (.inr 0), some (.inl x1), some (.inl x2), some (.inl x3), some (.inl x4), some (.inl x5), none, none]) ⟨rfl, rfl, rfl, rfl, rfl, rfl, trivial⟩ ?_
        exact hB_X11_setView_76 x1 x2 x3 x4 x5 1 σ h
    have hB_X11_setView_49 : ∀ (x1 : Int) (x2 : Int) (x3 : Int) (x4 : Int) (x5 : Int) (σ : Sg), B_X11_setView_49 x1 x2 x3 x4 x5 σ = some q → Go l m_X11_setView (d + 1) LAYM (.inl (some (.inl q.1))) q.2 49 [some (.inr 0), some (.inl x1), some (.inl x2), some (.inl x3), some (.inl x4), some (.inl x5), none, none] [] σ := by
      intro x1 x2 x3 x4 x5 σ h
      unfold B_X11_setView_49 at h
      refine go_ops ok_X11_setView_49_1 (L' := [some (.inr 0), some (.inl x1), some (.inl x2), some (.inl x3), some (.inl x4), some (.inl x5), none, none]) (st' := [.inl 0]) (σ1 := σ) rfl ?_
      exact hB_X11_setView_50 x1 x2 x3 x4 x5 false σ h
    refine go_ops ok_X11_setView_0_3 (L' := [some (.inr 0), some (.inl a1), some (.inl a2), some (.inl a3), some (.inl a4), some (.inl a5), none, none]) (st' := [.inl 9, .inl (-9), .inl a2]) (σ1 := σ) rfl ?_
    refine go_S (M1 := m_X11_in) (as := [.inl a2, .inl (-9), .inl 9]) (st := []) dc_X11_setView_5 ln_11_171 sm_X11_in mk_X11_in rfl (Nat.le_of_ble_eq_true rfl) (Nat.le_refl _) (v := (some (.inl (b2i (F_X11_in a2 (-9) 9))))) (σ1 := σ) (lk_X11_in l d (by omega) a2 (-9) 9 σ _ rfl) _ rfl ?_
    refine go_ifb_eq dc_X11_setView_8 (by rfl) (fun hc => ?_) (fun hc => ?_)
    · replace h := (if_neg hc).symm.trans h
      exact hB_X11_setView_49 a1 a2 a3 a4 a5 σ h
    · replace h := (if_pos hc).symm.trans h
      refine go_ops ok_X11_setView_11_3 (L' := [some (.inr 0), some (.inl a1), some (.inl a2), some (.inl a3), some (.inl a4), some (.inl a5), none, none]) (st' := [.inl 9, .inl (-9), .inl a3]) (σ1 := σ) rfl ?_
      refine go_S (M1 := m_X11_in) (as := [.inl a3, .inl (-9), .inl 9]) (st := []) dc_X11_setView_16 ln_11_171 sm_X11_in mk_X11_in rfl (Nat.le_of_ble_eq_true rfl) (Nat.le_refl _) (v := (some (.inl (b2i (F_X11_in a3 (-9) 9))))) (σ1 := σ) (lk_X11_in l d (by omega) a3 (-9) 9 σ _ rfl) _ rfl ?_
      refine go_ifb_eq dc_X11_setView_19 (by rfl) (fun hc => ?_) (fun hc => ?_)
      · replace h := (if_neg hc).symm.trans h
        exact hB_X11_setView_49 a1 a2 a3 a4 a5 σ h
      · replace h := (if_pos hc).symm.trans h
        refine go_ops ok_X11_setView_22_3 (L' := [some (.inr 0), some (.inl a1), some (.inl a2), some (.inl a3), some (.inl a4), some (.inl a5), none, none]) (st' := [.inl 9, .inl (-9), .inl a4]) (σ1 := σ) rfl ?_
        refine go_S (M1 := m_X11_in) (as := [.inl a4, .inl (-9), .inl 9]) (st := []) dc_X11_setView_28 ln_11_171 sm_X11_in mk_X11_in rfl (Nat.le_of_ble_eq_true rfl) (Nat.le_refl _) (v := (some (.inl (b2i (F_X11_in a4 (-9) 9))))) (σ1 := σ) (lk_X11_in l d (by omega) a4 (-9) 9 σ _ rfl) _ rfl ?_
        refine go_ifb_eq dc_X11_setView_31 (by rfl) (fun hc => ?_) (fun hc => ?_)
        · replace h := (if_neg hc).symm.trans h
          exact hB_X11_setView_49 a1 a2 a3 a4 a5 σ h
        · replace h := (if_pos hc).symm.trans h
          refine go_ops ok_X11_setView_34_3 (L' := [some (.inr 0), some (.inl a1), some (.inl a2), some (.inl a3), some (.inl a4), some (.inl a5), none, none]) (st' := [.inl 10, .inl 1, .inl a5]) (σ1 := σ) rfl ?_
          refine go_S (M1 := m_X11_in) (as := [.inl a5, .inl 1, .inl 10]) (st := []) dc_X11_setView_39 ln_11_171 sm_X11_in mk_X11_in rfl (Nat.le_of_ble_eq_true rfl) (Nat.le_refl _) (v := (some (.inl (b2i (F_X11_in a5 1 10))))) (σ1 := σ) (lk_X11_in l d (by omega) a5 1 10 σ _ rfl) _ rfl ?_
          refine go_ifb_eq dc_X11_setView_42 (by rfl) (fun hc => ?_) (fun hc => ?_)
          · replace h := (if_neg hc).symm.trans h
            exact hB_X11_setView_49 a1 a2 a3 a4 a5 σ h
          · replace h := (if_pos hc).symm.trans h
            refine go_ops ok_X11_setView_45_1 (L' := [some (.inr 0), some (.inl a1), some (.inl a2), some (.inl a3), some (.inl a4), some (.inl a5), none, none]) (st' := [.inl 1]) (σ1 := σ) rfl ?_
            refine go_goto dc_X11_setView_46 (by rfl) ?_
            exact hB_X11_setView_50 a1 a2 a3 a4 a5 true σ h
  have hf := go_ct (as := [.inr 0, .inl a1, .inl a2, .inl a3, .inl a4, .inl a5]) mk_X11_setView (by rfl) (Nat.le_of_ble_eq_true rfl) key
  exact hf
theorem dc_X11_begin_3 : decode m_X11_begin.2.2.1 3 = .ok (.invokestatic 171, 3) := by decide +kernel
theorem dc_X11_begin_14 : decode m_X11_begin.2.2.1 14 = .ok (.if_icmp .ge 54, 3) := by decide +kernel
theorem dc_X11_begin_23 : decode m_X11_begin.2.2.1 23 = .ok (.invokestatic 175, 3) := by decide +kernel
theorem dc_X11_begin_30 : decode m_X11_begin.2.2.1 30 = .ok (.ifCond .eq 29, 3) := by decide +kernel
theorem dc_X11_begin_36 : decode m_X11_begin.2.2.1 36 = .ok (.if_icmp .ge 14, 3) := by decide +kernel
theorem dc_X11_begin_41 : decode m_X11_begin.2.2.1 41 = .ok (.invokestatic 179, 3) := by decide +kernel
theorem dc_X11_begin_44 : decode m_X11_begin.2.2.1 44 = .ok (.ifCond .eq 15, 3) := by decide +kernel
theorem dc_X11_begin_47 : decode m_X11_begin.2.2.1 47 = .ok (.goto 8, 3) := by decide +kernel
theorem dc_X11_begin_52 : decode m_X11_begin.2.2.1 52 = .ok (.ifCond .ne 7, 3) := by decide +kernel
theorem dc_X11_begin_56 : decode m_X11_begin.2.2.1 56 = .ok (.goto 4, 3) := by decide +kernel
theorem dc_X11_begin_65 : decode m_X11_begin.2.2.1 65 = .ok (.goto (-54), 3) := by decide +kernel
theorem dc_X11_begin_71 : decode m_X11_begin.2.2.1 71 = .ok (.ifCond .eq 7, 3) := by decide +kernel
theorem dc_X11_begin_75 : decode m_X11_begin.2.2.1 75 = .ok (.goto 4, 3) := by decide +kernel
theorem dc_X11_begin_79 : decode m_X11_begin.2.2.1 79 = .ok (.invokevirtual 183, 3) := by decide +kernel
theorem dc_X11_begin_82 : decode m_X11_begin.2.2.1 82 = .ok (.ifCond .eq 5, 3) := by decide +kernel
theorem dc_X11_begin_86 : decode m_X11_begin.2.2.1 86 = .ok (.ireturn, 1) := by decide +kernel
theorem dc_X11_begin_104 : decode m_X11_begin.2.2.1 104 = .ok (.if_icmp .ge 25, 3) := by decide +kernel
theorem dc_X11_begin_119 : decode m_X11_begin.2.2.1 119 = .ok (.invokestatic 175, 3) := by decide +kernel
theorem dc_X11_begin_122 : decode m_X11_begin.2.2.1 122 = .ok (.iastore, 1) := by decide +kernel
theorem dc_X11_begin_126 : decode m_X11_begin.2.2.1 126 = .ok (.goto (-25), 3) := by decide +kernel
theorem dc_X11_begin_156 : decode m_X11_begin.2.2.1 156 = .ok (.ireturn, 1) := by decide +kernel
theorem ok_X11_begin_0_3 : oks m_X11_begin.1 m_X11_begin.2.2.1 0 [(.iload_n 1, 1, (0, 0, 0)), (.iconst 1, 1, (0, 0, 0)), (.iconst 3, 1, (0, 0, 0))] = true ∧ plen 0 [(.iload_n 1, 1, (0, 0, 0)), (.iconst 1, 1, (0, 0, 0)), (.iconst 3, 1, (0, 0, 0))] = 3 := by decide +kernel
theorem ok_X11_begin_6_3 : oks m_X11_begin.1 m_X11_begin.2.2.1 6 [(.istore 5, 2, (0, 0, 0)), (.iconst 0, 1, (0, 0, 0)), (.istore 6, 2, (0, 0, 0))] = true ∧ plen 6 [(.istore 5, 2, (0, 0, 0)), (.iconst 0, 1, (0, 0, 0)), (.istore 6, 2, (0, 0, 0))] = 11 := by decide +kernel
theorem ok_X11_begin_11_2 : oks m_X11_begin.1 m_X11_begin.2.2.1 11 [(.iload 6, 2, (0, 0, 0)), (.iconst 3, 1, (0, 0, 0))] = true ∧ plen 11 [(.iload 6, 2, (0, 0, 0)), (.iconst 3, 1, (0, 0, 0))] = 14 := by decide +kernel
theorem ok_X11_begin_17_4 : oks m_X11_begin.1 m_X11_begin.2.2.1 17 [(.iload_n 2, 1, (0, 0, 0)), (.iload_n 3, 1, (0, 0, 0)), (.iload 4, 2, (0, 0, 0)), (.iload 6, 2, (0, 0, 0))] = true ∧ plen 17 [(.iload_n 2, 1, (0, 0, 0)), (.iload_n 3, 1, (0, 0, 0)), (.iload 4, 2, (0, 0, 0)), (.iload 6, 2, (0, 0, 0))] = 23 := by decide +kernel
theorem ok_X11_begin_26_2 : oks m_X11_begin.1 m_X11_begin.2.2.1 26 [(.istore 7, 2, (0, 0, 0)), (.iload 5, 2, (0, 0, 0))] = true ∧ plen 26 [(.istore 7, 2, (0, 0, 0)), (.iload 5, 2, (0, 0, 0))] = 30 := by decide +kernel
theorem ok_X11_begin_33_2 : oks m_X11_begin.1 m_X11_begin.2.2.1 33 [(.iload 6, 2, (0, 0, 0)), (.iload_n 1, 1, (0, 0, 0))] = true ∧ plen 33 [(.iload 6, 2, (0, 0, 0)), (.iload_n 1, 1, (0, 0, 0))] = 36 := by decide +kernel
theorem ok_X11_begin_39_1 : oks m_X11_begin.1 m_X11_begin.2.2.1 39 [(.iload 7, 2, (0, 0, 0))] = true ∧ plen 39 [(.iload 7, 2, (0, 0, 0))] = 41 := by decide +kernel
theorem ok_X11_begin_50_1 : oks m_X11_begin.1 m_X11_begin.2.2.1 50 [(.iload 7, 2, (0, 0, 0))] = true ∧ plen 50 [(.iload 7, 2, (0, 0, 0))] = 52 := by decide +kernel
theorem ok_X11_begin_55_1 : oks m_X11_begin.1 m_X11_begin.2.2.1 55 [(.iconst 1, 1, (0, 0, 0))] = true ∧ plen 55 [(.iconst 1, 1, (0, 0, 0))] = 56 := by decide +kernel
theorem ok_X11_begin_59_1 : oks m_X11_begin.1 m_X11_begin.2.2.1 59 [(.iconst 0, 1, (0, 0, 0))] = true ∧ plen 59 [(.iconst 0, 1, (0, 0, 0))] = 60 := by decide +kernel
theorem ok_X11_begin_60_2 : oks m_X11_begin.1 m_X11_begin.2.2.1 60 [(.istore 5, 2, (0, 0, 0)), (.iinc 6 1, 3, (0, 0, 0))] = true ∧ plen 60 [(.istore 5, 2, (0, 0, 0)), (.iinc 6 1, 3, (0, 0, 0))] = 65 := by decide +kernel
theorem ok_X11_begin_68_2 : oks m_X11_begin.1 m_X11_begin.2.2.1 68 [(.aload_n 0, 1, (0, 0, 0)), (.iload 5, 2, (0, 0, 0))] = true ∧ plen 68 [(.aload_n 0, 1, (0, 0, 0)), (.iload 5, 2, (0, 0, 0))] = 71 := by decide +kernel
theorem ok_X11_begin_74_1 : oks m_X11_begin.1 m_X11_begin.2.2.1 74 [(.iconst 0, 1, (0, 0, 0))] = true ∧ plen 74 [(.iconst 0, 1, (0, 0, 0))] = 75 := by decide +kernel
theorem ok_X11_begin_78_1 : oks m_X11_begin.1 m_X11_begin.2.2.1 78 [(.iconst 1, 1, (0, 0, 0))] = true ∧ plen 78 [(.iconst 1, 1, (0, 0, 0))] = 79 := by decide +kernel
theorem ok_X11_begin_85_1 : oks m_X11_begin.1 m_X11_begin.2.2.1 85 [(.iconst 0, 1, (0, 0, 0))] = true ∧ plen 85 [(.iconst 0, 1, (0, 0, 0))] = 86 := by decide +kernel
theorem ok_X11_begin_87_8 : oks m_X11_begin.1 m_X11_begin.2.2.1 87 [(.aload_n 0, 1, (0, 0, 0)), (.getfield 228, 3, (11, 23, 0)), (.istore 6, 2, (0, 0, 0)), (.aload_n 0, 1, (0, 0, 0)), (.iload_n 1, 1, (0, 0, 0)), (.putfield 231, 3, (11, 21, 0)), (.iconst 0, 1, (0, 0, 0)), (.istore 7, 2, (0, 0, 0))] = true ∧ plen 87 [(.aload_n 0, 1, (0, 0, 0)), (.getfield 228, 3, (11, 23, 0)), (.istore 6, 2, (0, 0, 0)), (.aload_n 0, 1, (0, 0, 0)), (.iload_n 1, 1, (0, 0, 0)), (.putfield 231, 3, (11, 21, 0)), (.iconst 0, 1, (0, 0, 0)), (.istore 7, 2, (0, 0, 0))] = 101 := by decide +kernel
theorem ok_X11_begin_101_2 : oks m_X11_begin.1 m_X11_begin.2.2.1 101 [(.iload 7, 2, (0, 0, 0)), (.iconst 3, 1, (0, 0, 0))] = true ∧ plen 101 [(.iload 7, 2, (0, 0, 0)), (.iconst 3, 1, (0, 0, 0))] = 104 := by decide +kernel
theorem ok_X11_begin_107_7 : oks m_X11_begin.1 m_X11_begin.2.2.1 107 [(.aload_n 0, 1, (0, 0, 0)), (.getfield 65, 3, (11, 22, 0)), (.iload 7, 2, (0, 0, 0)), (.iload_n 2, 1, (0, 0, 0)), (.iload_n 3, 1, (0, 0, 0)), (.iload 4, 2, (0, 0, 0)), (.iload 7, 2, (0, 0, 0))] = true ∧ plen 107 [(.aload_n 0, 1, (0, 0, 0)), (.getfield 65, 3, (11, 22, 0)), (.iload 7, 2, (0, 0, 0)), (.iload_n 2, 1, (0, 0, 0)), (.iload_n 3, 1, (0, 0, 0)), (.iload 4, 2, (0, 0, 0)), (.iload 7, 2, (0, 0, 0))] = 119 := by decide +kernel
theorem ok_X11_begin_123_1 : oks m_X11_begin.1 m_X11_begin.2.2.1 123 [(.iinc 7 1, 3, (0, 0, 0))] = true ∧ plen 123 [(.iinc 7 1, 3, (0, 0, 0))] = 126 := by decide +kernel
theorem ok_X11_begin_129_16 : oks m_X11_begin.1 m_X11_begin.2.2.1 129 [(.aload_n 0, 1, (0, 0, 0)), (.iconst 0, 1, (0, 0, 0)), (.putfield 228, 3, (11, 23, 0)), (.aload_n 0, 1, (0, 0, 0)), (.iconst 0, 1, (0, 0, 0)), (.putfield 234, 3, (11, 47, 0)), (.aload_n 0, 1, (0, 0, 0)), (.iconst 0, 1, (0, 0, 0)), (.putfield 237, 3, (11, 48, 0)), (.aload_n 0, 1, (0, 0, 0)), (.iconst (-1), 1, (0, 0, 0)), (.putfield 165, 3, (11, 52, 0)), (.aload_n 0, 1, (0, 0, 0)), (.iconst (-1), 1, (0, 0, 0)), (.putfield 161, 3, (11, 54, 0)), (.iload 6, 2, (0, 0, 0))] = true ∧ plen 129 [(.aload_n 0, 1, (0, 0, 0)), (.iconst 0, 1, (0, 0, 0)), (.putfield 228, 3, (11, 23, 0)), (.aload_n 0, 1, (0, 0, 0)), (.iconst 0, 1, (0, 0, 0)), (.putfield 234, 3, (11, 47, 0)), (.aload_n 0, 1, (0, 0, 0)), (.iconst 0, 1, (0, 0, 0)), (.putfield 237, 3, (11, 48, 0)), (.aload_n 0, 1, (0, 0, 0)), (.iconst (-1), 1, (0, 0, 0)), (.putfield 165, 3, (11, 52, 0)), (.aload_n 0, 1, (0, 0, 0)), (.iconst (-1), 1, (0, 0, 0)), (.putfield 161, 3, (11, 54, 0)), (.iload 6, 2, (0, 0, 0))] = 156 := by decide +kernel
def B_X11_begin_60 (x6 : Int) (y0 : Bool) (σ : Sg) : Option ((Bool × Int) ⊕ Bool) :=
some (.inl (y0, wrap (x6 + 1)))
def B_X11_begin_59 (x6 : Int) (σ : Sg) : Option ((Bool × Int) ⊕ Bool) :=
B_X11_begin_60 x6 false σ
def B_X11_begin_55 (x6 : Int) (σ : Sg) : Option ((Bool × Int) ⊕ Bool) :=
B_X11_begin_60 x6 true σ
def L_X11_begin_11 (x1 : Int) (x2 : Int) (x3 : Int) (x4 : Int) (σ : Sg) (x5 : Bool) (x6 : Int) : Option ((Bool × Int) ⊕ Bool) :=
if 3 ≤ x6 then
some (.inr x5)
else
bnd (F_X11_pick x2 x3 x4 x6) fun v3 =>
if x5 = true then
if x1 ≤ x6 then
if v3 = 0 then
B_X11_begin_55 x6 σ
else
B_X11_begin_59 x6 σ
else
if (F_X11_isKind v3) = true then
B_X11_begin_55 x6 σ
else
B_X11_begin_59 x6 σ
else
B_X11_begin_59 x6 σ
def L_X11_begin_101 (x2 : Int) (x3 : Int) (x4 : Int) (x7 : Int) (σ : Sg) : Option ((Int × Sg) ⊕ Sg) :=
if 3 ≤ x7 then
some (.inr σ)
else
(wrn 3 σ 19 x7 (F_X11_pick x2 x3 x4 x7)).bind fun s13 =>
some (.inl (wrap (x7 + 1), s13))
def B_X11_begin_79 (x1 : Int) (x2 : Int) (x3 : Int) (x4 : Int) (y0 : Bool) (σ : Sg) : Option (Int × Sg) :=
bnd (F_X11_refused (b2i y0) σ) fun q7 =>
if q7.1 = true then
some (0, q7.2)
else
bnd (q7.2 0 23) fun v9 =>
bnd (up2 q7.2 0 21 x1) fun s11 =>
(iter (fun a : (Int × Sg) => L_X11_begin_101 x2 x3 x4 a.1 a.2) 4 (0, s11)).bind fun y15 =>
bnd (up2 y15 0 23 0) fun s17 =>
bnd (up2 s17 0 47 0) fun s19 =>
bnd (up2 s19 0 48 0) fun s21 =>
bnd (up2 s21 0 52 (-1)) fun s23 =>
bnd (up2 s23 0 54 (-1)) fun s25 =>
some (v9, s25)
def F_X11_begin (a1 : Int) (a2 : Int) (a3 : Int) (a4 : Int) (σ : Sg) : Option (Int × Sg) :=
bnd (F_X11_in a1 1 3) fun v1 =>
(iter (fun a : (Bool × Int) => L_X11_begin_11 a1 a2 a3 a4 σ a.1 a.2) 4 (v1, 0)).bind fun y5 =>
if y5 = true then
B_X11_begin_79 a1 a2 a3 a4 false σ
else
B_X11_begin_79 a1 a2 a3 a4 true σ
theorem lk_X11_begin (l : Launch) (d : Nat) (hd : 2 ≤ d) (a1 : Int) (a2 : Int) (a3 : Int) (a4 : Int) (σ : Sg) (q : (Int × Sg)) (h : F_X11_begin a1 a2 a3 a4 σ = some q) : CT l d m_X11_begin.2.1 m_X11_begin.2.2.1 m_X11_begin.2.2.2.1 m_X11_begin.2.2.2.2 [.inr 0, .inl a1, .inl a2, .inl a3, .inl a4] (LAYM, σ) (some (.inl q.1)) (LAYM, q.2) := by
  obtain ⟨d, rfl⟩ : ∃ e, d = e + 1 := ⟨d - 1, by omega⟩
  have key : Go l m_X11_begin (d + 1) LAYM (.inl (some (.inl q.1))) q.2 0 [some (.inr 0), some (.inl a1), some (.inl a2), some (.inl a3), some (.inl a4), none, none, none] [] σ := by
    unfold F_X11_begin at h
    have hL_X11_begin_11 : ∀ (x1 : Int) (x2 : Int) (x3 : Int) (x4 : Int) (σ : Sg) (n : Nat) (a : (Bool × Int)) (y : Bool), iter (fun a : (Bool × Int) => L_X11_begin_11 x1 x2 x3 x4 σ a.1 a.2) n a = some y → (fun y : Bool => Go l m_X11_begin (d + 1) LAYM (.inl (some (.inl q.1))) q.2 68 [some (.inr 0), some (.inl x1), some (.inl x2), some (.inl x3), some (.inl x4), some (.inl (b2i y)), none, none] [] σ) y → (fun a : (Bool × Int) => Go l m_X11_begin (d + 1) LAYM (.inl (some (.inl q.1))) q.2 11 [some (.inr 0), some (.inl x1), some (.inl x2), some (.inl x3), some (.inl x4), some (.inl (b2i a.1)), some (.inl a.2), none] [] σ) a := by
      intro x1 x2 x3 x4 σ
      refine go_iter (G := fun a : (Bool × Int) => Go l m_X11_begin (d + 1) LAYM (.inl (some (.inl q.1))) q.2 11 [some (.inr 0), some (.inl x1), some (.inl x2), some (.inl x3), some (.inl x4), some (.inl (b2i a.1)), some (.inl a.2), none] [] σ) (K := fun y : Bool => Go l m_X11_begin (d + 1) LAYM (.inl (some (.inl q.1))) q.2 68 [some (.inr 0), some (.inl x1), some (.inl x2), some (.inl x3), some (.inl x4), some (.inl (b2i y)), none, none] [] σ) ?_
      rintro ⟨x5, x6⟩ w h hK
      replace h : L_X11_begin_11 x1 x2 x3 x4 σ x5 x6 = some w := h
      show Go l m_X11_begin (d + 1) LAYM (.inl (some (.inl q.1))) q.2 11 [some (.inr 0), some (.inl x1), some (.inl x2), some (.inl x3), some (.inl x4), some (.inl (b2i x5)), some (.inl x6), none] [] σ
      unfold L_X11_begin_11 at h
      have hB_X11_begin_60 : ∀ (x6 : Int) (y0 : Bool), B_X11_begin_60 x6 y0 σ = some w → Go l m_X11_begin (d + 1) LAYM (.inl (some (.inl q.1))) q.2 60 [some (.inr 0), some (.inl x1), some (.inl x2), some (.inl x3), some (.inl x4), none, some (.inl x6), none] [.inl (b2i y0)] σ := by
        intro x6 y0 h
        unfold B_X11_begin_60 at h
        refine go_ops ok_X11_begin_60_2 (L' := [some (.inr 0), some (.inl x1), some (.inl x2), some (.inl x3), some (.inl x4), some (.inl (b2i y0)), some (.inl (wrap (x6 + 1))), none]) (st' := []) (σ1 := σ) rfl ?_
        refine go_goto dc_X11_begin_65 (by rfl) ?_
        cases h
        exact hK
      have hB_X11_begin_59 : ∀ (x6 : Int), B_X11_begin_59 x6 σ = some w → Go l m_X11_begin (d + 1) LAYM (.inl (some (.inl q.1))) q.2 59 [some (.inr 0), some (.inl x1), some (.inl x2), some (.inl x3), some (.inl x4), none, some (.inl x6), none] [] σ := by
        intro x6 h
        unfold B_X11_begin_59 at h
        refine go_ops ok_X11_begin_59_1 (L' := [some (.inr 0), some (.inl x1), some (.inl x2), some (.inl x3), some (.inl x4), none, some (.inl x6), none]) (st' := [.inl 0]) (σ1 := σ) rfl ?_
        exact hB_X11_begin_60 x6 false h
      have hB_X11_begin_55 : ∀ (x6 : Int), B_X11_begin_55 x6 σ = some w → Go l m_X11_begin (d + 1) LAYM (.inl (some (.inl q.1))) q.2 55 [some (.inr 0), some (.inl x1), some (.inl x2), some (.inl x3), some (.inl x4), none, some (.inl x6), none] [] σ := by
        intro x6 h
        unfold B_X11_begin_55 at h
        refine go_ops ok_X11_begin_55_1 (L' := [some (.inr 0), some (.inl x1), some (.inl x2), some (.inl x3), some (.inl x4), none, some (.inl x6), none]) (st' := [.inl 1]) (σ1 := σ) rfl ?_
        refine go_goto dc_X11_begin_56 (by rfl) ?_
        exact hB_X11_begin_60 x6 true h
      refine go_ops ok_X11_begin_11_2 (L' := [some (.inr 0), some (.inl x1), some (.inl x2), some (.inl x3), some (.inl x4), some (.inl (b2i x5)), some (.inl x6), none]) (st' := [.inl 3, .inl x6]) (σ1 := σ) rfl ?_
      refine go_icmp_ge dc_X11_begin_14 (by rfl) (fun hc => ?_) (fun hc => ?_)
      · replace h := (if_pos hc).symm.trans h
        cases h
        refine go_wk (L' := [some (.inr 0), some (.inl x1), some (.inl x2), some (.inl x3), some (.inl x4), some (.inl (b2i x5)), none, none]) ⟨rfl, rfl, rfl, rfl, rfl, rfl, trivial⟩ ?_
        exact hK
      · replace h := (if_neg hc).symm.trans h
        refine go_ops ok_X11_begin_17_4 (L' := [some (.inr 0), some (.inl x1), some (.inl x2), some (.inl x3), some (.inl x4), some (.inl (b2i x5)), some (.inl x6), none]) (st' := [.inl x6, .inl x4, .inl x3, .inl x2]) (σ1 := σ) rfl ?_
        refine go_S (M1 := m_X11_pick) (as := [.inl x2, .inl x3, .inl x4, .inl x6]) (st := []) dc_X11_begin_23 ln_11_175 sm_X11_pick mk_X11_pick rfl (Nat.le_of_ble_eq_true rfl) (Nat.le_refl _) (v := (some (.inl (F_X11_pick x2 x3 x4 x6)))) (σ1 := σ) (lk_X11_pick l d (by omega) x2 x3 x4 x6 σ _ rfl) _ rfl ?_
        obtain ⟨v3, e4, h⟩ := bnd_inv h
        refine go_ops ok_X11_begin_26_2 (L' := [some (.inr 0), some (.inl x1), some (.inl x2), some (.inl x3), some (.inl x4), some (.inl (b2i x5)), some (.inl x6), some (.inl v3)]) (st' := [.inl (b2i x5)]) (σ1 := σ) (by subst e4; rfl) ?_
        refine go_ifb_eq dc_X11_begin_30 (by rfl) (fun hc => ?_) (fun hc => ?_)
        · replace h := (if_neg hc).symm.trans h
          refine go_wk (L' := [some (.inr 0), some (.inl x1), some (.inl x2), some (.inl x3), some (.inl x4), none, some (.inl x6), none]) ⟨rfl, rfl, rfl, rfl, rfl, rfl, trivial⟩ ?_
          exact hB_X11_begin_59 x6 h
        · replace h := (if_pos hc).symm.trans h
          refine go_ops ok_X11_begin_33_2 (L' := [some (.inr 0), some (.inl x1), some (.inl x2), some (.inl x3), some (.inl x4), some (.inl (b2i x5)), some (.inl x6), some (.inl v3)]) (st' := [.inl x1, .inl x6]) (σ1 := σ) rfl ?_
          refine go_icmp_ge dc_X11_begin_36 (by rfl) (fun hc => ?_) (fun hc => ?_)
          · replace h := (if_pos hc).symm.trans h
            refine go_ops ok_X11_begin_50_1 (L' := [some (.inr 0), some (.inl x1), some (.inl x2), some (.inl x3), some (.inl x4), some (.inl (b2i x5)), some (.inl x6), some (.inl v3)]) (st' := [.inl v3]) (σ1 := σ) rfl ?_
            refine go_if_ne dc_X11_begin_52 (by rfl) (fun hc => ?_) (fun hc => ?_)
            · replace h := (if_neg hc).symm.trans h
              refine go_wk (L' := [some (.inr 0), some (.inl x1), some (.inl x2), some (.inl x3), some (.inl x4), none, some (.inl x6), none]) ⟨rfl, rfl, rfl, rfl, rfl, rfl, trivial⟩ ?_
              exact hB_X11_begin_59 x6 h
            · replace h := (if_pos hc).symm.trans h
              refine go_wk (L' := [some (.inr 0), some (.inl x1), some (.inl x2), some (.inl x3), some (.inl x4), none, some (.inl x6), none]) ⟨rfl, rfl, rfl, rfl, rfl, rfl, trivial⟩ ?_
              exact hB_X11_begin_55 x6 h
          · replace h := (if_neg hc).symm.trans h
            refine go_ops ok_X11_begin_39_1 (L' := [some (.inr 0), some (.inl x1), some (.inl x2), some (.inl x3), some (.inl x4), some (.inl (b2i x5)), some (.inl x6), some (.inl v3)]) (st' := [.inl v3]) (σ1 := σ) rfl ?_
            refine go_S (M1 := m_X11_isKind) (as := [.inl v3]) (st := []) dc_X11_begin_41 ln_11_179 sm_X11_isKind mk_X11_isKind rfl (Nat.le_of_ble_eq_true rfl) (Nat.le_refl _) (v := (some (.inl (b2i (F_X11_isKind v3))))) (σ1 := σ) (lk_X11_isKind l d (by omega) v3 σ _ rfl) _ rfl ?_
            refine go_ifb_eq dc_X11_begin_44 (by rfl) (fun hc => ?_) (fun hc => ?_)
            · replace h := (if_neg hc).symm.trans h
              refine go_wk (L' := [some (.inr 0), some (.inl x1), some (.inl x2), some (.inl x3), some (.inl x4), none, some (.inl x6), none]) ⟨rfl, rfl, rfl, rfl, rfl, rfl, trivial⟩ ?_
              exact hB_X11_begin_59 x6 h
            · replace h := (if_pos hc).symm.trans h
              refine go_goto dc_X11_begin_47 (by rfl) ?_
              refine go_wk (L' := [some (.inr 0), some (.inl x1), some (.inl x2), some (.inl x3), some (.inl x4), none, some (.inl x6), none]) ⟨rfl, rfl, rfl, rfl, rfl, rfl, trivial⟩ ?_
              exact hB_X11_begin_55 x6 h
    have hL_X11_begin_101 : ∀ (x2 : Int) (x3 : Int) (x4 : Int) (x6 : Int) (n : Nat) (a : (Int × Sg)) (y : Sg), iter (fun a : (Int × Sg) => L_X11_begin_101 x2 x3 x4 a.1 a.2) n a = some y → (fun y : Sg => Go l m_X11_begin (d + 1) LAYM (.inl (some (.inl q.1))) q.2 129 [some (.inr 0), none, none, none, none, none, some (.inl x6), none] [] y) y → (fun a : (Int × Sg) => Go l m_X11_begin (d + 1) LAYM (.inl (some (.inl q.1))) q.2 101 [some (.inr 0), none, some (.inl x2), some (.inl x3), some (.inl x4), none, some (.inl x6), some (.inl a.1)] [] a.2) a := by
      intro x2 x3 x4 x6
      refine go_iter (G := fun a : (Int × Sg) => Go l m_X11_begin (d + 1) LAYM (.inl (some (.inl q.1))) q.2 101 [some (.inr 0), none, some (.inl x2), some (.inl x3), some (.inl x4), none, some (.inl x6), some (.inl a.1)] [] a.2) (K := fun y : Sg => Go l m_X11_begin (d + 1) LAYM (.inl (some (.inl q.1))) q.2 129 [some (.inr 0), none, none, none, none, none, some (.inl x6), none] [] y) ?_
      rintro ⟨x7, σ⟩ w h hK
      replace h : L_X11_begin_101 x2 x3 x4 x7 σ = some w := h
      show Go l m_X11_begin (d + 1) LAYM (.inl (some (.inl q.1))) q.2 101 [some (.inr 0), none, some (.inl x2), some (.inl x3), some (.inl x4), none, some (.inl x6), some (.inl x7)] [] σ
      unfold L_X11_begin_101 at h
      refine go_ops ok_X11_begin_101_2 (L' := [some (.inr 0), none, some (.inl x2), some (.inl x3), some (.inl x4), none, some (.inl x6), some (.inl x7)]) (st' := [.inl 3, .inl x7]) (σ1 := σ) rfl ?_
      refine go_icmp_ge dc_X11_begin_104 (by rfl) (fun hc => ?_) (fun hc => ?_)
      · replace h := (if_pos hc).symm.trans h
        cases h
        refine go_wk (L' := [some (.inr 0), none, none, none, none, none, some (.inl x6), none]) ⟨rfl, rfl, trivial⟩ ?_
        exact hK
      · replace h := (if_neg hc).symm.trans h
        refine go_ops ok_X11_begin_107_7 (L' := [some (.inr 0), none, some (.inl x2), some (.inl x3), some (.inl x4), none, some (.inl x6), some (.inl x7)]) (st' := [.inl x7, .inl x4, .inl x3, .inl x2, .inl x7, .inr 19]) (σ1 := σ) rfl ?_
        refine go_S (M1 := m_X11_pick) (as := [.inl x2, .inl x3, .inl x4, .inl x7]) (st := [.inl x7, .inr 19]) dc_X11_begin_119 ln_11_175 sm_X11_pick mk_X11_pick rfl (Nat.le_of_ble_eq_true rfl) (Nat.le_refl _) (v := (some (.inl (F_X11_pick x2 x3 x4 x7)))) (σ1 := σ) (lk_X11_pick l d (by omega) x2 x3 x4 x7 σ _ rfl) _ rfl ?_
        obtain ⟨s13, e14, h⟩ := bind_inv h
        refine go_wr (k := 19) dc_X11_begin_122 rfl e14 ?_
        refine go_ops ok_X11_begin_123_1 (L' := [some (.inr 0), none, some (.inl x2), some (.inl x3), some (.inl x4), none, some (.inl x6), some (.inl (wrap (x7 + 1)))]) (st' := []) (σ1 := s13) rfl ?_
        refine go_goto dc_X11_begin_126 (by rfl) ?_
        cases h
        exact hK
    have hB_X11_begin_79 : ∀ (x1 : Int) (x2 : Int) (x3 : Int) (x4 : Int) (y0 : Bool) (σ : Sg), B_X11_begin_79 x1 x2 x3 x4 y0 σ = some q → Go l m_X11_begin (d + 1) LAYM (.inl (some (.inl q.1))) q.2 79 [some (.inr 0), some (.inl x1), some (.inl x2), some (.inl x3), some (.inl x4), none, none, none] [.inl (b2i y0), .inr 0] σ := by
      intro x1 x2 x3 x4 y0 σ h
      unfold B_X11_begin_79 at h
      obtain ⟨q7, e8, h⟩ := bnd_inv h
      refine go_V (M1 := m_X11_refused) (as := [.inl (b2i y0)]) (st := []) (k := 0) (ci := 11) dc_X11_begin_79 ln_11_183 im_X11_refused (by decide) rfl rfl mk_X11_refused rfl (Nat.le_of_ble_eq_true rfl) (Nat.le_refl _) (v := (some (.inl (b2i q7.1)))) (σ1 := q7.2) (lk_X11_refused l d (by omega) (b2i y0) σ q7 e8.symm) _ rfl ?_
      refine go_ifb_eq dc_X11_begin_82 (by rfl) (fun hc => ?_) (fun hc => ?_)
      · replace h := (if_neg hc).symm.trans h
        obtain ⟨v9, e10, h⟩ := bnd_inv h
        obtain ⟨s11, e12, h⟩ := bnd_inv h
        refine go_ops ok_X11_begin_87_8 (L' := [some (.inr 0), some (.inl x1), some (.inl x2), some (.inl x3), some (.inl x4), none, some (.inl v9), some (.inl 0)]) (st' := []) (σ1 := s11) (by subst e12; subst e10; rfl) ?_
        refine go_wk (L' := [some (.inr 0), none, some (.inl x2), some (.inl x3), some (.inl x4), none, some (.inl v9), some (.inl 0)]) ⟨rfl, rfl, rfl, rfl, rfl, rfl, trivial⟩ ?_
        obtain ⟨y15, e16, h⟩ := bind_inv h
        refine hL_X11_begin_101 x2 x3 x4 v9 4 (0, s11) y15 e16 ?_
        show Go l m_X11_begin (d + 1) LAYM (.inl (some (.inl q.1))) q.2 129 [some (.inr 0), none, none, none, none, none, some (.inl v9), none] [] y15
        obtain ⟨s17, e18, h⟩ := bnd_inv h
        obtain ⟨s19, e20, h⟩ := bnd_inv h
        obtain ⟨s21, e22, h⟩ := bnd_inv h
        obtain ⟨s23, e24, h⟩ := bnd_inv h
        obtain ⟨s25, e26, h⟩ := bnd_inv h
        refine go_ops ok_X11_begin_129_16 (L' := [some (.inr 0), none, none, none, none, none, some (.inl v9), none]) (st' := [.inl v9]) (σ1 := s25) (by subst e26; subst e24; subst e22; subst e20; subst e18; rfl) ?_
        have h9 := Option.some.inj h
        subst h9
        exact go_iret dc_X11_begin_156 rfl
      · replace h := (if_pos hc).symm.trans h
        refine go_ops ok_X11_begin_85_1 (L' := [some (.inr 0), some (.inl x1), some (.inl x2), some (.inl x3), some (.inl x4), none, none, none]) (st' := [.inl 0]) (σ1 := q7.2) rfl ?_
        have h9 := Option.some.inj h
        subst h9
        exact go_iret dc_X11_begin_86 rfl
    refine go_ops ok_X11_begin_0_3 (L' := [some (.inr 0), some (.inl a1), some (.inl a2), some (.inl a3), some (.inl a4), none, none, none]) (st' := [.inl 3, .inl 1, .inl a1]) (σ1 := σ) rfl ?_
    refine go_S (M1 := m_X11_in) (as := [.inl a1, .inl 1, .inl 3]) (st := []) dc_X11_begin_3 ln_11_171 sm_X11_in mk_X11_in rfl (Nat.le_of_ble_eq_true rfl) (Nat.le_refl _) (v := (some (.inl (b2i (F_X11_in a1 1 3))))) (σ1 := σ) (lk_X11_in l d (by omega) a1 1 3 σ _ rfl) _ rfl ?_
    obtain ⟨v1, e2, h⟩ := bnd_inv h
    refine go_ops ok_X11_begin_6_3 (L' := [some (.inr 0), some (.inl a1), some (.inl a2), some (.inl a3), some (.inl a4), some (.inl (b2i v1)), some (.inl 0), none]) (st' := []) (σ1 := σ) (by subst e2; rfl) ?_
    obtain ⟨y5, e6, h⟩ := bind_inv h
    refine hL_X11_begin_11 a1 a2 a3 a4 σ 4 (v1, 0) y5 e6 ?_
    show Go l m_X11_begin (d + 1) LAYM (.inl (some (.inl q.1))) q.2 68 [some (.inr 0), some (.inl a1), some (.inl a2), some (.inl a3), some (.inl a4), some (.inl (b2i y5)), none, none] [] σ
    refine go_ops ok_X11_begin_68_2 (L' := [some (.inr 0), some (.inl a1), some (.inl a2), some (.inl a3), some (.inl a4), some (.inl (b2i y5)), none, none]) (st' := [.inl (b2i y5), .inr 0]) (σ1 := σ) rfl ?_
    refine go_ifb_eq dc_X11_begin_71 (by rfl) (fun hc => ?_) (fun hc => ?_)
    · replace h := (if_neg hc).symm.trans h
      refine go_ops ok_X11_begin_78_1 (L' := [some (.inr 0), some (.inl a1), some (.inl a2), some (.inl a3), some (.inl a4), some (.inl (b2i y5)), none, none]) (st' := [.inl 1, .inr 0]) (σ1 := σ) rfl ?_
      refine go_wk (L' := [some (.inr 0), some (.inl a1), some (.inl a2), some (.inl a3), some (.inl a4), none, none, none]) ⟨rfl, rfl, rfl, rfl, rfl, trivial⟩ ?_
      exact hB_X11_begin_79 a1 a2 a3 a4 true σ h
    · replace h := (if_pos hc).symm.trans h
      refine go_ops ok_X11_begin_74_1 (L' := [some (.inr 0), some (.inl a1), some (.inl a2), some (.inl a3), some (.inl a4), some (.inl (b2i y5)), none, none]) (st' := [.inl 0, .inr 0]) (σ1 := σ) rfl ?_
      refine go_goto dc_X11_begin_75 (by rfl) ?_
      refine go_wk (L' := [some (.inr 0), some (.inl a1), some (.inl a2), some (.inl a3), some (.inl a4), none, none, none]) ⟨rfl, rfl, rfl, rfl, rfl, trivial⟩ ?_
      exact hB_X11_begin_79 a1 a2 a3 a4 false σ h
  have hf := go_ct (as := [.inr 0, .inl a1, .inl a2, .inl a3, .inl a4]) mk_X11_begin (by rfl) (Nat.le_of_ble_eq_true rfl) key
  exact hf
theorem dc_X11_copyCase_4 : decode m_X11_copyCase.2.2.1 4 = .ok (.if_icmp .ge 29, 3) := by decide +kernel
theorem dc_X11_copyCase_25 : decode m_X11_copyCase.2.2.1 25 = .ok (.iaload, 1) := by decide +kernel
theorem dc_X11_copyCase_26 : decode m_X11_copyCase.2.2.1 26 = .ok (.iastore, 1) := by decide +kernel
theorem dc_X11_copyCase_30 : decode m_X11_copyCase.2.2.1 30 = .ok (.goto (-28), 3) := by decide +kernel
theorem dc_X11_copyCase_43 : decode m_X11_copyCase.2.2.1 43 = .ok (.iaload, 1) := by decide +kernel
theorem dc_X11_copyCase_44 : decode m_X11_copyCase.2.2.1 44 = .ok (.iastore, 1) := by decide +kernel
theorem dc_X11_copyCase_55 : decode m_X11_copyCase.2.2.1 55 = .ok (.iaload, 1) := by decide +kernel
theorem dc_X11_copyCase_56 : decode m_X11_copyCase.2.2.1 56 = .ok (.iastore, 1) := by decide +kernel
theorem dc_X11_copyCase_67 : decode m_X11_copyCase.2.2.1 67 = .ok (.iaload, 1) := by decide +kernel
theorem dc_X11_copyCase_68 : decode m_X11_copyCase.2.2.1 68 = .ok (.iastore, 1) := by decide +kernel
theorem dc_X11_copyCase_79 : decode m_X11_copyCase.2.2.1 79 = .ok (.iaload, 1) := by decide +kernel
theorem dc_X11_copyCase_80 : decode m_X11_copyCase.2.2.1 80 = .ok (.iastore, 1) := by decide +kernel
theorem dc_X11_copyCase_91 : decode m_X11_copyCase.2.2.1 91 = .ok (.iaload, 1) := by decide +kernel
theorem dc_X11_copyCase_92 : decode m_X11_copyCase.2.2.1 92 = .ok (.iastore, 1) := by decide +kernel
theorem dc_X11_copyCase_93 : decode m_X11_copyCase.2.2.1 93 = .ok (.return_, 1) := by decide +kernel
theorem ok_X11_copyCase_0_2 : oks m_X11_copyCase.1 m_X11_copyCase.2.2.1 0 [(.iconst 0, 1, (0, 0, 0)), (.istore_n 3, 1, (0, 0, 0))] = true ∧ plen 0 [(.iconst 0, 1, (0, 0, 0)), (.istore_n 3, 1, (0, 0, 0))] = 2 := by decide +kernel
theorem ok_X11_copyCase_2_2 : oks m_X11_copyCase.1 m_X11_copyCase.2.2.1 2 [(.iload_n 3, 1, (0, 0, 0)), (.iconst 3, 1, (0, 0, 0))] = true ∧ plen 2 [(.iload_n 3, 1, (0, 0, 0)), (.iconst 3, 1, (0, 0, 0))] = 4 := by decide +kernel
theorem ok_X11_copyCase_7_14 : oks m_X11_copyCase.1 m_X11_copyCase.2.2.1 7 [(.aload_n 0, 1, (0, 0, 0)), (.getfield 68, 3, (11, 24, 0)), (.iconst 3, 1, (0, 0, 0)), (.iload_n 2, 1, (0, 0, 0)), (.imul, 1, (0, 0, 0)), (.iload_n 3, 1, (0, 0, 0)), (.iadd, 1, (0, 0, 0)), (.aload_n 0, 1, (0, 0, 0)), (.getfield 68, 3, (11, 24, 0)), (.iconst 3, 1, (0, 0, 0)), (.iload_n 1, 1, (0, 0, 0)), (.imul, 1, (0, 0, 0)), (.iload_n 3, 1, (0, 0, 0)), (.iadd, 1, (0, 0, 0))] = true ∧ plen 7 [(.aload_n 0, 1, (0, 0, 0)), (.getfield 68, 3, (11, 24, 0)), (.iconst 3, 1, (0, 0, 0)), (.iload_n 2, 1, (0, 0, 0)), (.imul, 1, (0, 0, 0)), (.iload_n 3, 1, (0, 0, 0)), (.iadd, 1, (0, 0, 0)), (.aload_n 0, 1, (0, 0, 0)), (.getfield 68, 3, (11, 24, 0)), (.iconst 3, 1, (0, 0, 0)), (.iload_n 1, 1, (0, 0, 0)), (.imul, 1, (0, 0, 0)), (.iload_n 3, 1, (0, 0, 0)), (.iadd, 1, (0, 0, 0))] = 25 := by decide +kernel
theorem ok_X11_copyCase_27_1 : oks m_X11_copyCase.1 m_X11_copyCase.2.2.1 27 [(.iinc 3 1, 3, (0, 0, 0))] = true ∧ plen 27 [(.iinc 3 1, 3, (0, 0, 0))] = 30 := by decide +kernel
theorem ok_X11_copyCase_33_6 : oks m_X11_copyCase.1 m_X11_copyCase.2.2.1 33 [(.aload_n 0, 1, (0, 0, 0)), (.getfield 71, 3, (11, 25, 0)), (.iload_n 2, 1, (0, 0, 0)), (.aload_n 0, 1, (0, 0, 0)), (.getfield 71, 3, (11, 25, 0)), (.iload_n 1, 1, (0, 0, 0))] = true ∧ plen 33 [(.aload_n 0, 1, (0, 0, 0)), (.getfield 71, 3, (11, 25, 0)), (.iload_n 2, 1, (0, 0, 0)), (.aload_n 0, 1, (0, 0, 0)), (.getfield 71, 3, (11, 25, 0)), (.iload_n 1, 1, (0, 0, 0))] = 43 := by decide +kernel
theorem ok_X11_copyCase_45_6 : oks m_X11_copyCase.1 m_X11_copyCase.2.2.1 45 [(.aload_n 0, 1, (0, 0, 0)), (.getfield 74, 3, (11, 26, 0)), (.iload_n 2, 1, (0, 0, 0)), (.aload_n 0, 1, (0, 0, 0)), (.getfield 74, 3, (11, 26, 0)), (.iload_n 1, 1, (0, 0, 0))] = true ∧ plen 45 [(.aload_n 0, 1, (0, 0, 0)), (.getfield 74, 3, (11, 26, 0)), (.iload_n 2, 1, (0, 0, 0)), (.aload_n 0, 1, (0, 0, 0)), (.getfield 74, 3, (11, 26, 0)), (.iload_n 1, 1, (0, 0, 0))] = 55 := by decide +kernel
theorem ok_X11_copyCase_57_6 : oks m_X11_copyCase.1 m_X11_copyCase.2.2.1 57 [(.aload_n 0, 1, (0, 0, 0)), (.getfield 77, 3, (11, 27, 0)), (.iload_n 2, 1, (0, 0, 0)), (.aload_n 0, 1, (0, 0, 0)), (.getfield 77, 3, (11, 27, 0)), (.iload_n 1, 1, (0, 0, 0))] = true ∧ plen 57 [(.aload_n 0, 1, (0, 0, 0)), (.getfield 77, 3, (11, 27, 0)), (.iload_n 2, 1, (0, 0, 0)), (.aload_n 0, 1, (0, 0, 0)), (.getfield 77, 3, (11, 27, 0)), (.iload_n 1, 1, (0, 0, 0))] = 67 := by decide +kernel
theorem ok_X11_copyCase_69_6 : oks m_X11_copyCase.1 m_X11_copyCase.2.2.1 69 [(.aload_n 0, 1, (0, 0, 0)), (.getfield 80, 3, (11, 28, 0)), (.iload_n 2, 1, (0, 0, 0)), (.aload_n 0, 1, (0, 0, 0)), (.getfield 80, 3, (11, 28, 0)), (.iload_n 1, 1, (0, 0, 0))] = true ∧ plen 69 [(.aload_n 0, 1, (0, 0, 0)), (.getfield 80, 3, (11, 28, 0)), (.iload_n 2, 1, (0, 0, 0)), (.aload_n 0, 1, (0, 0, 0)), (.getfield 80, 3, (11, 28, 0)), (.iload_n 1, 1, (0, 0, 0))] = 79 := by decide +kernel
theorem ok_X11_copyCase_81_6 : oks m_X11_copyCase.1 m_X11_copyCase.2.2.1 81 [(.aload_n 0, 1, (0, 0, 0)), (.getfield 83, 3, (11, 29, 0)), (.iload_n 2, 1, (0, 0, 0)), (.aload_n 0, 1, (0, 0, 0)), (.getfield 83, 3, (11, 29, 0)), (.iload_n 1, 1, (0, 0, 0))] = true ∧ plen 81 [(.aload_n 0, 1, (0, 0, 0)), (.getfield 83, 3, (11, 29, 0)), (.iload_n 2, 1, (0, 0, 0)), (.aload_n 0, 1, (0, 0, 0)), (.getfield 83, 3, (11, 29, 0)), (.iload_n 1, 1, (0, 0, 0))] = 91 := by decide +kernel
def L_X11_copyCase_2 (x1 : Int) (x2 : Int) (x3 : Int) (σ : Sg) : Option ((Int × Sg) ⊕ Sg) :=
if 3 ≤ x3 then
some (.inr σ)
else
(rdn 24 σ 20 (wrap ((wrap (3 * x1)) + x3))).bind fun v1 =>
(wrn 24 σ 20 (wrap ((wrap (3 * x2)) + x3)) v1).bind fun s3 =>
some (.inl (wrap (x3 + 1), s3))
def F_X11_copyCase (a1 : Int) (a2 : Int) (σ : Sg) : Option Sg :=
(iter (fun a : (Int × Sg) => L_X11_copyCase_2 a1 a2 a.1 a.2) 4 (0, σ)).bind fun y5 =>
(rdn 8 y5 21 a1).bind fun v7 =>
(wrn 8 y5 21 a2 v7).bind fun s9 =>
(rdn 8 s9 22 a1).bind fun v11 =>
(wrn 8 s9 22 a2 v11).bind fun s13 =>
(rdn 8 s13 23 a1).bind fun v15 =>
(wrn 8 s13 23 a2 v15).bind fun s17 =>
(rdn 8 s17 24 a1).bind fun v19 =>
(wrn 8 s17 24 a2 v19).bind fun s21 =>
(rdn 8 s21 25 a1).bind fun v23 =>
(wrn 8 s21 25 a2 v23).bind fun s25 =>
some s25
theorem lk_X11_copyCase (l : Launch) (d : Nat) (hd : 0 ≤ d) (a1 : Int) (a2 : Int) (σ : Sg) (q : Sg) (h : F_X11_copyCase a1 a2 σ = some q) : CT l d m_X11_copyCase.2.1 m_X11_copyCase.2.2.1 m_X11_copyCase.2.2.2.1 m_X11_copyCase.2.2.2.2 [.inr 0, .inl a1, .inl a2] (LAYM, σ) none (LAYM, q) := by
  skip
  have key : Go l m_X11_copyCase d LAYM (.inl none) q 0 [some (.inr 0), some (.inl a1), some (.inl a2), none] [] σ := by
    unfold F_X11_copyCase at h
    have hL_X11_copyCase_2 : ∀ (x1 : Int) (x2 : Int) (n : Nat) (a : (Int × Sg)) (y : Sg), iter (fun a : (Int × Sg) => L_X11_copyCase_2 x1 x2 a.1 a.2) n a = some y → (fun y : Sg => Go l m_X11_copyCase d LAYM (.inl none) q 33 [some (.inr 0), some (.inl x1), some (.inl x2), none] [] y) y → (fun a : (Int × Sg) => Go l m_X11_copyCase d LAYM (.inl none) q 2 [some (.inr 0), some (.inl x1), some (.inl x2), some (.inl a.1)] [] a.2) a := by
      intro x1 x2
      refine go_iter (G := fun a : (Int × Sg) => Go l m_X11_copyCase d LAYM (.inl none) q 2 [some (.inr 0), some (.inl x1), some (.inl x2), some (.inl a.1)] [] a.2) (K := fun y : Sg => Go l m_X11_copyCase d LAYM (.inl none) q 33 [some (.inr 0), some (.inl x1), some (.inl x2), none] [] y) ?_
      rintro ⟨x3, σ⟩ w h hK
      replace h : L_X11_copyCase_2 x1 x2 x3 σ = some w := h
      show Go l m_X11_copyCase d LAYM (.inl none) q 2 [some (.inr 0), some (.inl x1), some (.inl x2), some (.inl x3)] [] σ
      unfold L_X11_copyCase_2 at h
      refine go_ops ok_X11_copyCase_2_2 (L' := [some (.inr 0), some (.inl x1), some (.inl x2), some (.inl x3)]) (st' := [.inl 3, .inl x3]) (σ1 := σ) rfl ?_
      refine go_icmp_ge dc_X11_copyCase_4 (by rfl) (fun hc => ?_) (fun hc => ?_)
      · replace h := (if_pos hc).symm.trans h
        cases h
        refine go_wk (L' := [some (.inr 0), some (.inl x1), some (.inl x2), none]) ⟨rfl, rfl, rfl, trivial⟩ ?_
        exact hK
      · replace h := (if_neg hc).symm.trans h
        refine go_ops ok_X11_copyCase_7_14 (L' := [some (.inr 0), some (.inl x1), some (.inl x2), some (.inl x3)]) (st' := [.inl (wrap ((wrap (3 * x1)) + x3)), .inr 20, .inl (wrap ((wrap (3 * x2)) + x3)), .inr 20]) (σ1 := σ) rfl ?_
        obtain ⟨v1, e2, h⟩ := bind_inv h
        refine go_rd (k := 20) dc_X11_copyCase_25 rfl e2 ?_
        obtain ⟨s3, e4, h⟩ := bind_inv h
        refine go_wr (k := 20) dc_X11_copyCase_26 rfl e4 ?_
        refine go_ops ok_X11_copyCase_27_1 (L' := [some (.inr 0), some (.inl x1), some (.inl x2), some (.inl (wrap (x3 + 1)))]) (st' := []) (σ1 := s3) rfl ?_
        refine go_goto dc_X11_copyCase_30 (by rfl) ?_
        cases h
        exact hK
    refine go_ops ok_X11_copyCase_0_2 (L' := [some (.inr 0), some (.inl a1), some (.inl a2), some (.inl 0)]) (st' := []) (σ1 := σ) rfl ?_
    obtain ⟨y5, e6, h⟩ := bind_inv h
    refine hL_X11_copyCase_2 a1 a2 4 (0, σ) y5 e6 ?_
    show Go l m_X11_copyCase d LAYM (.inl none) q 33 [some (.inr 0), some (.inl a1), some (.inl a2), none] [] y5
    refine go_ops ok_X11_copyCase_33_6 (L' := [some (.inr 0), some (.inl a1), some (.inl a2), none]) (st' := [.inl a1, .inr 21, .inl a2, .inr 21]) (σ1 := y5) rfl ?_
    obtain ⟨v7, e8, h⟩ := bind_inv h
    refine go_rd (k := 21) dc_X11_copyCase_43 rfl e8 ?_
    obtain ⟨s9, e10, h⟩ := bind_inv h
    refine go_wr (k := 21) dc_X11_copyCase_44 rfl e10 ?_
    refine go_ops ok_X11_copyCase_45_6 (L' := [some (.inr 0), some (.inl a1), some (.inl a2), none]) (st' := [.inl a1, .inr 22, .inl a2, .inr 22]) (σ1 := s9) rfl ?_
    obtain ⟨v11, e12, h⟩ := bind_inv h
    refine go_rd (k := 22) dc_X11_copyCase_55 rfl e12 ?_
    obtain ⟨s13, e14, h⟩ := bind_inv h
    refine go_wr (k := 22) dc_X11_copyCase_56 rfl e14 ?_
    refine go_ops ok_X11_copyCase_57_6 (L' := [some (.inr 0), some (.inl a1), some (.inl a2), none]) (st' := [.inl a1, .inr 23, .inl a2, .inr 23]) (σ1 := s13) rfl ?_
    obtain ⟨v15, e16, h⟩ := bind_inv h
    refine go_rd (k := 23) dc_X11_copyCase_67 rfl e16 ?_
    obtain ⟨s17, e18, h⟩ := bind_inv h
    refine go_wr (k := 23) dc_X11_copyCase_68 rfl e18 ?_
    refine go_ops ok_X11_copyCase_69_6 (L' := [some (.inr 0), some (.inl a1), some (.inl a2), none]) (st' := [.inl a1, .inr 24, .inl a2, .inr 24]) (σ1 := s17) rfl ?_
    obtain ⟨v19, e20, h⟩ := bind_inv h
    refine go_rd (k := 24) dc_X11_copyCase_79 rfl e20 ?_
    obtain ⟨s21, e22, h⟩ := bind_inv h
    refine go_wr (k := 24) dc_X11_copyCase_80 rfl e22 ?_
    refine go_ops ok_X11_copyCase_81_6 (L' := [some (.inr 0), some (.inl a1), some (.inl a2), none]) (st' := [.inl a1, .inr 25, .inl a2, .inr 25]) (σ1 := s21) rfl ?_
    obtain ⟨v23, e24, h⟩ := bind_inv h
    refine go_rd (k := 25) dc_X11_copyCase_91 rfl e24 ?_
    obtain ⟨s25, e26, h⟩ := bind_inv h
    refine go_wr (k := 25) dc_X11_copyCase_92 rfl e26 ?_
    have h9 := Option.some.inj h
    subst h9
    exact go_vret dc_X11_copyCase_93 rfl
  have hf := go_ct (as := [.inr 0, .inl a1, .inl a2]) mk_X11_copyCase (by rfl) (Nat.le_of_ble_eq_true rfl) key
  exact hf
theorem dc_X11_open_7 : decode m_X11_open.2.2.1 7 = .ok (.if_icmp .le 17, 3) := by decide +kernel
theorem dc_X11_open_15 : decode m_X11_open.2.2.1 15 = .ok (.invokevirtual 240, 3) := by decide +kernel
theorem dc_X11_open_21 : decode m_X11_open.2.2.1 21 = .ok (.goto (-16), 3) := by decide +kernel
theorem dc_X11_open_40 : decode m_X11_open.2.2.1 40 = .ok (.iastore, 1) := by decide +kernel
theorem dc_X11_open_47 : decode m_X11_open.2.2.1 47 = .ok (.iastore, 1) := by decide +kernel
theorem dc_X11_open_53 : decode m_X11_open.2.2.1 53 = .ok (.return_, 1) := by decide +kernel
theorem ok_X11_open_0_3 : oks m_X11_open.1 m_X11_open.2.2.1 0 [(.aload_n 0, 1, (0, 0, 0)), (.getfield 228, 3, (11, 23, 0)), (.istore_n 2, 1, (0, 0, 0))] = true ∧ plen 0 [(.aload_n 0, 1, (0, 0, 0)), (.getfield 228, 3, (11, 23, 0)), (.istore_n 2, 1, (0, 0, 0))] = 5 := by decide +kernel
theorem ok_X11_open_5_2 : oks m_X11_open.1 m_X11_open.2.2.1 5 [(.iload_n 2, 1, (0, 0, 0)), (.iload_n 1, 1, (0, 0, 0))] = true ∧ plen 5 [(.iload_n 2, 1, (0, 0, 0)), (.iload_n 1, 1, (0, 0, 0))] = 7 := by decide +kernel
theorem ok_X11_open_10_5 : oks m_X11_open.1 m_X11_open.2.2.1 10 [(.aload_n 0, 1, (0, 0, 0)), (.iload_n 2, 1, (0, 0, 0)), (.iconst 1, 1, (0, 0, 0)), (.isub, 1, (0, 0, 0)), (.iload_n 2, 1, (0, 0, 0))] = true ∧ plen 10 [(.aload_n 0, 1, (0, 0, 0)), (.iload_n 2, 1, (0, 0, 0)), (.iconst 1, 1, (0, 0, 0)), (.isub, 1, (0, 0, 0)), (.iload_n 2, 1, (0, 0, 0))] = 15 := by decide +kernel
theorem ok_X11_open_18_1 : oks m_X11_open.1 m_X11_open.2.2.1 18 [(.iinc 2 (-1), 3, (0, 0, 0))] = true ∧ plen 18 [(.iinc 2 (-1), 3, (0, 0, 0))] = 21 := by decide +kernel
theorem ok_X11_open_24_10 : oks m_X11_open.1 m_X11_open.2.2.1 24 [(.aload_n 0, 1, (0, 0, 0)), (.dup, 1, (0, 0, 0)), (.getfield 228, 3, (11, 23, 0)), (.iconst 1, 1, (0, 0, 0)), (.iadd, 1, (0, 0, 0)), (.putfield 228, 3, (11, 23, 0)), (.aload_n 0, 1, (0, 0, 0)), (.getfield 83, 3, (11, 29, 0)), (.iload_n 1, 1, (0, 0, 0)), (.iconst 0, 1, (0, 0, 0))] = true ∧ plen 24 [(.aload_n 0, 1, (0, 0, 0)), (.dup, 1, (0, 0, 0)), (.getfield 228, 3, (11, 23, 0)), (.iconst 1, 1, (0, 0, 0)), (.iadd, 1, (0, 0, 0)), (.putfield 228, 3, (11, 23, 0)), (.aload_n 0, 1, (0, 0, 0)), (.getfield 83, 3, (11, 29, 0)), (.iload_n 1, 1, (0, 0, 0)), (.iconst 0, 1, (0, 0, 0))] = 40 := by decide +kernel
theorem ok_X11_open_41_4 : oks m_X11_open.1 m_X11_open.2.2.1 41 [(.aload_n 0, 1, (0, 0, 0)), (.getfield 74, 3, (11, 26, 0)), (.iload_n 1, 1, (0, 0, 0)), (.iconst (-1), 1, (0, 0, 0))] = true ∧ plen 41 [(.aload_n 0, 1, (0, 0, 0)), (.getfield 74, 3, (11, 26, 0)), (.iload_n 1, 1, (0, 0, 0)), (.iconst (-1), 1, (0, 0, 0))] = 47 := by decide +kernel
theorem ok_X11_open_48_3 : oks m_X11_open.1 m_X11_open.2.2.1 48 [(.aload_n 0, 1, (0, 0, 0)), (.iconst (-1), 1, (0, 0, 0)), (.putfield 161, 3, (11, 54, 0))] = true ∧ plen 48 [(.aload_n 0, 1, (0, 0, 0)), (.iconst (-1), 1, (0, 0, 0)), (.putfield 161, 3, (11, 54, 0))] = 53 := by decide +kernel
def L_X11_open_5 (x1 : Int) (x2 : Int) (σ : Sg) : Option ((Int × Sg) ⊕ Sg) :=
if x2 ≤ x1 then
some (.inr σ)
else
(F_X11_copyCase (wrap (x2 - 1)) x2 σ).bind fun q3 =>
some (.inl (wrap (x2 + (-1)), q3))
def F_X11_open (a1 : Int) (σ : Sg) : Option Sg :=
bnd (σ 0 23) fun v1 =>
(iter (fun a : (Int × Sg) => L_X11_open_5 a1 a.1 a.2) 3000 (v1, σ)).bind fun y5 =>
bnd (up2 y5 0 23 (wrap ((y5 0 23) + 1))) fun s7 =>
(wrn 8 s7 25 a1 0).bind fun s9 =>
(wrn 8 s9 22 a1 (-1)).bind fun s11 =>
bnd (up2 s11 0 54 (-1)) fun s13 =>
some s13
theorem lk_X11_open (l : Launch) (d : Nat) (hd : 1 ≤ d) (a1 : Int) (σ : Sg) (q : Sg) (h : F_X11_open a1 σ = some q) : CT l d m_X11_open.2.1 m_X11_open.2.2.1 m_X11_open.2.2.2.1 m_X11_open.2.2.2.2 [.inr 0, .inl a1] (LAYM, σ) none (LAYM, q) := by
  obtain ⟨d, rfl⟩ : ∃ e, d = e + 1 := ⟨d - 1, by omega⟩
  have key : Go l m_X11_open (d + 1) LAYM (.inl none) q 0 [some (.inr 0), some (.inl a1), none] [] σ := by
    unfold F_X11_open at h
    have hL_X11_open_5 : ∀ (x1 : Int) (n : Nat) (a : (Int × Sg)) (y : Sg), iter (fun a : (Int × Sg) => L_X11_open_5 x1 a.1 a.2) n a = some y → (fun y : Sg => Go l m_X11_open (d + 1) LAYM (.inl none) q 24 [some (.inr 0), some (.inl x1), none] [] y) y → (fun a : (Int × Sg) => Go l m_X11_open (d + 1) LAYM (.inl none) q 5 [some (.inr 0), some (.inl x1), some (.inl a.1)] [] a.2) a := by
      intro x1
      refine go_iter (G := fun a : (Int × Sg) => Go l m_X11_open (d + 1) LAYM (.inl none) q 5 [some (.inr 0), some (.inl x1), some (.inl a.1)] [] a.2) (K := fun y : Sg => Go l m_X11_open (d + 1) LAYM (.inl none) q 24 [some (.inr 0), some (.inl x1), none] [] y) ?_
      rintro ⟨x2, σ⟩ w h hK
      replace h : L_X11_open_5 x1 x2 σ = some w := h
      show Go l m_X11_open (d + 1) LAYM (.inl none) q 5 [some (.inr 0), some (.inl x1), some (.inl x2)] [] σ
      unfold L_X11_open_5 at h
      refine go_ops ok_X11_open_5_2 (L' := [some (.inr 0), some (.inl x1), some (.inl x2)]) (st' := [.inl x1, .inl x2]) (σ1 := σ) rfl ?_
      refine go_icmp_le dc_X11_open_7 (by rfl) (fun hc => ?_) (fun hc => ?_)
      · replace h := (if_pos hc).symm.trans h
        cases h
        refine go_wk (L' := [some (.inr 0), some (.inl x1), none]) ⟨rfl, rfl, trivial⟩ ?_
        exact hK
      · replace h := (if_neg hc).symm.trans h
        refine go_ops ok_X11_open_10_5 (L' := [some (.inr 0), some (.inl x1), some (.inl x2)]) (st' := [.inl x2, .inl (wrap (x2 - 1)), .inr 0]) (σ1 := σ) rfl ?_
        obtain ⟨q3, e4, h⟩ := bind_inv h
        refine go_V (M1 := m_X11_copyCase) (as := [.inl (wrap (x2 - 1)), .inl x2]) (st := []) (k := 0) (ci := 11) dc_X11_open_15 ln_11_240 im_X11_copyCase (by decide) rfl rfl mk_X11_copyCase rfl (Nat.le_of_ble_eq_true rfl) (Nat.le_refl _) (v := none) (σ1 := q3) (lk_X11_copyCase l d (by omega) (wrap (x2 - 1)) x2 σ q3 e4) _ rfl ?_
        refine go_ops ok_X11_open_18_1 (L' := [some (.inr 0), some (.inl x1), some (.inl (wrap (x2 + (-1))))]) (st' := []) (σ1 := q3) rfl ?_
        refine go_goto dc_X11_open_21 (by rfl) ?_
        cases h
        exact hK
    obtain ⟨v1, e2, h⟩ := bnd_inv h
    refine go_ops ok_X11_open_0_3 (L' := [some (.inr 0), some (.inl a1), some (.inl v1)]) (st' := []) (σ1 := σ) (by subst e2; rfl) ?_
    obtain ⟨y5, e6, h⟩ := bind_inv h
    refine hL_X11_open_5 a1 3000 (v1, σ) y5 e6 ?_
    show Go l m_X11_open (d + 1) LAYM (.inl none) q 24 [some (.inr 0), some (.inl a1), none] [] y5
    obtain ⟨s7, e8, h⟩ := bnd_inv h
    refine go_ops ok_X11_open_24_10 (L' := [some (.inr 0), some (.inl a1), none]) (st' := [.inl 0, .inl a1, .inr 25]) (σ1 := s7) (by subst e8; rfl) ?_
    obtain ⟨s9, e10, h⟩ := bind_inv h
    refine go_wr (k := 25) dc_X11_open_40 rfl e10 ?_
    refine go_ops ok_X11_open_41_4 (L' := [some (.inr 0), some (.inl a1), none]) (st' := [.inl (-1), .inl a1, .inr 22]) (σ1 := s9) rfl ?_
    obtain ⟨s11, e12, h⟩ := bind_inv h
    refine go_wr (k := 22) dc_X11_open_47 rfl e12 ?_
    obtain ⟨s13, e14, h⟩ := bnd_inv h
    refine go_ops ok_X11_open_48_3 (L' := [some (.inr 0), some (.inl a1), none]) (st' := []) (σ1 := s13) (by subst e14; rfl) ?_
    have h9 := Option.some.inj h
    subst h9
    exact go_vret dc_X11_open_53 rfl
  have hf := go_ct (as := [.inr 0, .inl a1]) mk_X11_open (by rfl) (Nat.le_of_ble_eq_true rfl) key
  exact hf
