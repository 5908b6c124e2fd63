/-! read off: X11_gave .. X11_needsOf -/
theorem dc_X11_gave_7 : decode m_X11_gave.2.2.1 7 = .ok (.ifCond .ne 108, 3) := by decide +kernel
theorem dc_X11_gave_18 : decode m_X11_gave.2.2.1 18 = .ok (.ifCond .le 95, 3) := by decide +kernel
theorem dc_X11_gave_31 : decode m_X11_gave.2.2.1 31 = .ok (.iaload, 1) := by decide +kernel
theorem dc_X11_gave_32 : decode m_X11_gave.2.2.1 32 = .ok (.iaload, 1) := by decide +kernel
theorem dc_X11_gave_34 : decode m_X11_gave.2.2.1 34 = .ok (.if_icmp .ne 39, 3) := by decide +kernel
theorem dc_X11_gave_47 : decode m_X11_gave.2.2.1 47 = .ok (.iaload, 1) := by decide +kernel
theorem dc_X11_gave_48 : decode m_X11_gave.2.2.1 48 = .ok (.iaload, 1) := by decide +kernel
theorem dc_X11_gave_50 : decode m_X11_gave.2.2.1 50 = .ok (.if_icmp .ne 23, 3) := by decide +kernel
theorem dc_X11_gave_63 : decode m_X11_gave.2.2.1 63 = .ok (.iaload, 1) := by decide +kernel
theorem dc_X11_gave_64 : decode m_X11_gave.2.2.1 64 = .ok (.iaload, 1) := by decide +kernel
theorem dc_X11_gave_66 : decode m_X11_gave.2.2.1 66 = .ok (.if_icmp .ne 7, 3) := by decide +kernel
theorem dc_X11_gave_70 : decode m_X11_gave.2.2.1 70 = .ok (.goto 4, 3) := by decide +kernel
theorem dc_X11_gave_78 : decode m_X11_gave.2.2.1 78 = .ok (.ifCond .eq 21, 3) := by decide +kernel
theorem dc_X11_gave_93 : decode m_X11_gave.2.2.1 93 = .ok (.iaload, 1) := by decide +kernel
theorem dc_X11_gave_94 : decode m_X11_gave.2.2.1 94 = .ok (.iaload, 1) := by decide +kernel
theorem dc_X11_gave_96 : decode m_X11_gave.2.2.1 96 = .ok (.goto 4, 3) := by decide +kernel
theorem dc_X11_gave_107 : decode m_X11_gave.2.2.1 107 = .ok (.iaload, 1) := by decide +kernel
theorem dc_X11_gave_110 : decode m_X11_gave.2.2.1 110 = .ok (.goto (-94), 3) := by decide +kernel
theorem dc_X11_gave_114 : decode m_X11_gave.2.2.1 114 = .ok (.ireturn, 1) := by decide +kernel
theorem dc_X11_gave_124 : decode m_X11_gave.2.2.1 124 = .ok (.if_icmp .ge 43, 3) := by decide +kernel
theorem dc_X11_gave_133 : decode m_X11_gave.2.2.1 133 = .ok (.iaload, 1) := by decide +kernel
theorem dc_X11_gave_135 : decode m_X11_gave.2.2.1 135 = .ok (.if_icmp .ne 24, 3) := by decide +kernel
theorem dc_X11_gave_144 : decode m_X11_gave.2.2.1 144 = .ok (.iaload, 1) := by decide +kernel
theorem dc_X11_gave_146 : decode m_X11_gave.2.2.1 146 = .ok (.if_icmp .ne 13, 3) := by decide +kernel
theorem dc_X11_gave_155 : decode m_X11_gave.2.2.1 155 = .ok (.iaload, 1) := by decide +kernel
theorem dc_X11_gave_156 : decode m_X11_gave.2.2.1 156 = .ok (.goto 4, 3) := by decide +kernel
theorem dc_X11_gave_164 : decode m_X11_gave.2.2.1 164 = .ok (.goto (-46), 3) := by decide +kernel
theorem dc_X11_gave_170 : decode m_X11_gave.2.2.1 170 = .ok (.if_icmp .ne 110, 3) := by decide +kernel
theorem dc_X11_gave_182 : decode m_X11_gave.2.2.1 182 = .ok (.iaload, 1) := by decide +kernel
theorem dc_X11_gave_192 : decode m_X11_gave.2.2.1 192 = .ok (.iaload, 1) := by decide +kernel
theorem dc_X11_gave_195 : decode m_X11_gave.2.2.1 195 = .ok (.invokevirtual 271, 3) := by decide +kernel
theorem dc_X11_gave_208 : decode m_X11_gave.2.2.1 208 = .ok (.iaload, 1) := by decide +kernel
theorem dc_X11_gave_224 : decode m_X11_gave.2.2.1 224 = .ok (.iaload, 1) := by decide +kernel
theorem dc_X11_gave_232 : decode m_X11_gave.2.2.1 232 = .ok (.irem, 1) := by decide +kernel
theorem dc_X11_gave_238 : decode m_X11_gave.2.2.1 238 = .ok (.irem, 1) := by decide +kernel
theorem dc_X11_gave_249 : decode m_X11_gave.2.2.1 249 = .ok (.iastore, 1) := by decide +kernel
theorem dc_X11_gave_259 : decode m_X11_gave.2.2.1 259 = .ok (.iastore, 1) := by decide +kernel
theorem dc_X11_gave_269 : decode m_X11_gave.2.2.1 269 = .ok (.iastore, 1) := by decide +kernel
theorem dc_X11_gave_281 : decode m_X11_gave.2.2.1 281 = .ok (.ireturn, 1) := by decide +kernel
theorem ok_X11_gave_0_4 : oks m_X11_gave.1 m_X11_gave.2.2.1 0 [(.bipush (-9), 2, (0, 0, 0)), (.istore_n 3, 1, (0, 0, 0)), (.aload_n 0, 1, (0, 0, 0)), (.getfield 261, 3, (11, 40, 0))] = true ∧ plen 0 [(.bipush (-9), 2, (0, 0, 0)), (.istore_n 3, 1, (0, 0, 0)), (.aload_n 0, 1, (0, 0, 0)), (.getfield 261, 3, (11, 40, 0))] = 7 := by decide +kernel
theorem ok_X11_gave_10_3 : oks m_X11_gave.1 m_X11_gave.2.2.1 10 [(.aload_n 0, 1, (0, 0, 0)), (.getfield 268, 3, (11, 41, 0)), (.istore 4, 2, (0, 0, 0))] = true ∧ plen 10 [(.aload_n 0, 1, (0, 0, 0)), (.getfield 268, 3, (11, 41, 0)), (.istore 4, 2, (0, 0, 0))] = 16 := by decide +kernel
theorem ok_X11_gave_16_1 : oks m_X11_gave.1 m_X11_gave.2.2.1 16 [(.iload 4, 2, (0, 0, 0))] = true ∧ plen 16 [(.iload 4, 2, (0, 0, 0))] = 18 := by decide +kernel
theorem ok_X11_gave_21_5 : oks m_X11_gave.1 m_X11_gave.2.2.1 21 [(.aload_n 0, 1, (0, 0, 0)), (.getfield 131, 3, (11, 58, 0)), (.aload_n 0, 1, (0, 0, 0)), (.getfield 128, 3, (11, 57, 0)), (.iload 4, 2, (0, 0, 0))] = true ∧ plen 21 [(.aload_n 0, 1, (0, 0, 0)), (.getfield 131, 3, (11, 58, 0)), (.aload_n 0, 1, (0, 0, 0)), (.getfield 128, 3, (11, 57, 0)), (.iload 4, 2, (0, 0, 0))] = 31 := by decide +kernel
theorem ok_X11_gave_33_1 : oks m_X11_gave.1 m_X11_gave.2.2.1 33 [(.iconst 4, 1, (0, 0, 0))] = true ∧ plen 33 [(.iconst 4, 1, (0, 0, 0))] = 34 := by decide +kernel
theorem ok_X11_gave_37_5 : oks m_X11_gave.1 m_X11_gave.2.2.1 37 [(.aload_n 0, 1, (0, 0, 0)), (.getfield 134, 3, (11, 59, 0)), (.aload_n 0, 1, (0, 0, 0)), (.getfield 128, 3, (11, 57, 0)), (.iload 4, 2, (0, 0, 0))] = true ∧ plen 37 [(.aload_n 0, 1, (0, 0, 0)), (.getfield 134, 3, (11, 59, 0)), (.aload_n 0, 1, (0, 0, 0)), (.getfield 128, 3, (11, 57, 0)), (.iload 4, 2, (0, 0, 0))] = 47 := by decide +kernel
theorem ok_X11_gave_49_1 : oks m_X11_gave.1 m_X11_gave.2.2.1 49 [(.iload_n 1, 1, (0, 0, 0))] = true ∧ plen 49 [(.iload_n 1, 1, (0, 0, 0))] = 50 := by decide +kernel
theorem ok_X11_gave_53_5 : oks m_X11_gave.1 m_X11_gave.2.2.1 53 [(.aload_n 0, 1, (0, 0, 0)), (.getfield 137, 3, (11, 60, 0)), (.aload_n 0, 1, (0, 0, 0)), (.getfield 128, 3, (11, 57, 0)), (.iload 4, 2, (0, 0, 0))] = true ∧ plen 53 [(.aload_n 0, 1, (0, 0, 0)), (.getfield 137, 3, (11, 60, 0)), (.aload_n 0, 1, (0, 0, 0)), (.getfield 128, 3, (11, 57, 0)), (.iload 4, 2, (0, 0, 0))] = 63 := by decide +kernel
theorem ok_X11_gave_65_1 : oks m_X11_gave.1 m_X11_gave.2.2.1 65 [(.iload_n 2, 1, (0, 0, 0))] = true ∧ plen 65 [(.iload_n 2, 1, (0, 0, 0))] = 66 := by decide +kernel
theorem ok_X11_gave_69_1 : oks m_X11_gave.1 m_X11_gave.2.2.1 69 [(.iconst 1, 1, (0, 0, 0))] = true ∧ plen 69 [(.iconst 1, 1, (0, 0, 0))] = 70 := by decide +kernel
theorem ok_X11_gave_73_1 : oks m_X11_gave.1 m_X11_gave.2.2.1 73 [(.iconst 0, 1, (0, 0, 0))] = true ∧ plen 73 [(.iconst 0, 1, (0, 0, 0))] = 74 := by decide +kernel
theorem ok_X11_gave_74_2 : oks m_X11_gave.1 m_X11_gave.2.2.1 74 [(.istore 5, 2, (0, 0, 0)), (.iload 5, 2, (0, 0, 0))] = true ∧ plen 74 [(.istore 5, 2, (0, 0, 0)), (.iload 5, 2, (0, 0, 0))] = 78 := by decide +kernel
theorem ok_X11_gave_81_6 : oks m_X11_gave.1 m_X11_gave.2.2.1 81 [(.iload 4, 2, (0, 0, 0)), (.aload_n 0, 1, (0, 0, 0)), (.getfield 140, 3, (11, 61, 0)), (.aload_n 0, 1, (0, 0, 0)), (.getfield 128, 3, (11, 57, 0)), (.iload 4, 2, (0, 0, 0))] = true ∧ plen 81 [(.iload 4, 2, (0, 0, 0)), (.aload_n 0, 1, (0, 0, 0)), (.getfield 140, 3, (11, 61, 0)), (.aload_n 0, 1, (0, 0, 0)), (.getfield 128, 3, (11, 57, 0)), (.iload 4, 2, (0, 0, 0))] = 93 := by decide +kernel
theorem ok_X11_gave_95_1 : oks m_X11_gave.1 m_X11_gave.2.2.1 95 [(.isub, 1, (0, 0, 0))] = true ∧ plen 95 [(.isub, 1, (0, 0, 0))] = 96 := by decide +kernel
theorem ok_X11_gave_99_1 : oks m_X11_gave.1 m_X11_gave.2.2.1 99 [(.iload_n 3, 1, (0, 0, 0))] = true ∧ plen 99 [(.iload_n 3, 1, (0, 0, 0))] = 100 := by decide +kernel
theorem ok_X11_gave_100_4 : oks m_X11_gave.1 m_X11_gave.2.2.1 100 [(.istore_n 3, 1, (0, 0, 0)), (.aload_n 0, 1, (0, 0, 0)), (.getfield 128, 3, (11, 57, 0)), (.iload 4, 2, (0, 0, 0))] = true ∧ plen 100 [(.istore_n 3, 1, (0, 0, 0)), (.aload_n 0, 1, (0, 0, 0)), (.getfield 128, 3, (11, 57, 0)), (.iload 4, 2, (0, 0, 0))] = 107 := by decide +kernel
theorem ok_X11_gave_108_1 : oks m_X11_gave.1 m_X11_gave.2.2.1 108 [(.istore 4, 2, (0, 0, 0))] = true ∧ plen 108 [(.istore 4, 2, (0, 0, 0))] = 110 := by decide +kernel
theorem ok_X11_gave_113_1 : oks m_X11_gave.1 m_X11_gave.2.2.1 113 [(.iload_n 3, 1, (0, 0, 0))] = true ∧ plen 113 [(.iload_n 3, 1, (0, 0, 0))] = 114 := by decide +kernel
theorem ok_X11_gave_115_2 : oks m_X11_gave.1 m_X11_gave.2.2.1 115 [(.iconst 0, 1, (0, 0, 0)), (.istore 4, 2, (0, 0, 0))] = true ∧ plen 115 [(.iconst 0, 1, (0, 0, 0)), (.istore 4, 2, (0, 0, 0))] = 118 := by decide +kernel
theorem ok_X11_gave_118_3 : oks m_X11_gave.1 m_X11_gave.2.2.1 118 [(.iload 4, 2, (0, 0, 0)), (.aload_n 0, 1, (0, 0, 0)), (.getfield 237, 3, (11, 48, 0))] = true ∧ plen 118 [(.iload 4, 2, (0, 0, 0)), (.aload_n 0, 1, (0, 0, 0)), (.getfield 237, 3, (11, 48, 0))] = 124 := by decide +kernel
theorem ok_X11_gave_127_3 : oks m_X11_gave.1 m_X11_gave.2.2.1 127 [(.aload_n 0, 1, (0, 0, 0)), (.getfield 116, 3, (11, 49, 0)), (.iload 4, 2, (0, 0, 0))] = true ∧ plen 127 [(.aload_n 0, 1, (0, 0, 0)), (.getfield 116, 3, (11, 49, 0)), (.iload 4, 2, (0, 0, 0))] = 133 := by decide +kernel
theorem ok_X11_gave_134_1 : oks m_X11_gave.1 m_X11_gave.2.2.1 134 [(.iload_n 1, 1, (0, 0, 0))] = true ∧ plen 134 [(.iload_n 1, 1, (0, 0, 0))] = 135 := by decide +kernel
theorem ok_X11_gave_138_3 : oks m_X11_gave.1 m_X11_gave.2.2.1 138 [(.aload_n 0, 1, (0, 0, 0)), (.getfield 119, 3, (11, 50, 0)), (.iload 4, 2, (0, 0, 0))] = true ∧ plen 138 [(.aload_n 0, 1, (0, 0, 0)), (.getfield 119, 3, (11, 50, 0)), (.iload 4, 2, (0, 0, 0))] = 144 := by decide +kernel
theorem ok_X11_gave_145_1 : oks m_X11_gave.1 m_X11_gave.2.2.1 145 [(.iload_n 2, 1, (0, 0, 0))] = true ∧ plen 145 [(.iload_n 2, 1, (0, 0, 0))] = 146 := by decide +kernel
theorem ok_X11_gave_149_3 : oks m_X11_gave.1 m_X11_gave.2.2.1 149 [(.aload_n 0, 1, (0, 0, 0)), (.getfield 122, 3, (11, 51, 0)), (.iload 4, 2, (0, 0, 0))] = true ∧ plen 149 [(.aload_n 0, 1, (0, 0, 0)), (.getfield 122, 3, (11, 51, 0)), (.iload 4, 2, (0, 0, 0))] = 155 := by decide +kernel
theorem ok_X11_gave_159_1 : oks m_X11_gave.1 m_X11_gave.2.2.1 159 [(.iload_n 3, 1, (0, 0, 0))] = true ∧ plen 159 [(.iload_n 3, 1, (0, 0, 0))] = 160 := by decide +kernel
theorem ok_X11_gave_160_2 : oks m_X11_gave.1 m_X11_gave.2.2.1 160 [(.istore_n 3, 1, (0, 0, 0)), (.iinc 4 1, 3, (0, 0, 0))] = true ∧ plen 160 [(.istore_n 3, 1, (0, 0, 0)), (.iinc 4 1, 3, (0, 0, 0))] = 164 := by decide +kernel
theorem ok_X11_gave_167_2 : oks m_X11_gave.1 m_X11_gave.2.2.1 167 [(.iload_n 3, 1, (0, 0, 0)), (.bipush (-9), 2, (0, 0, 0))] = true ∧ plen 167 [(.iload_n 3, 1, (0, 0, 0)), (.bipush (-9), 2, (0, 0, 0))] = 170 := by decide +kernel
theorem ok_X11_gave_173_7 : oks m_X11_gave.1 m_X11_gave.2.2.1 173 [(.aload_n 0, 1, (0, 0, 0)), (.getfield 62, 3, (11, 20, 0)), (.iconst 4, 1, (0, 0, 0)), (.iload_n 1, 1, (0, 0, 0)), (.imul, 1, (0, 0, 0)), (.iconst 3, 1, (0, 0, 0)), (.iadd, 1, (0, 0, 0))] = true ∧ plen 173 [(.aload_n 0, 1, (0, 0, 0)), (.getfield 62, 3, (11, 20, 0)), (.iconst 4, 1, (0, 0, 0)), (.iload_n 1, 1, (0, 0, 0)), (.imul, 1, (0, 0, 0)), (.iconst 3, 1, (0, 0, 0)), (.iadd, 1, (0, 0, 0))] = 182 := by decide +kernel
theorem ok_X11_gave_183_6 : oks m_X11_gave.1 m_X11_gave.2.2.1 183 [(.istore 4, 2, (0, 0, 0)), (.aload_n 0, 1, (0, 0, 0)), (.getfield 62, 3, (11, 20, 0)), (.iconst 4, 1, (0, 0, 0)), (.iload_n 1, 1, (0, 0, 0)), (.imul, 1, (0, 0, 0))] = true ∧ plen 183 [(.istore 4, 2, (0, 0, 0)), (.aload_n 0, 1, (0, 0, 0)), (.getfield 62, 3, (11, 20, 0)), (.iconst 4, 1, (0, 0, 0)), (.iload_n 1, 1, (0, 0, 0)), (.imul, 1, (0, 0, 0))] = 192 := by decide +kernel
theorem ok_X11_gave_193_2 : oks m_X11_gave.1 m_X11_gave.2.2.1 193 [(.aload_n 0, 1, (0, 0, 0)), (.iload_n 2, 1, (0, 0, 0))] = true ∧ plen 193 [(.aload_n 0, 1, (0, 0, 0)), (.iload_n 2, 1, (0, 0, 0))] = 195 := by decide +kernel
theorem ok_X11_gave_198_8 : oks m_X11_gave.1 m_X11_gave.2.2.1 198 [(.imul, 1, (0, 0, 0)), (.aload_n 0, 1, (0, 0, 0)), (.getfield 62, 3, (11, 20, 0)), (.iconst 4, 1, (0, 0, 0)), (.iload_n 1, 1, (0, 0, 0)), (.imul, 1, (0, 0, 0)), (.iconst 1, 1, (0, 0, 0)), (.iadd, 1, (0, 0, 0))] = true ∧ plen 198 [(.imul, 1, (0, 0, 0)), (.aload_n 0, 1, (0, 0, 0)), (.getfield 62, 3, (11, 20, 0)), (.iconst 4, 1, (0, 0, 0)), (.iload_n 1, 1, (0, 0, 0)), (.imul, 1, (0, 0, 0)), (.iconst 1, 1, (0, 0, 0)), (.iadd, 1, (0, 0, 0))] = 208 := by decide +kernel
theorem ok_X11_gave_209_11 : oks m_X11_gave.1 m_X11_gave.2.2.1 209 [(.aload_n 0, 1, (0, 0, 0)), (.getfield 237, 3, (11, 48, 0)), (.imul, 1, (0, 0, 0)), (.iadd, 1, (0, 0, 0)), (.aload_n 0, 1, (0, 0, 0)), (.getfield 62, 3, (11, 20, 0)), (.iconst 4, 1, (0, 0, 0)), (.iload_n 1, 1, (0, 0, 0)), (.imul, 1, (0, 0, 0)), (.iconst 2, 1, (0, 0, 0)), (.iadd, 1, (0, 0, 0))] = true ∧ plen 209 [(.aload_n 0, 1, (0, 0, 0)), (.getfield 237, 3, (11, 48, 0)), (.imul, 1, (0, 0, 0)), (.iadd, 1, (0, 0, 0)), (.aload_n 0, 1, (0, 0, 0)), (.getfield 62, 3, (11, 20, 0)), (.iconst 4, 1, (0, 0, 0)), (.iload_n 1, 1, (0, 0, 0)), (.imul, 1, (0, 0, 0)), (.iconst 2, 1, (0, 0, 0)), (.iadd, 1, (0, 0, 0))] = 224 := by decide +kernel
theorem ok_X11_gave_225_4 : oks m_X11_gave.1 m_X11_gave.2.2.1 225 [(.iadd, 1, (0, 0, 0)), (.istore 5, 2, (0, 0, 0)), (.iload 5, 2, (0, 0, 0)), (.iload 4, 2, (0, 0, 0))] = true ∧ plen 225 [(.iadd, 1, (0, 0, 0)), (.istore 5, 2, (0, 0, 0)), (.iload 5, 2, (0, 0, 0)), (.iload 4, 2, (0, 0, 0))] = 232 := by decide +kernel
theorem ok_X11_gave_233_3 : oks m_X11_gave.1 m_X11_gave.2.2.1 233 [(.iload 4, 2, (0, 0, 0)), (.iadd, 1, (0, 0, 0)), (.iload 4, 2, (0, 0, 0))] = true ∧ plen 233 [(.iload 4, 2, (0, 0, 0)), (.iadd, 1, (0, 0, 0)), (.iload 4, 2, (0, 0, 0))] = 238 := by decide +kernel
theorem ok_X11_gave_239_6 : oks m_X11_gave.1 m_X11_gave.2.2.1 239 [(.istore_n 3, 1, (0, 0, 0)), (.aload_n 0, 1, (0, 0, 0)), (.getfield 116, 3, (11, 49, 0)), (.aload_n 0, 1, (0, 0, 0)), (.getfield 237, 3, (11, 48, 0)), (.iload_n 1, 1, (0, 0, 0))] = true ∧ plen 239 [(.istore_n 3, 1, (0, 0, 0)), (.aload_n 0, 1, (0, 0, 0)), (.getfield 116, 3, (11, 49, 0)), (.aload_n 0, 1, (0, 0, 0)), (.getfield 237, 3, (11, 48, 0)), (.iload_n 1, 1, (0, 0, 0))] = 249 := by decide +kernel
theorem ok_X11_gave_250_5 : oks m_X11_gave.1 m_X11_gave.2.2.1 250 [(.aload_n 0, 1, (0, 0, 0)), (.getfield 119, 3, (11, 50, 0)), (.aload_n 0, 1, (0, 0, 0)), (.getfield 237, 3, (11, 48, 0)), (.iload_n 2, 1, (0, 0, 0))] = true ∧ plen 250 [(.aload_n 0, 1, (0, 0, 0)), (.getfield 119, 3, (11, 50, 0)), (.aload_n 0, 1, (0, 0, 0)), (.getfield 237, 3, (11, 48, 0)), (.iload_n 2, 1, (0, 0, 0))] = 259 := by decide +kernel
theorem ok_X11_gave_260_5 : oks m_X11_gave.1 m_X11_gave.2.2.1 260 [(.aload_n 0, 1, (0, 0, 0)), (.getfield 122, 3, (11, 51, 0)), (.aload_n 0, 1, (0, 0, 0)), (.getfield 237, 3, (11, 48, 0)), (.iload_n 3, 1, (0, 0, 0))] = true ∧ plen 260 [(.aload_n 0, 1, (0, 0, 0)), (.getfield 122, 3, (11, 51, 0)), (.aload_n 0, 1, (0, 0, 0)), (.getfield 237, 3, (11, 48, 0)), (.iload_n 3, 1, (0, 0, 0))] = 269 := by decide +kernel
theorem ok_X11_gave_270_7 : oks m_X11_gave.1 m_X11_gave.2.2.1 270 [(.aload_n 0, 1, (0, 0, 0)), (.dup, 1, (0, 0, 0)), (.getfield 237, 3, (11, 48, 0)), (.iconst 1, 1, (0, 0, 0)), (.iadd, 1, (0, 0, 0)), (.putfield 237, 3, (11, 48, 0)), (.iload_n 3, 1, (0, 0, 0))] = true ∧ plen 270 [(.aload_n 0, 1, (0, 0, 0)), (.dup, 1, (0, 0, 0)), (.getfield 237, 3, (11, 48, 0)), (.iconst 1, 1, (0, 0, 0)), (.iadd, 1, (0, 0, 0)), (.putfield 237, 3, (11, 48, 0)), (.iload_n 3, 1, (0, 0, 0))] = 281 := by decide +kernel
theorem ok_X11_gave_280_1 : oks m_X11_gave.1 m_X11_gave.2.2.1 280 [(.iload_n 3, 1, (0, 0, 0))] = true ∧ plen 280 [(.iload_n 3, 1, (0, 0, 0))] = 281 := by decide +kernel
def B_X11_gave_160 (x4 : Int) (y0 : Int) (σ : Sg) : Option ((Int × Int) ⊕ Int) :=
some (.inl (y0, wrap (x4 + 1)))
def B_X11_gave_159 (x3 : Int) (x4 : Int) (σ : Sg) : Option ((Int × Int) ⊕ Int) :=
B_X11_gave_160 x4 x3 σ
def L_X11_gave_118 (x1 : Int) (x2 : Int) (σ : Sg) (x3 : Int) (x4 : Int) : Option ((Int × Int) ⊕ Int) :=
if (σ 0 48) ≤ x4 then
some (.inr x3)
else
(rdn 1500 σ 36 x4).bind fun v1 =>
if v1 = x1 then
(rdn 1500 σ 37 x4).bind fun v3 =>
if v3 = x2 then
(rdn 1500 σ 38 x4).bind fun v5 =>
B_X11_gave_160 x4 v5 σ
else
B_X11_gave_159 x3 x4 σ
else
B_X11_gave_159 x3 x4 σ
def B_X11_gave_100 (x4 : Int) (y0 : Int) (σ : Sg) : Option ((Int × Int) ⊕ Int) :=
(rdn 512 σ 40 x4).bind fun v39 =>
some (.inl (y0, v39))
def B_X11_gave_74 (x3 : Int) (x4 : Int) (y0 : Bool) (σ : Sg) : Option ((Int × Int) ⊕ Int) :=
if y0 = true then
(rdn 512 σ 40 x4).bind fun v41 =>
(rdn 512 σ 44 v41).bind fun v43 =>
B_X11_gave_100 x4 (wrap (x4 - v43)) σ
else
B_X11_gave_100 x4 x3 σ
def B_X11_gave_73 (x3 : Int) (x4 : Int) (σ : Sg) : Option ((Int × Int) ⊕ Int) :=
B_X11_gave_74 x3 x4 false σ
def L_X11_gave_16 (x1 : Int) (x2 : Int) (σ : Sg) (x3 : Int) (x4 : Int) : Option ((Int × Int) ⊕ Int) :=
if x4 ≤ 0 then
some (.inr x3)
else
(rdn 512 σ 40 x4).bind fun v35 =>
(rdn 512 σ 41 v35).bind fun v37 =>
if v37 = 4 then
(rdn 512 σ 40 x4).bind fun v45 =>
(rdn 512 σ 42 v45).bind fun v47 =>
if v47 = x1 then
(rdn 512 σ 40 x4).bind fun v49 =>
(rdn 512 σ 43 v49).bind fun v51 =>
if v51 = x2 then
B_X11_gave_74 x3 x4 true σ
else
B_X11_gave_73 x3 x4 σ
else
B_X11_gave_73 x3 x4 σ
else
B_X11_gave_73 x3 x4 σ
def F_X11_gave (a1 : Int) (a2 : Int) (σ : Sg) : Option (Int × Sg) :=
if (σ 0 40) = 0 then
bnd (σ 0 41) fun v33 =>
(iter (fun a : (Int × Int) => L_X11_gave_16 a1 a2 σ a.1 a.2) 3000 ((-9), v33)).bind fun y53 =>
some (y53, σ)
else
(iter (fun a : (Int × Int) => L_X11_gave_118 a1 a2 σ a.1 a.2) 3000 ((-9), 0)).bind fun y7 =>
if y7 = (-9) then
(rdn 12 σ 18 (wrap ((wrap (4 * a1)) + 3))).bind fun v9 =>
(rdn 12 σ 18 (wrap (4 * a1))).bind fun v11 =>
(F_X11_measureAt a2 σ).bind fun q13 =>
(rdn 12 q13.2 18 (wrap ((wrap (4 * a1)) + 1))).bind fun v15 =>
(rdn 12 q13.2 18 (wrap ((wrap (4 * a1)) + 2))).bind fun v17 =>
bnd (wrap ((wrap ((wrap (v11 * q13.1)) + (wrap (v15 * (q13.2 0 48))))) + v17)) fun v19 =>
(jremO v19 v9).bind fun v21 =>
(jremO (wrap (v21 + v9)) v9).bind fun v23 =>
(wrn 1500 q13.2 36 (q13.2 0 48) a1).bind fun s25 =>
(wrn 1500 s25 37 (s25 0 48) a2).bind fun s27 =>
(wrn 1500 s27 38 (s27 0 48) v23).bind fun s29 =>
bnd (up2 s29 0 48 (wrap ((s29 0 48) + 1))) fun s31 =>
some (v23, s31)
else
some (y7, σ)
theorem lk_X11_gave (l : Launch) (d : Nat) (hd : 3 ≤ d) (a1 : Int) (a2 : Int) (σ : Sg) (q : (Int × Sg)) (h : F_X11_gave a1 a2 σ = some q) : CT l d m_X11_gave.2.1 m_X11_gave.2.2.1 m_X11_gave.2.2.2.1 m_X11_gave.2.2.2.2 [.inr 0, .inl a1, .inl a2] (LAYM, σ) (some (.inl q.1)) (LAYM, q.2) := by
  obtain ⟨d, rfl⟩ : ∃ e, d = e + 1 := ⟨d - 1, by omega⟩
  have key : Go l m_X11_gave (d + 1) LAYM (.inl (some (.inl q.1))) q.2 0 [some (.inr 0), some (.inl a1), some (.inl a2), none, none, none] [] σ := by
    unfold F_X11_gave at h
    have hL_X11_gave_118 : ∀ (x1 : Int) (x2 : Int) (σ : Sg) (n : Nat) (a : (Int × Int)) (y : Int), iter (fun a : (Int × Int) => L_X11_gave_118 x1 x2 σ a.1 a.2) n a = some y → (fun y : Int => Go l m_X11_gave (d + 1) LAYM (.inl (some (.inl q.1))) q.2 167 [some (.inr 0), some (.inl x1), some (.inl x2), some (.inl y), none, none] [] σ) y → (fun a : (Int × Int) => Go l m_X11_gave (d + 1) LAYM (.inl (some (.inl q.1))) q.2 118 [some (.inr 0), some (.inl x1), some (.inl x2), some (.inl a.1), some (.inl a.2), none] [] σ) a := by
      intro x1 x2 σ
      refine go_iter (G := fun a : (Int × Int) => Go l m_X11_gave (d + 1) LAYM (.inl (some (.inl q.1))) q.2 118 [some (.inr 0), some (.inl x1), some (.inl x2), some (.inl a.1), some (.inl a.2), none] [] σ) (K := fun y : Int => Go l m_X11_gave (d + 1) LAYM (.inl (some (.inl q.1))) q.2 167 [some (.inr 0), some (.inl x1), some (.inl x2), some (.inl y), none, none] [] σ) ?_
      rintro ⟨x3, x4⟩ w h hK
      replace h : L_X11_gave_118 x1 x2 σ x3 x4 = some w := h
      show Go l m_X11_gave (d + 1) LAYM (.inl (some (.inl q.1))) q.2 118 [some (.inr 0), some (.inl x1), some (.inl x2), some (.inl x3), some (.inl x4), none] [] σ
      unfold L_X11_gave_118 at h
      have hB_X11_gave_160 : ∀ (x4 : Int) (y0 : Int), B_X11_gave_160 x4 y0 σ = some w → Go l m_X11_gave (d + 1) LAYM (.inl (some (.inl q.1))) q.2 160 [some (.inr 0), some (.inl x1), some (.inl x2), none, some (.inl x4), none] [.inl y0] σ := by
        intro x4 y0 h
        unfold B_X11_gave_160 at h
        refine go_ops ok_X11_gave_160_2 (L' := [some (.inr 0), some (.inl x1), some (.inl x2), some (.inl y0), some (.inl (wrap (x4 + 1))), none]) (st' := []) (σ1 := σ) rfl ?_
        refine go_goto dc_X11_gave_164 (by rfl) ?_
        cases h
        exact hK
      have hB_X11_gave_159 : ∀ (x3 : Int) (x4 : Int), B_X11_gave_159 x3 x4 σ = some w → Go l m_X11_gave (d + 1) LAYM (.inl (some (.inl q.1))) q.2 159 [some (.inr 0), some (.inl x1), some (.inl x2), some (.inl x3), some (.inl x4), none] [] σ := by
        intro x3 x4 h
        unfold B_X11_gave_159 at h
        refine go_ops ok_X11_gave_159_1 (L' := [some (.inr 0), some (.inl x1), some (.inl x2), some (.inl x3), some (.inl x4), none]) (st' := [.inl x3]) (σ1 := σ) rfl ?_
        refine go_wk (L' := [some (.inr 0), some (.inl x1), some (.inl x2), none, some (.inl x4), none]) ⟨rfl, rfl, rfl, rfl, trivial⟩ ?_
        exact hB_X11_gave_160 x4 x3 h
      refine go_ops ok_X11_gave_118_3 (L' := [some (.inr 0), some (.inl x1), some (.inl x2), some (.inl x3), some (.inl x4), none]) (st' := [.inl (σ 0 48), .inl x4]) (σ1 := σ) rfl ?_
      refine go_icmp_ge dc_X11_gave_124 (by rfl) (fun hc => ?_) (fun hc => ?_)
      · replace h := (if_pos hc).symm.trans h
        cases h
        refine go_wk (L' := [some (.inr 0), some (.inl x1), some (.inl x2), some (.inl x3), none, none]) ⟨rfl, rfl, rfl, rfl, trivial⟩ ?_
        exact hK
      · replace h := (if_neg hc).symm.trans h
        refine go_ops ok_X11_gave_127_3 (L' := [some (.inr 0), some (.inl x1), some (.inl x2), some (.inl x3), some (.inl x4), none]) (st' := [.inl x4, .inr 36]) (σ1 := σ) rfl ?_
        obtain ⟨v1, e2, h⟩ := bind_inv h
        refine go_rd (k := 36) dc_X11_gave_133 rfl e2 ?_
        refine go_ops ok_X11_gave_134_1 (L' := [some (.inr 0), some (.inl x1), some (.inl x2), some (.inl x3), some (.inl x4), none]) (st' := [.inl x1, .inl v1]) (σ1 := σ) rfl ?_
        refine go_icmp_ne dc_X11_gave_135 (by rfl) (fun hc => ?_) (fun hc => ?_)
        · replace h := (if_neg hc).symm.trans h
          exact hB_X11_gave_159 x3 x4 h
        · replace h := (if_pos hc).symm.trans h
          refine go_ops ok_X11_gave_138_3 (L' := [some (.inr 0), some (.inl x1), some (.inl x2), some (.inl x3), some (.inl x4), none]) (st' := [.inl x4, .inr 37]) (σ1 := σ) rfl ?_
          obtain ⟨v3, e4, h⟩ := bind_inv h
          refine go_rd (k := 37) dc_X11_gave_144 rfl e4 ?_
          refine go_ops ok_X11_gave_145_1 (L' := [some (.inr 0), some (.inl x1), some (.inl x2), some (.inl x3), some (.inl x4), none]) (st' := [.inl x2, .inl v3]) (σ1 := σ) rfl ?_
          refine go_icmp_ne dc_X11_gave_146 (by rfl) (fun hc => ?_) (fun hc => ?_)
          · replace h := (if_neg hc).symm.trans h
            exact hB_X11_gave_159 x3 x4 h
          · replace h := (if_pos hc).symm.trans h
            refine go_ops ok_X11_gave_149_3 (L' := [some (.inr 0), some (.inl x1), some (.inl x2), some (.inl x3), some (.inl x4), none]) (st' := [.inl x4, .inr 38]) (σ1 := σ) rfl ?_
            obtain ⟨v5, e6, h⟩ := bind_inv h
            refine go_rd (k := 38) dc_X11_gave_155 rfl e6 ?_
            refine go_goto dc_X11_gave_156 (by rfl) ?_
            refine go_wk (L' := [some (.inr 0), some (.inl x1), some (.inl x2), none, some (.inl x4), none]) ⟨rfl, rfl, rfl, rfl, trivial⟩ ?_
            exact hB_X11_gave_160 x4 v5 h
    have hL_X11_gave_16 : ∀ (x1 : Int) (x2 : Int) (σ : Sg) (n : Nat) (a : (Int × Int)) (y : Int), iter (fun a : (Int × Int) => L_X11_gave_16 x1 x2 σ a.1 a.2) n a = some y → (fun y : Int => Go l m_X11_gave (d + 1) LAYM (.inl (some (.inl q.1))) q.2 113 [none, none, none, some (.inl y), none, none] [] σ) y → (fun a : (Int × Int) => Go l m_X11_gave (d + 1) LAYM (.inl (some (.inl q.1))) q.2 16 [some (.inr 0), some (.inl x1), some (.inl x2), some (.inl a.1), some (.inl a.2), none] [] σ) a := by
      intro x1 x2 σ
      refine go_iter (G := fun a : (Int × Int) => Go l m_X11_gave (d + 1) LAYM (.inl (some (.inl q.1))) q.2 16 [some (.inr 0), some (.inl x1), some (.inl x2), some (.inl a.1), some (.inl a.2), none] [] σ) (K := fun y : Int => Go l m_X11_gave (d + 1) LAYM (.inl (some (.inl q.1))) q.2 113 [none, none, none, some (.inl y), none, none] [] σ) ?_
      rintro ⟨x3, x4⟩ w h hK
      replace h : L_X11_gave_16 x1 x2 σ x3 x4 = some w := h
      show Go l m_X11_gave (d + 1) LAYM (.inl (some (.inl q.1))) q.2 16 [some (.inr 0), some (.inl x1), some (.inl x2), some (.inl x3), some (.inl x4), none] [] σ
      unfold L_X11_gave_16 at h
      have hB_X11_gave_100 : ∀ (x4 : Int) (y0 : Int), B_X11_gave_100 x4 y0 σ = some w → Go l m_X11_gave (d + 1) LAYM (.inl (some (.inl q.1))) q.2 100 [some (.inr 0), some (.inl x1), some (.inl x2), none, some (.inl x4), none] [.inl y0] σ := by
        intro x4 y0 h
        unfold B_X11_gave_100 at h
        refine go_ops ok_X11_gave_100_4 (L' := [some (.inr 0), some (.inl x1), some (.inl x2), some (.inl y0), some (.inl x4), none]) (st' := [.inl x4, .inr 40]) (σ1 := σ) rfl ?_
        obtain ⟨v39, e40, h⟩ := bind_inv h
        refine go_rd (k := 40) dc_X11_gave_107 rfl e40 ?_
        refine go_ops ok_X11_gave_108_1 (L' := [some (.inr 0), some (.inl x1), some (.inl x2), some (.inl y0), some (.inl v39), none]) (st' := []) (σ1 := σ) rfl ?_
        refine go_goto dc_X11_gave_110 (by rfl) ?_
        cases h
        exact hK
      have hB_X11_gave_74 : ∀ (x3 : Int) (x4 : Int) (y0 : Bool), B_X11_gave_74 x3 x4 y0 σ = some w → Go l m_X11_gave (d + 1) LAYM (.inl (some (.inl q.1))) q.2 74 [some (.inr 0), some (.inl x1), some (.inl x2), some (.inl x3), some (.inl x4), none] [.inl (b2i y0)] σ := by
        intro x3 x4 y0 h
        unfold B_X11_gave_74 at h
        refine go_ops ok_X11_gave_74_2 (L' := [some (.inr 0), some (.inl x1), some (.inl x2), some (.inl x3), some (.inl x4), some (.inl (b2i y0))]) (st' := [.inl (b2i y0)]) (σ1 := σ) rfl ?_
        refine go_ifb_eq dc_X11_gave_78 (by rfl) (fun hc => ?_) (fun hc => ?_)
        · replace h := (if_neg hc).symm.trans h
          refine go_ops ok_X11_gave_99_1 (L' := [some (.inr 0), some (.inl x1), some (.inl x2), some (.inl x3), some (.inl x4), some (.inl (b2i y0))]) (st' := [.inl x3]) (σ1 := σ) rfl ?_
          refine go_wk (L' := [some (.inr 0), some (.inl x1), some (.inl x2), none, some (.inl x4), none]) ⟨rfl, rfl, rfl, rfl, trivial⟩ ?_
          exact hB_X11_gave_100 x4 x3 h
        · replace h := (if_pos hc).symm.trans h
          refine go_ops ok_X11_gave_81_6 (L' := [some (.inr 0), some (.inl x1), some (.inl x2), some (.inl x3), some (.inl x4), some (.inl (b2i y0))]) (st' := [.inl x4, .inr 40, .inr 44, .inl x4]) (σ1 := σ) rfl ?_
          obtain ⟨v41, e42, h⟩ := bind_inv h
          refine go_rd (k := 40) dc_X11_gave_93 rfl e42 ?_
          obtain ⟨v43, e44, h⟩ := bind_inv h
          refine go_rd (k := 44) dc_X11_gave_94 rfl e44 ?_
          refine go_ops ok_X11_gave_95_1 (L' := [some (.inr 0), some (.inl x1), some (.inl x2), some (.inl x3), some (.inl x4), some (.inl (b2i y0))]) (st' := [.inl (wrap (x4 - v43))]) (σ1 := σ) rfl ?_
          refine go_goto dc_X11_gave_96 (by rfl) ?_
          refine go_wk (L' := [some (.inr 0), some (.inl x1), some (.inl x2), none, some (.inl x4), none]) ⟨rfl, rfl, rfl, rfl, trivial⟩ ?_
          exact hB_X11_gave_100 x4 (wrap (x4 - v43)) h
      have hB_X11_gave_73 : ∀ (x3 : Int) (x4 : Int), B_X11_gave_73 x3 x4 σ = some w → Go l m_X11_gave (d + 1) LAYM (.inl (some (.inl q.1))) q.2 73 [some (.inr 0), some (.inl x1), some (.inl x2), some (.inl x3), some (.inl x4), none] [] σ := by
        intro x3 x4 h
        unfold B_X11_gave_73 at h
        refine go_ops ok_X11_gave_73_1 (L' := [some (.inr 0), some (.inl x1), some (.inl x2), some (.inl x3), some (.inl x4), none]) (st' := [.inl 0]) (σ1 := σ) rfl ?_
        exact hB_X11_gave_74 x3 x4 false h
      refine go_ops ok_X11_gave_16_1 (L' := [some (.inr 0), some (.inl x1), some (.inl x2), some (.inl x3), some (.inl x4), none]) (st' := [.inl x4]) (σ1 := σ) rfl ?_
      refine go_if_le dc_X11_gave_18 (by rfl) (fun hc => ?_) (fun hc => ?_)
      · replace h := (if_pos hc).symm.trans h
        cases h
        refine go_wk (L' := [none, none, none, some (.inl x3), none, none]) ⟨rfl, trivial⟩ ?_
        exact hK
      · replace h := (if_neg hc).symm.trans h
        refine go_ops ok_X11_gave_21_5 (L' := [some (.inr 0), some (.inl x1), some (.inl x2), some (.inl x3), some (.inl x4), none]) (st' := [.inl x4, .inr 40, .inr 41]) (σ1 := σ) rfl ?_
        obtain ⟨v35, e36, h⟩ := bind_inv h
        refine go_rd (k := 40) dc_X11_gave_31 rfl e36 ?_
        obtain ⟨v37, e38, h⟩ := bind_inv h
        refine go_rd (k := 41) dc_X11_gave_32 rfl e38 ?_
        refine go_ops ok_X11_gave_33_1 (L' := [some (.inr 0), some (.inl x1), some (.inl x2), some (.inl x3), some (.inl x4), none]) (st' := [.inl 4, .inl v37]) (σ1 := σ) rfl ?_
        refine go_icmp_ne dc_X11_gave_34 (by rfl) (fun hc => ?_) (fun hc => ?_)
        · replace h := (if_neg hc).symm.trans h
          exact hB_X11_gave_73 x3 x4 h
        · replace h := (if_pos hc).symm.trans h
          refine go_ops ok_X11_gave_37_5 (L' := [some (.inr 0), some (.inl x1), some (.inl x2), some (.inl x3), some (.inl x4), none]) (st' := [.inl x4, .inr 40, .inr 42]) (σ1 := σ) rfl ?_
          obtain ⟨v45, e46, h⟩ := bind_inv h
          refine go_rd (k := 40) dc_X11_gave_47 rfl e46 ?_
          obtain ⟨v47, e48, h⟩ := bind_inv h
          refine go_rd (k := 42) dc_X11_gave_48 rfl e48 ?_
          refine go_ops ok_X11_gave_49_1 (L' := [some (.inr 0), some (.inl x1), some (.inl x2), some (.inl x3), some (.inl x4), none]) (st' := [.inl x1, .inl v47]) (σ1 := σ) rfl ?_
          refine go_icmp_ne dc_X11_gave_50 (by rfl) (fun hc => ?_) (fun hc => ?_)
          · replace h := (if_neg hc).symm.trans h
            exact hB_X11_gave_73 x3 x4 h
          · replace h := (if_pos hc).symm.trans h
            refine go_ops ok_X11_gave_53_5 (L' := [some (.inr 0), some (.inl x1), some (.inl x2), some (.inl x3), some (.inl x4), none]) (st' := [.inl x4, .inr 40, .inr 43]) (σ1 := σ) rfl ?_
            obtain ⟨v49, e50, h⟩ := bind_inv h
            refine go_rd (k := 40) dc_X11_gave_63 rfl e50 ?_
            obtain ⟨v51, e52, h⟩ := bind_inv h
            refine go_rd (k := 43) dc_X11_gave_64 rfl e52 ?_
            refine go_ops ok_X11_gave_65_1 (L' := [some (.inr 0), some (.inl x1), some (.inl x2), some (.inl x3), some (.inl x4), none]) (st' := [.inl x2, .inl v51]) (σ1 := σ) rfl ?_
            refine go_icmp_ne dc_X11_gave_66 (by rfl) (fun hc => ?_) (fun hc => ?_)
            · replace h := (if_neg hc).symm.trans h
              exact hB_X11_gave_73 x3 x4 h
            · replace h := (if_pos hc).symm.trans h
              refine go_ops ok_X11_gave_69_1 (L' := [some (.inr 0), some (.inl x1), some (.inl x2), some (.inl x3), some (.inl x4), none]) (st' := [.inl 1]) (σ1 := σ) rfl ?_
              refine go_goto dc_X11_gave_70 (by rfl) ?_
              exact hB_X11_gave_74 x3 x4 true h
    refine go_ops ok_X11_gave_0_4 (L' := [some (.inr 0), some (.inl a1), some (.inl a2), some (.inl (-9)), none, none]) (st' := [.inl (σ 0 40)]) (σ1 := σ) rfl ?_
    refine go_if_ne dc_X11_gave_7 (by rfl) (fun hc => ?_) (fun hc => ?_)
    · replace h := (if_neg hc).symm.trans h
      refine go_ops ok_X11_gave_115_2 (L' := [some (.inr 0), some (.inl a1), some (.inl a2), some (.inl (-9)), some (.inl 0), none]) (st' := []) (σ1 := σ) rfl ?_
      obtain ⟨y7, e8, h⟩ := bind_inv h
      refine hL_X11_gave_118 a1 a2 σ 3000 ((-9), 0) y7 e8 ?_
      show Go l m_X11_gave (d + 1) LAYM (.inl (some (.inl q.1))) q.2 167 [some (.inr 0), some (.inl a1), some (.inl a2), some (.inl y7), none, none] [] σ
      refine go_ops ok_X11_gave_167_2 (L' := [some (.inr 0), some (.inl a1), some (.inl a2), some (.inl y7), none, none]) (st' := [.inl (-9), .inl y7]) (σ1 := σ) rfl ?_
      refine go_icmp_ne dc_X11_gave_170 (by rfl) (fun hc => ?_) (fun hc => ?_)
      · replace h := (if_neg hc).symm.trans h
        refine go_ops ok_X11_gave_280_1 (L' := [some (.inr 0), some (.inl a1), some (.inl a2), some (.inl y7), none, none]) (st' := [.inl y7]) (σ1 := σ) rfl ?_
        have h9 := Option.some.inj h
        subst h9
        exact go_iret dc_X11_gave_281 rfl
      · replace h := (if_pos hc).symm.trans h
        refine go_ops ok_X11_gave_173_7 (L' := [some (.inr 0), some (.inl a1), some (.inl a2), some (.inl y7), none, none]) (st' := [.inl (wrap ((wrap (4 * a1)) + 3)), .inr 18]) (σ1 := σ) rfl ?_
        obtain ⟨v9, e10, h⟩ := bind_inv h
        refine go_rd (k := 18) dc_X11_gave_182 rfl e10 ?_
        refine go_ops ok_X11_gave_183_6 (L' := [some (.inr 0), some (.inl a1), some (.inl a2), some (.inl y7), some (.inl v9), none]) (st' := [.inl (wrap (4 * a1)), .inr 18]) (σ1 := σ) rfl ?_
        obtain ⟨v11, e12, h⟩ := bind_inv h
        refine go_rd (k := 18) dc_X11_gave_192 rfl e12 ?_
        refine go_ops ok_X11_gave_193_2 (L' := [some (.inr 0), some (.inl a1), some (.inl a2), some (.inl y7), some (.inl v9), none]) (st' := [.inl a2, .inr 0, .inl v11]) (σ1 := σ) rfl ?_
        obtain ⟨q13, e14, h⟩ := bind_inv h
        refine go_V (M1 := m_X11_measureAt) (as := [.inl a2]) (st := [.inl v11]) (k := 0) (ci := 11) dc_X11_gave_195 ln_11_271 im_X11_measureAt (by decide) rfl rfl mk_X11_measureAt rfl (Nat.le_of_ble_eq_true rfl) (Nat.le_refl _) (v := (some (.inl q13.1))) (σ1 := q13.2) (lk_X11_measureAt l d (by omega) a2 σ q13 e14) _ rfl ?_
        refine go_ops ok_X11_gave_198_8 (L' := [some (.inr 0), some (.inl a1), some (.inl a2), some (.inl y7), some (.inl v9), none]) (st' := [.inl (wrap ((wrap (4 * a1)) + 1)), .inr 18, .inl (wrap (v11 * q13.1))]) (σ1 := q13.2) rfl ?_
        obtain ⟨v15, e16, h⟩ := bind_inv h
        refine go_rd (k := 18) dc_X11_gave_208 rfl e16 ?_
        refine go_ops ok_X11_gave_209_11 (L' := [some (.inr 0), some (.inl a1), some (.inl a2), some (.inl y7), some (.inl v9), none]) (st' := [.inl (wrap ((wrap (4 * a1)) + 2)), .inr 18, .inl (wrap ((wrap (v11 * q13.1)) + (wrap (v15 * (q13.2 0 48)))))]) (σ1 := q13.2) rfl ?_
        obtain ⟨v17, e18, h⟩ := bind_inv h
        refine go_rd (k := 18) dc_X11_gave_224 rfl e18 ?_
        obtain ⟨v19, e20, h⟩ := bnd_inv h
        refine go_ops ok_X11_gave_225_4 (L' := [some (.inr 0), some (.inl a1), some (.inl a2), some (.inl y7), some (.inl v9), some (.inl v19)]) (st' := [.inl v9, .inl v19]) (σ1 := q13.2) (by subst e20; rfl) ?_
        obtain ⟨v21, e22, h⟩ := bind_inv h
        refine go_remO dc_X11_gave_232 e22 ?_
        refine go_ops ok_X11_gave_233_3 (L' := [some (.inr 0), some (.inl a1), some (.inl a2), some (.inl y7), some (.inl v9), some (.inl v19)]) (st' := [.inl v9, .inl (wrap (v21 + v9))]) (σ1 := q13.2) rfl ?_
        obtain ⟨v23, e24, h⟩ := bind_inv h
        refine go_remO dc_X11_gave_238 e24 ?_
        refine go_ops ok_X11_gave_239_6 (L' := [some (.inr 0), some (.inl a1), some (.inl a2), some (.inl v23), some (.inl v9), some (.inl v19)]) (st' := [.inl a1, .inl (q13.2 0 48), .inr 36]) (σ1 := q13.2) rfl ?_
        obtain ⟨s25, e26, h⟩ := bind_inv h
        refine go_wr (k := 36) dc_X11_gave_249 rfl e26 ?_
        refine go_ops ok_X11_gave_250_5 (L' := [some (.inr 0), some (.inl a1), some (.inl a2), some (.inl v23), some (.inl v9), some (.inl v19)]) (st' := [.inl a2, .inl (s25 0 48), .inr 37]) (σ1 := s25) rfl ?_
        obtain ⟨s27, e28, h⟩ := bind_inv h
        refine go_wr (k := 37) dc_X11_gave_259 rfl e28 ?_
        refine go_ops ok_X11_gave_260_5 (L' := [some (.inr 0), some (.inl a1), some (.inl a2), some (.inl v23), some (.inl v9), some (.inl v19)]) (st' := [.inl v23, .inl (s27 0 48), .inr 38]) (σ1 := s27) rfl ?_
        obtain ⟨s29, e30, h⟩ := bind_inv h
        refine go_wr (k := 38) dc_X11_gave_269 rfl e30 ?_
        obtain ⟨s31, e32, h⟩ := bnd_inv h
        refine go_ops ok_X11_gave_270_7 (L' := [some (.inr 0), some (.inl a1), some (.inl a2), some (.inl v23), some (.inl v9), some (.inl v19)]) (st' := [.inl v23]) (σ1 := s31) (by subst e32; rfl) ?_
        have h9 := Option.some.inj h
        subst h9
        exact go_iret dc_X11_gave_281 rfl
    · replace h := (if_pos hc).symm.trans h
      obtain ⟨v33, e34, h⟩ := bnd_inv h
      refine go_ops ok_X11_gave_10_3 (L' := [some (.inr 0), some (.inl a1), some (.inl a2), some (.inl (-9)), some (.inl v33), none]) (st' := []) (σ1 := σ) (by subst e34; rfl) ?_
      obtain ⟨y53, e54, h⟩ := bind_inv h
      refine hL_X11_gave_16 a1 a2 σ 3000 ((-9), v33) y53 e54 ?_
      show Go l m_X11_gave (d + 1) LAYM (.inl (some (.inl q.1))) q.2 113 [none, none, none, some (.inl y53), none, none] [] σ
      refine go_ops ok_X11_gave_113_1 (L' := [none, none, none, some (.inl y53), none, none]) (st' := [.inl y53]) (σ1 := σ) rfl ?_
      have h9 := Option.some.inj h
      subst h9
      exact go_iret dc_X11_gave_114 rfl
  have hf := go_ct (as := [.inr 0, .inl a1, .inl a2]) mk_X11_gave (by rfl) (Nat.le_of_ble_eq_true rfl) key
  exact hf
theorem dc_X11_hasFailed_8 : decode m_X11_hasFailed.2.2.1 8 = .ok (.ifCond .le 68, 3) := by decide +kernel
theorem dc_X11_hasFailed_12 : decode m_X11_hasFailed.2.2.1 12 = .ok (.ifCond .ne 48, 3) := by decide +kernel
theorem dc_X11_hasFailed_24 : decode m_X11_hasFailed.2.2.1 24 = .ok (.iaload, 1) := by decide +kernel
theorem dc_X11_hasFailed_25 : decode m_X11_hasFailed.2.2.1 25 = .ok (.iaload, 1) := by decide +kernel
theorem dc_X11_hasFailed_27 : decode m_X11_hasFailed.2.2.1 27 = .ok (.if_icmp .ne 37, 3) := by decide +kernel
theorem dc_X11_hasFailed_39 : decode m_X11_hasFailed.2.2.1 39 = .ok (.iaload, 1) := by decide +kernel
theorem dc_X11_hasFailed_40 : decode m_X11_hasFailed.2.2.1 40 = .ok (.iaload, 1) := by decide +kernel
theorem dc_X11_hasFailed_42 : decode m_X11_hasFailed.2.2.1 42 = .ok (.if_icmp .ne 22, 3) := by decide +kernel
theorem dc_X11_hasFailed_55 : decode m_X11_hasFailed.2.2.1 55 = .ok (.iaload, 1) := by decide +kernel
theorem dc_X11_hasFailed_56 : decode m_X11_hasFailed.2.2.1 56 = .ok (.iaload, 1) := by decide +kernel
theorem dc_X11_hasFailed_57 : decode m_X11_hasFailed.2.2.1 57 = .ok (.if_icmp .le 7, 3) := by decide +kernel
theorem dc_X11_hasFailed_61 : decode m_X11_hasFailed.2.2.1 61 = .ok (.goto 4, 3) := by decide +kernel
theorem dc_X11_hasFailed_71 : decode m_X11_hasFailed.2.2.1 71 = .ok (.iaload, 1) := by decide +kernel
theorem dc_X11_hasFailed_73 : decode m_X11_hasFailed.2.2.1 73 = .ok (.goto (-66), 3) := by decide +kernel
theorem dc_X11_hasFailed_77 : decode m_X11_hasFailed.2.2.1 77 = .ok (.ireturn, 1) := by decide +kernel
theorem ok_X11_hasFailed_0_5 : oks m_X11_hasFailed.1 m_X11_hasFailed.2.2.1 0 [(.iconst 0, 1, (0, 0, 0)), (.istore_n 2, 1, (0, 0, 0)), (.aload_n 0, 1, (0, 0, 0)), (.getfield 268, 3, (11, 41, 0)), (.istore_n 3, 1, (0, 0, 0))] = true ∧ plen 0 [(.iconst 0, 1, (0, 0, 0)), (.istore_n 2, 1, (0, 0, 0)), (.aload_n 0, 1, (0, 0, 0)), (.getfield 268, 3, (11, 41, 0)), (.istore_n 3, 1, (0, 0, 0))] = 7 := by decide +kernel
theorem ok_X11_hasFailed_7_1 : oks m_X11_hasFailed.1 m_X11_hasFailed.2.2.1 7 [(.iload_n 3, 1, (0, 0, 0))] = true ∧ plen 7 [(.iload_n 3, 1, (0, 0, 0))] = 8 := by decide +kernel
theorem ok_X11_hasFailed_11_1 : oks m_X11_hasFailed.1 m_X11_hasFailed.2.2.1 11 [(.iload_n 2, 1, (0, 0, 0))] = true ∧ plen 11 [(.iload_n 2, 1, (0, 0, 0))] = 12 := by decide +kernel
theorem ok_X11_hasFailed_15_5 : oks m_X11_hasFailed.1 m_X11_hasFailed.2.2.1 15 [(.aload_n 0, 1, (0, 0, 0)), (.getfield 131, 3, (11, 58, 0)), (.aload_n 0, 1, (0, 0, 0)), (.getfield 128, 3, (11, 57, 0)), (.iload_n 3, 1, (0, 0, 0))] = true ∧ plen 15 [(.aload_n 0, 1, (0, 0, 0)), (.getfield 131, 3, (11, 58, 0)), (.aload_n 0, 1, (0, 0, 0)), (.getfield 128, 3, (11, 57, 0)), (.iload_n 3, 1, (0, 0, 0))] = 24 := by decide +kernel
theorem ok_X11_hasFailed_26_1 : oks m_X11_hasFailed.1 m_X11_hasFailed.2.2.1 26 [(.iconst 3, 1, (0, 0, 0))] = true ∧ plen 26 [(.iconst 3, 1, (0, 0, 0))] = 27 := by decide +kernel
theorem ok_X11_hasFailed_30_5 : oks m_X11_hasFailed.1 m_X11_hasFailed.2.2.1 30 [(.aload_n 0, 1, (0, 0, 0)), (.getfield 134, 3, (11, 59, 0)), (.aload_n 0, 1, (0, 0, 0)), (.getfield 128, 3, (11, 57, 0)), (.iload_n 3, 1, (0, 0, 0))] = true ∧ plen 30 [(.aload_n 0, 1, (0, 0, 0)), (.getfield 134, 3, (11, 59, 0)), (.aload_n 0, 1, (0, 0, 0)), (.getfield 128, 3, (11, 57, 0)), (.iload_n 3, 1, (0, 0, 0))] = 39 := by decide +kernel
theorem ok_X11_hasFailed_41_1 : oks m_X11_hasFailed.1 m_X11_hasFailed.2.2.1 41 [(.iload_n 1, 1, (0, 0, 0))] = true ∧ plen 41 [(.iload_n 1, 1, (0, 0, 0))] = 42 := by decide +kernel
theorem ok_X11_hasFailed_45_6 : oks m_X11_hasFailed.1 m_X11_hasFailed.2.2.1 45 [(.iload_n 3, 1, (0, 0, 0)), (.aload_n 0, 1, (0, 0, 0)), (.getfield 140, 3, (11, 61, 0)), (.aload_n 0, 1, (0, 0, 0)), (.getfield 128, 3, (11, 57, 0)), (.iload_n 3, 1, (0, 0, 0))] = true ∧ plen 45 [(.iload_n 3, 1, (0, 0, 0)), (.aload_n 0, 1, (0, 0, 0)), (.getfield 140, 3, (11, 61, 0)), (.aload_n 0, 1, (0, 0, 0)), (.getfield 128, 3, (11, 57, 0)), (.iload_n 3, 1, (0, 0, 0))] = 55 := by decide +kernel
theorem ok_X11_hasFailed_60_1 : oks m_X11_hasFailed.1 m_X11_hasFailed.2.2.1 60 [(.iconst 1, 1, (0, 0, 0))] = true ∧ plen 60 [(.iconst 1, 1, (0, 0, 0))] = 61 := by decide +kernel
theorem ok_X11_hasFailed_64_1 : oks m_X11_hasFailed.1 m_X11_hasFailed.2.2.1 64 [(.iconst 0, 1, (0, 0, 0))] = true ∧ plen 64 [(.iconst 0, 1, (0, 0, 0))] = 65 := by decide +kernel
theorem ok_X11_hasFailed_65_4 : oks m_X11_hasFailed.1 m_X11_hasFailed.2.2.1 65 [(.istore_n 2, 1, (0, 0, 0)), (.aload_n 0, 1, (0, 0, 0)), (.getfield 128, 3, (11, 57, 0)), (.iload_n 3, 1, (0, 0, 0))] = true ∧ plen 65 [(.istore_n 2, 1, (0, 0, 0)), (.aload_n 0, 1, (0, 0, 0)), (.getfield 128, 3, (11, 57, 0)), (.iload_n 3, 1, (0, 0, 0))] = 71 := by decide +kernel
theorem ok_X11_hasFailed_72_1 : oks m_X11_hasFailed.1 m_X11_hasFailed.2.2.1 72 [(.istore_n 3, 1, (0, 0, 0))] = true ∧ plen 72 [(.istore_n 3, 1, (0, 0, 0))] = 73 := by decide +kernel
theorem ok_X11_hasFailed_76_1 : oks m_X11_hasFailed.1 m_X11_hasFailed.2.2.1 76 [(.iload_n 2, 1, (0, 0, 0))] = true ∧ plen 76 [(.iload_n 2, 1, (0, 0, 0))] = 77 := by decide +kernel
def B_X11_hasFailed_65 (x3 : Int) (y0 : Bool) (σ : Sg) : Option ((Bool × Int) ⊕ Bool) :=
(rdn 512 σ 40 x3).bind fun v3 =>
some (.inl (y0, v3))
def B_X11_hasFailed_60 (x3 : Int) (σ : Sg) : Option ((Bool × Int) ⊕ Bool) :=
B_X11_hasFailed_65 x3 true σ
def B_X11_hasFailed_64 (x3 : Int) (σ : Sg) : Option ((Bool × Int) ⊕ Bool) :=
B_X11_hasFailed_65 x3 false σ
def L_X11_hasFailed_7 (x1 : Int) (σ : Sg) (x2 : Bool) (x3 : Int) : Option ((Bool × Int) ⊕ Bool) :=
if x3 ≤ 0 then
some (.inr x2)
else
if x2 = true then
B_X11_hasFailed_60 x3 σ
else
(rdn 512 σ 40 x3).bind fun v5 =>
(rdn 512 σ 41 v5).bind fun v7 =>
if v7 = 3 then
(rdn 512 σ 40 x3).bind fun v9 =>
(rdn 512 σ 42 v9).bind fun v11 =>
if v11 = x1 then
(rdn 512 σ 40 x3).bind fun v13 =>
(rdn 512 σ 44 v13).bind fun v15 =>
if x3 ≤ v15 then
B_X11_hasFailed_64 x3 σ
else
B_X11_hasFailed_60 x3 σ
else
B_X11_hasFailed_64 x3 σ
else
B_X11_hasFailed_64 x3 σ
def F_X11_hasFailed (a1 : Int) (σ : Sg) : Option Bool :=
bnd (σ 0 41) fun v1 =>
(iter (fun a : (Bool × Int) => L_X11_hasFailed_7 a1 σ a.1 a.2) 3000 (false, v1)).bind fun y17 =>
some y17
theorem lk_X11_hasFailed (l : Launch) (d : Nat) (hd : 0 ≤ d) (a1 : Int) (σ : Sg) (q : Bool) (h : F_X11_hasFailed a1 σ = some q) : CT l d m_X11_hasFailed.2.1 m_X11_hasFailed.2.2.1 m_X11_hasFailed.2.2.2.1 m_X11_hasFailed.2.2.2.2 [.inr 0, .inl a1] (LAYM, σ) (some (.inl (b2i q))) (LAYM, σ) := by
  skip
  have key : Go l m_X11_hasFailed d LAYM (.inl (some (.inl (b2i q)))) σ 0 [some (.inr 0), some (.inl a1), none, none] [] σ := by
    unfold F_X11_hasFailed at h
    have hL_X11_hasFailed_7 : ∀ (x1 : Int) (σ : Sg) (n : Nat) (a : (Bool × Int)) (y : Bool), iter (fun a : (Bool × Int) => L_X11_hasFailed_7 x1 σ a.1 a.2) n a = some y → (fun y : Bool => Go l m_X11_hasFailed d LAYM (.inl (some (.inl (b2i q)))) σ 76 [none, none, some (.inl (b2i y)), none] [] σ) y → (fun a : (Bool × Int) => Go l m_X11_hasFailed d LAYM (.inl (some (.inl (b2i q)))) σ 7 [some (.inr 0), some (.inl x1), some (.inl (b2i a.1)), some (.inl a.2)] [] σ) a := by
      intro x1 σ
      refine go_iter (G := fun a : (Bool × Int) => Go l m_X11_hasFailed d LAYM (.inl (some (.inl (b2i q)))) σ 7 [some (.inr 0), some (.inl x1), some (.inl (b2i a.1)), some (.inl a.2)] [] σ) (K := fun y : Bool => Go l m_X11_hasFailed d LAYM (.inl (some (.inl (b2i q)))) σ 76 [none, none, some (.inl (b2i y)), none] [] σ) ?_
      rintro ⟨x2, x3⟩ w h hK
      replace h : L_X11_hasFailed_7 x1 σ x2 x3 = some w := h
      show Go l m_X11_hasFailed d LAYM (.inl (some (.inl (b2i q)))) σ 7 [some (.inr 0), some (.inl x1), some (.inl (b2i x2)), some (.inl x3)] [] σ
      unfold L_X11_hasFailed_7 at h
      have hB_X11_hasFailed_65 : ∀ (x3 : Int) (y0 : Bool), B_X11_hasFailed_65 x3 y0 σ = some w → Go l m_X11_hasFailed d LAYM (.inl (some (.inl (b2i q)))) σ 65 [some (.inr 0), some (.inl x1), none, some (.inl x3)] [.inl (b2i y0)] σ := by
        intro x3 y0 h
        unfold B_X11_hasFailed_65 at h
        refine go_ops ok_X11_hasFailed_65_4 (L' := [some (.inr 0), some (.inl x1), some (.inl (b2i y0)), some (.inl x3)]) (st' := [.inl x3, .inr 40]) (σ1 := σ) rfl ?_
        obtain ⟨v3, e4, h⟩ := bind_inv h
        refine go_rd (k := 40) dc_X11_hasFailed_71 rfl e4 ?_
        refine go_ops ok_X11_hasFailed_72_1 (L' := [some (.inr 0), some (.inl x1), some (.inl (b2i y0)), some (.inl v3)]) (st' := []) (σ1 := σ) rfl ?_
        refine go_goto dc_X11_hasFailed_73 (by rfl) ?_
        cases h
        exact hK
      have hB_X11_hasFailed_60 : ∀ (x3 : Int), B_X11_hasFailed_60 x3 σ = some w → Go l m_X11_hasFailed d LAYM (.inl (some (.inl (b2i q)))) σ 60 [some (.inr 0), some (.inl x1), none, some (.inl x3)] [] σ := by
        intro x3 h
        unfold B_X11_hasFailed_60 at h
        refine go_ops ok_X11_hasFailed_60_1 (L' := [some (.inr 0), some (.inl x1), none, some (.inl x3)]) (st' := [.inl 1]) (σ1 := σ) rfl ?_
        refine go_goto dc_X11_hasFailed_61 (by rfl) ?_
        exact hB_X11_hasFailed_65 x3 true h
      have hB_X11_hasFailed_64 : ∀ (x3 : Int), B_X11_hasFailed_64 x3 σ = some w → Go l m_X11_hasFailed d LAYM (.inl (some (.inl (b2i q)))) σ 64 [some (.inr 0), some (.inl x1), none, some (.inl x3)] [] σ := by
        intro x3 h
        unfold B_X11_hasFailed_64 at h
        refine go_ops ok_X11_hasFailed_64_1 (L' := [some (.inr 0), some (.inl x1), none, some (.inl x3)]) (st' := [.inl 0]) (σ1 := σ) rfl ?_
        exact hB_X11_hasFailed_65 x3 false h
      refine go_ops ok_X11_hasFailed_7_1 (L' := [some (.inr 0), some (.inl x1), some (.inl (b2i x2)), some (.inl x3)]) (st' := [.inl x3]) (σ1 := σ) rfl ?_
      refine go_if_le dc_X11_hasFailed_8 (by rfl) (fun hc => ?_) (fun hc => ?_)
      · replace h := (if_pos hc).symm.trans h
        cases h
        refine go_wk (L' := [none, none, some (.inl (b2i x2)), none]) ⟨rfl, trivial⟩ ?_
        exact hK
      · replace h := (if_neg hc).symm.trans h
        refine go_ops ok_X11_hasFailed_11_1 (L' := [some (.inr 0), some (.inl x1), some (.inl (b2i x2)), some (.inl x3)]) (st' := [.inl (b2i x2)]) (σ1 := σ) rfl ?_
        refine go_ifb_ne dc_X11_hasFailed_12 (by rfl) (fun hc => ?_) (fun hc => ?_)
        · replace h := (if_pos hc).symm.trans h
          refine go_wk (L' := [some (.inr 0), some (.inl x1), none, some (.inl x3)]) ⟨rfl, rfl, rfl, trivial⟩ ?_
          exact hB_X11_hasFailed_60 x3 h
        · replace h := (if_neg hc).symm.trans h
          refine go_ops ok_X11_hasFailed_15_5 (L' := [some (.inr 0), some (.inl x1), some (.inl (b2i x2)), some (.inl x3)]) (st' := [.inl x3, .inr 40, .inr 41]) (σ1 := σ) rfl ?_
          obtain ⟨v5, e6, h⟩ := bind_inv h
          refine go_rd (k := 40) dc_X11_hasFailed_24 rfl e6 ?_
          obtain ⟨v7, e8, h⟩ := bind_inv h
          refine go_rd (k := 41) dc_X11_hasFailed_25 rfl e8 ?_
          refine go_ops ok_X11_hasFailed_26_1 (L' := [some (.inr 0), some (.inl x1), some (.inl (b2i x2)), some (.inl x3)]) (st' := [.inl 3, .inl v7]) (σ1 := σ) rfl ?_
          refine go_icmp_ne dc_X11_hasFailed_27 (by rfl) (fun hc => ?_) (fun hc => ?_)
          · replace h := (if_neg hc).symm.trans h
            refine go_wk (L' := [some (.inr 0), some (.inl x1), none, some (.inl x3)]) ⟨rfl, rfl, rfl, trivial⟩ ?_
            exact hB_X11_hasFailed_64 x3 h
          · replace h := (if_pos hc).symm.trans h
            refine go_ops ok_X11_hasFailed_30_5 (L' := [some (.inr 0), some (.inl x1), some (.inl (b2i x2)), some (.inl x3)]) (st' := [.inl x3, .inr 40, .inr 42]) (σ1 := σ) rfl ?_
            obtain ⟨v9, e10, h⟩ := bind_inv h
            refine go_rd (k := 40) dc_X11_hasFailed_39 rfl e10 ?_
            obtain ⟨v11, e12, h⟩ := bind_inv h
            refine go_rd (k := 42) dc_X11_hasFailed_40 rfl e12 ?_
            refine go_ops ok_X11_hasFailed_41_1 (L' := [some (.inr 0), some (.inl x1), some (.inl (b2i x2)), some (.inl x3)]) (st' := [.inl x1, .inl v11]) (σ1 := σ) rfl ?_
            refine go_icmp_ne dc_X11_hasFailed_42 (by rfl) (fun hc => ?_) (fun hc => ?_)
            · replace h := (if_neg hc).symm.trans h
              refine go_wk (L' := [some (.inr 0), some (.inl x1), none, some (.inl x3)]) ⟨rfl, rfl, rfl, trivial⟩ ?_
              exact hB_X11_hasFailed_64 x3 h
            · replace h := (if_pos hc).symm.trans h
              refine go_ops ok_X11_hasFailed_45_6 (L' := [some (.inr 0), some (.inl x1), some (.inl (b2i x2)), some (.inl x3)]) (st' := [.inl x3, .inr 40, .inr 44, .inl x3]) (σ1 := σ) rfl ?_
              obtain ⟨v13, e14, h⟩ := bind_inv h
              refine go_rd (k := 40) dc_X11_hasFailed_55 rfl e14 ?_
              obtain ⟨v15, e16, h⟩ := bind_inv h
              refine go_rd (k := 44) dc_X11_hasFailed_56 rfl e16 ?_
              refine go_icmp_le dc_X11_hasFailed_57 (by rfl) (fun hc => ?_) (fun hc => ?_)
              · replace h := (if_pos hc).symm.trans h
                refine go_wk (L' := [some (.inr 0), some (.inl x1), none, some (.inl x3)]) ⟨rfl, rfl, rfl, trivial⟩ ?_
                exact hB_X11_hasFailed_64 x3 h
              · replace h := (if_neg hc).symm.trans h
                refine go_wk (L' := [some (.inr 0), some (.inl x1), none, some (.inl x3)]) ⟨rfl, rfl, rfl, trivial⟩ ?_
                exact hB_X11_hasFailed_60 x3 h
    obtain ⟨v1, e2, h⟩ := bnd_inv h
    refine go_ops ok_X11_hasFailed_0_5 (L' := [some (.inr 0), some (.inl a1), some (.inl 0), some (.inl v1)]) (st' := []) (σ1 := σ) (by subst e2; rfl) ?_
    obtain ⟨y17, e18, h⟩ := bind_inv h
    refine hL_X11_hasFailed_7 a1 σ 3000 (false, v1) y17 e18 ?_
    show Go l m_X11_hasFailed d LAYM (.inl (some (.inl (b2i q)))) σ 76 [none, none, some (.inl (b2i y17)), none] [] σ
    refine go_ops ok_X11_hasFailed_76_1 (L' := [none, none, some (.inl (b2i y17)), none]) (st' := [.inl (b2i y17)]) (σ1 := σ) rfl ?_
    have h9 := Option.some.inj h
    subst h9
    exact go_zret (x := y17) dc_X11_hasFailed_77 rfl
  have hf := go_ct (as := [.inr 0, .inl a1]) mk_X11_hasFailed (by rfl) (Nat.le_of_ble_eq_true rfl) key
  exact hf
theorem dc_X11_push_9 : decode m_X11_push.2.2.1 9 = .ok (.iastore, 1) := by decide +kernel
theorem dc_X11_push_19 : decode m_X11_push.2.2.1 19 = .ok (.iastore, 1) := by decide +kernel
theorem dc_X11_push_30 : decode m_X11_push.2.2.1 30 = .ok (.return_, 1) := by decide +kernel
theorem ok_X11_push_0_5 : oks m_X11_push.1 m_X11_push.2.2.1 0 [(.aload_n 0, 1, (0, 0, 0)), (.getfield 92, 3, (11, 32, 0)), (.aload_n 0, 1, (0, 0, 0)), (.getfield 274, 3, (11, 34, 0)), (.iload_n 1, 1, (0, 0, 0))] = true ∧ plen 0 [(.aload_n 0, 1, (0, 0, 0)), (.getfield 92, 3, (11, 32, 0)), (.aload_n 0, 1, (0, 0, 0)), (.getfield 274, 3, (11, 34, 0)), (.iload_n 1, 1, (0, 0, 0))] = 9 := by decide +kernel
theorem ok_X11_push_10_5 : oks m_X11_push.1 m_X11_push.2.2.1 10 [(.aload_n 0, 1, (0, 0, 0)), (.getfield 95, 3, (11, 33, 0)), (.aload_n 0, 1, (0, 0, 0)), (.getfield 274, 3, (11, 34, 0)), (.iload_n 2, 1, (0, 0, 0))] = true ∧ plen 10 [(.aload_n 0, 1, (0, 0, 0)), (.getfield 95, 3, (11, 33, 0)), (.aload_n 0, 1, (0, 0, 0)), (.getfield 274, 3, (11, 34, 0)), (.iload_n 2, 1, (0, 0, 0))] = 19 := by decide +kernel
theorem ok_X11_push_20_6 : oks m_X11_push.1 m_X11_push.2.2.1 20 [(.aload_n 0, 1, (0, 0, 0)), (.dup, 1, (0, 0, 0)), (.getfield 274, 3, (11, 34, 0)), (.iconst 1, 1, (0, 0, 0)), (.iadd, 1, (0, 0, 0)), (.putfield 274, 3, (11, 34, 0))] = true ∧ plen 20 [(.aload_n 0, 1, (0, 0, 0)), (.dup, 1, (0, 0, 0)), (.getfield 274, 3, (11, 34, 0)), (.iconst 1, 1, (0, 0, 0)), (.iadd, 1, (0, 0, 0)), (.putfield 274, 3, (11, 34, 0))] = 30 := by decide +kernel
def F_X11_push (a1 : Int) (a2 : Int) (σ : Sg) : Option Sg :=
(wrn 256 σ 28 (σ 0 34) a1).bind fun s1 =>
(wrn 256 s1 29 (s1 0 34) a2).bind fun s3 =>
bnd (up2 s3 0 34 (wrap ((s3 0 34) + 1))) fun s5 =>
some s5
theorem lk_X11_push (l : Launch) (d : Nat) (hd : 0 ≤ d) (a1 : Int) (a2 : Int) (σ : Sg) (q : Sg) (h : F_X11_push a1 a2 σ = some q) : CT l d m_X11_push.2.1 m_X11_push.2.2.1 m_X11_push.2.2.2.1 m_X11_push.2.2.2.2 [.inr 0, .inl a1, .inl a2] (LAYM, σ) none (LAYM, q) := by
  skip
  have key : Go l m_X11_push d LAYM (.inl none) q 0 [some (.inr 0), some (.inl a1), some (.inl a2)] [] σ := by
    unfold F_X11_push at h
    refine go_ops ok_X11_push_0_5 (L' := [some (.inr 0), some (.inl a1), some (.inl a2)]) (st' := [.inl a1, .inl (σ 0 34), .inr 28]) (σ1 := σ) rfl ?_
    obtain ⟨s1, e2, h⟩ := bind_inv h
    refine go_wr (k := 28) dc_X11_push_9 rfl e2 ?_
    refine go_ops ok_X11_push_10_5 (L' := [some (.inr 0), some (.inl a1), some (.inl a2)]) (st' := [.inl a2, .inl (s1 0 34), .inr 29]) (σ1 := s1) rfl ?_
    obtain ⟨s3, e4, h⟩ := bind_inv h
    refine go_wr (k := 29) dc_X11_push_19 rfl e4 ?_
    obtain ⟨s5, e6, h⟩ := bnd_inv h
    refine go_ops ok_X11_push_20_6 (L' := [some (.inr 0), some (.inl a1), some (.inl a2)]) (st' := []) (σ1 := s5) (by subst e6; rfl) ?_
    have h9 := Option.some.inj h
    subst h9
    exact go_vret dc_X11_push_30 rfl
  have hf := go_ct (as := [.inr 0, .inl a1, .inl a2]) mk_X11_push (by rfl) (Nat.le_of_ble_eq_true rfl) key
  exact hf
theorem dc_X11_turns_4 : decode m_X11_turns.2.2.1 4 = .ok (.ifCond .ne 5, 3) := by decide +kernel
theorem dc_X11_turns_8 : decode m_X11_turns.2.2.1 8 = .ok (.ireturn, 1) := by decide +kernel
theorem dc_X11_turns_28 : decode m_X11_turns.2.2.1 28 = .ok (.iaload, 1) := by decide +kernel
theorem dc_X11_turns_41 : decode m_X11_turns.2.2.1 41 = .ok (.iaload, 1) := by decide +kernel
theorem dc_X11_turns_50 : decode m_X11_turns.2.2.1 50 = .ok (.iaload, 1) := by decide +kernel
theorem dc_X11_turns_51 : decode m_X11_turns.2.2.1 51 = .ok (.invokevirtual 280, 3) := by decide +kernel
theorem dc_X11_turns_55 : decode m_X11_turns.2.2.1 55 = .ok (.ireturn, 1) := by decide +kernel
theorem ok_X11_turns_0_2 : oks m_X11_turns.1 m_X11_turns.2.2.1 0 [(.aload_n 0, 1, (0, 0, 0)), (.getfield 277, 3, (11, 38, 0))] = true ∧ plen 0 [(.aload_n 0, 1, (0, 0, 0)), (.getfield 277, 3, (11, 38, 0))] = 4 := by decide +kernel
theorem ok_X11_turns_7_1 : oks m_X11_turns.1 m_X11_turns.2.2.1 7 [(.iconst 0, 1, (0, 0, 0))] = true ∧ plen 7 [(.iconst 0, 1, (0, 0, 0))] = 8 := by decide +kernel
theorem ok_X11_turns_9_11 : oks m_X11_turns.1 m_X11_turns.2.2.1 9 [(.aload_n 0, 1, (0, 0, 0)), (.dup, 1, (0, 0, 0)), (.getfield 277, 3, (11, 38, 0)), (.iconst 1, 1, (0, 0, 0)), (.isub, 1, (0, 0, 0)), (.putfield 277, 3, (11, 38, 0)), (.aload_n 0, 1, (0, 0, 0)), (.aload_n 0, 1, (0, 0, 0)), (.getfield 98, 3, (11, 35, 0)), (.aload_n 0, 1, (0, 0, 0)), (.getfield 277, 3, (11, 38, 0))] = true ∧ plen 9 [(.aload_n 0, 1, (0, 0, 0)), (.dup, 1, (0, 0, 0)), (.getfield 277, 3, (11, 38, 0)), (.iconst 1, 1, (0, 0, 0)), (.isub, 1, (0, 0, 0)), (.putfield 277, 3, (11, 38, 0)), (.aload_n 0, 1, (0, 0, 0)), (.aload_n 0, 1, (0, 0, 0)), (.getfield 98, 3, (11, 35, 0)), (.aload_n 0, 1, (0, 0, 0)), (.getfield 277, 3, (11, 38, 0))] = 28 := by decide +kernel
theorem ok_X11_turns_29_6 : oks m_X11_turns.1 m_X11_turns.2.2.1 29 [(.putfield 274, 3, (11, 34, 0)), (.aload_n 0, 1, (0, 0, 0)), (.aload_n 0, 1, (0, 0, 0)), (.getfield 101, 3, (11, 36, 0)), (.aload_n 0, 1, (0, 0, 0)), (.getfield 277, 3, (11, 38, 0))] = true ∧ plen 29 [(.putfield 274, 3, (11, 34, 0)), (.aload_n 0, 1, (0, 0, 0)), (.aload_n 0, 1, (0, 0, 0)), (.getfield 101, 3, (11, 36, 0)), (.aload_n 0, 1, (0, 0, 0)), (.getfield 277, 3, (11, 38, 0))] = 41 := by decide +kernel
theorem ok_X11_turns_42_4 : oks m_X11_turns.1 m_X11_turns.2.2.1 42 [(.aload_n 0, 1, (0, 0, 0)), (.getfield 104, 3, (11, 37, 0)), (.aload_n 0, 1, (0, 0, 0)), (.getfield 277, 3, (11, 38, 0))] = true ∧ plen 42 [(.aload_n 0, 1, (0, 0, 0)), (.getfield 104, 3, (11, 37, 0)), (.aload_n 0, 1, (0, 0, 0)), (.getfield 277, 3, (11, 38, 0))] = 50 := by decide +kernel
theorem ok_X11_turns_54_1 : oks m_X11_turns.1 m_X11_turns.2.2.1 54 [(.iconst 1, 1, (0, 0, 0))] = true ∧ plen 54 [(.iconst 1, 1, (0, 0, 0))] = 55 := by decide +kernel
def F_X11_turns (σ : Sg) : Option (Bool × Sg) :=
if (σ 0 38) = 0 then
some (false, σ)
else
bnd (up2 σ 0 38 (wrap ((σ 0 38) - 1))) fun s1 =>
(rdn 64 s1 30 (s1 0 38)).bind fun v3 =>
bnd (up2 s1 0 34 v3) fun s5 =>
(rdn 64 s5 31 (s5 0 38)).bind fun v7 =>
(rdn 64 s5 32 (s5 0 38)).bind fun v9 =>
(F_X11_push v7 v9 s5).bind fun q11 =>
some (true, q11)
theorem lk_X11_turns (l : Launch) (d : Nat) (hd : 1 ≤ d) (σ : Sg) (q : (Bool × Sg)) (h : F_X11_turns σ = some q) : CT l d m_X11_turns.2.1 m_X11_turns.2.2.1 m_X11_turns.2.2.2.1 m_X11_turns.2.2.2.2 [.inr 0] (LAYM, σ) (some (.inl (b2i q.1))) (LAYM, q.2) := by
  obtain ⟨d, rfl⟩ : ∃ e, d = e + 1 := ⟨d - 1, by omega⟩
  have key : Go l m_X11_turns (d + 1) LAYM (.inl (some (.inl (b2i q.1)))) q.2 0 [some (.inr 0)] [] σ := by
    unfold F_X11_turns at h
    refine go_ops ok_X11_turns_0_2 (L' := [some (.inr 0)]) (st' := [.inl (σ 0 38)]) (σ1 := σ) rfl ?_
    refine go_if_ne dc_X11_turns_4 (by rfl) (fun hc => ?_) (fun hc => ?_)
    · replace h := (if_neg hc).symm.trans h
      obtain ⟨s1, e2, h⟩ := bnd_inv h
      refine go_ops ok_X11_turns_9_11 (L' := [some (.inr 0)]) (st' := [.inl (s1 0 38), .inr 30, .inr 0]) (σ1 := s1) (by subst e2; rfl) ?_
      obtain ⟨v3, e4, h⟩ := bind_inv h
      refine go_rd (k := 30) dc_X11_turns_28 rfl e4 ?_
      obtain ⟨s5, e6, h⟩ := bnd_inv h
      refine go_ops ok_X11_turns_29_6 (L' := [some (.inr 0)]) (st' := [.inl (s5 0 38), .inr 31, .inr 0]) (σ1 := s5) (by subst e6; rfl) ?_
      obtain ⟨v7, e8, h⟩ := bind_inv h
      refine go_rd (k := 31) dc_X11_turns_41 rfl e8 ?_
      refine go_ops ok_X11_turns_42_4 (L' := [some (.inr 0)]) (st' := [.inl (s5 0 38), .inr 32, .inl v7, .inr 0]) (σ1 := s5) rfl ?_
      obtain ⟨v9, e10, h⟩ := bind_inv h
      refine go_rd (k := 32) dc_X11_turns_50 rfl e10 ?_
      obtain ⟨q11, e12, h⟩ := bind_inv h
      refine go_V (M1 := m_X11_push) (as := [.inl v7, .inl v9]) (st := []) (k := 0) (ci := 11) dc_X11_turns_51 ln_11_280 im_X11_push (by decide) rfl rfl mk_X11_push rfl (Nat.le_of_ble_eq_true rfl) (Nat.le_refl _) (v := none) (σ1 := q11) (lk_X11_push l d (by omega) v7 v9 s5 q11 e12) _ rfl ?_
      refine go_ops ok_X11_turns_54_1 (L' := [some (.inr 0)]) (st' := [.inl 1]) (σ1 := q11) rfl ?_
      have h9 := Option.some.inj h
      subst h9
      exact go_zret (x := true) dc_X11_turns_55 rfl
    · replace h := (if_pos hc).symm.trans h
      refine go_ops ok_X11_turns_7_1 (L' := [some (.inr 0)]) (st' := [.inl 0]) (σ1 := σ) rfl ?_
      have h9 := Option.some.inj h
      subst h9
      exact go_zret (x := false) dc_X11_turns_8 rfl
  have hf := go_ct (as := [.inr 0]) mk_X11_turns (by rfl) (Nat.le_of_ble_eq_true rfl) key
  exact hf
theorem dc_X11_isAsked_3 : decode m_X11_isAsked.2.2.1 3 = .ok (.if_icmp .ne 13, 3) := by decide +kernel
theorem dc_X11_isAsked_19 : decode m_X11_isAsked.2.2.1 19 = .ok (.if_icmp .ne 7, 3) := by decide +kernel
theorem dc_X11_isAsked_23 : decode m_X11_isAsked.2.2.1 23 = .ok (.goto 4, 3) := by decide +kernel
theorem dc_X11_isAsked_27 : decode m_X11_isAsked.2.2.1 27 = .ok (.ireturn, 1) := by decide +kernel
theorem ok_X11_isAsked_0_2 : oks m_X11_isAsked.1 m_X11_isAsked.2.2.1 0 [(.iload_n 1, 1, (0, 0, 0)), (.bipush (-9), 2, (0, 0, 0))] = true ∧ plen 0 [(.iload_n 1, 1, (0, 0, 0)), (.bipush (-9), 2, (0, 0, 0))] = 3 := by decide +kernel
theorem ok_X11_isAsked_6_6 : oks m_X11_isAsked.1 m_X11_isAsked.2.2.1 6 [(.aload_n 0, 1, (0, 0, 0)), (.iconst 5, 1, (0, 0, 0)), (.putfield 283, 3, (11, 42, 0)), (.aload_n 0, 1, (0, 0, 0)), (.iload_n 2, 1, (0, 0, 0)), (.putfield 286, 3, (11, 44, 0))] = true ∧ plen 6 [(.aload_n 0, 1, (0, 0, 0)), (.iconst 5, 1, (0, 0, 0)), (.putfield 283, 3, (11, 42, 0)), (.aload_n 0, 1, (0, 0, 0)), (.iload_n 2, 1, (0, 0, 0)), (.putfield 286, 3, (11, 44, 0))] = 16 := by decide +kernel
theorem ok_X11_isAsked_16_2 : oks m_X11_isAsked.1 m_X11_isAsked.2.2.1 16 [(.iload_n 1, 1, (0, 0, 0)), (.bipush (-9), 2, (0, 0, 0))] = true ∧ plen 16 [(.iload_n 1, 1, (0, 0, 0)), (.bipush (-9), 2, (0, 0, 0))] = 19 := by decide +kernel
theorem ok_X11_isAsked_22_1 : oks m_X11_isAsked.1 m_X11_isAsked.2.2.1 22 [(.iconst 1, 1, (0, 0, 0))] = true ∧ plen 22 [(.iconst 1, 1, (0, 0, 0))] = 23 := by decide +kernel
theorem ok_X11_isAsked_26_1 : oks m_X11_isAsked.1 m_X11_isAsked.2.2.1 26 [(.iconst 0, 1, (0, 0, 0))] = true ∧ plen 26 [(.iconst 0, 1, (0, 0, 0))] = 27 := by decide +kernel
def B_X11_isAsked_16 (x1 : Int) (σ : Sg) : (Bool × Sg) :=
if x1 = (-9) then
(true, σ)
else
(false, σ)
def F_X11_isAsked (a1 : Int) (a2 : Int) (σ : Sg) : (Bool × Sg) :=
if a1 = (-9) then
bnd (up2 σ 0 42 5) fun s1 =>
bnd (up2 s1 0 44 a2) fun s3 =>
B_X11_isAsked_16 a1 s3
else
B_X11_isAsked_16 a1 σ
theorem lk_X11_isAsked (l : Launch) (d : Nat) (hd : 0 ≤ d) (a1 : Int) (a2 : Int) (σ : Sg) (q : (Bool × Sg)) (h : F_X11_isAsked a1 a2 σ = q) : CT l d m_X11_isAsked.2.1 m_X11_isAsked.2.2.1 m_X11_isAsked.2.2.2.1 m_X11_isAsked.2.2.2.2 [.inr 0, .inl a1, .inl a2] (LAYM, σ) (some (.inl (b2i q.1))) (LAYM, q.2) := by
  skip
  have key : Go l m_X11_isAsked d LAYM (.inl (some (.inl (b2i q.1)))) q.2 0 [some (.inr 0), some (.inl a1), some (.inl a2)] [] σ := by
    unfold F_X11_isAsked at h
    have hB_X11_isAsked_16 : ∀ (x1 : Int) (σ : Sg), B_X11_isAsked_16 x1 σ = q → Go l m_X11_isAsked d LAYM (.inl (some (.inl (b2i q.1)))) q.2 16 [none, some (.inl x1), none] [] σ := by
      intro x1 σ h
      unfold B_X11_isAsked_16 at h
      refine go_ops ok_X11_isAsked_16_2 (L' := [none, some (.inl x1), none]) (st' := [.inl (-9), .inl x1]) (σ1 := σ) rfl ?_
      refine go_icmp_ne dc_X11_isAsked_19 (by rfl) (fun hc => ?_) (fun hc => ?_)
      · replace h := (if_neg hc).symm.trans h
        refine go_ops ok_X11_isAsked_26_1 (L' := [none, some (.inl x1), none]) (st' := [.inl 0]) (σ1 := σ) rfl ?_
        subst h
        exact go_zret (x := false) dc_X11_isAsked_27 rfl
      · replace h := (if_pos hc).symm.trans h
        refine go_ops ok_X11_isAsked_22_1 (L' := [none, some (.inl x1), none]) (st' := [.inl 1]) (σ1 := σ) rfl ?_
        refine go_goto dc_X11_isAsked_23 (by rfl) ?_
        subst h
        exact go_zret (x := true) dc_X11_isAsked_27 rfl
    refine go_ops ok_X11_isAsked_0_2 (L' := [some (.inr 0), some (.inl a1), some (.inl a2)]) (st' := [.inl (-9), .inl a1]) (σ1 := σ) rfl ?_
    refine go_icmp_ne dc_X11_isAsked_3 (by rfl) (fun hc => ?_) (fun hc => ?_)
    · replace h := (if_neg hc).symm.trans h
      refine go_wk (L' := [none, some (.inl a1), none]) ⟨rfl, trivial⟩ ?_
      exact hB_X11_isAsked_16 a1 σ h
    · replace h := (if_pos hc).symm.trans h
      obtain ⟨s1, e2, h⟩ := bnd_inv h
      obtain ⟨s3, e4, h⟩ := bnd_inv h
      refine go_ops ok_X11_isAsked_6_6 (L' := [some (.inr 0), some (.inl a1), some (.inl a2)]) (st' := []) (σ1 := s3) (by subst e4; subst e2; rfl) ?_
      refine go_wk (L' := [none, some (.inl a1), none]) ⟨rfl, trivial⟩ ?_
      exact hB_X11_isAsked_16 a1 s3 h
  have hf := go_ct (as := [.inr 0, .inl a1, .inl a2]) mk_X11_isAsked (by rfl) (Nat.le_of_ble_eq_true rfl) key
  exact hf
theorem dc_X11_fitsLength_5 : decode m_X11_fitsLength.2.2.1 5 = .ok (.iaload, 1) := by decide +kernel
theorem dc_X11_fitsLength_6 : decode m_X11_fitsLength.2.2.1 6 = .ok (.ifCond .ne 21, 3) := by decide +kernel
theorem dc_X11_fitsLength_15 : decode m_X11_fitsLength.2.2.1 15 = .ok (.iaload, 1) := by decide +kernel
theorem dc_X11_fitsLength_16 : decode m_X11_fitsLength.2.2.1 16 = .ok (.if_icmp .ne 7, 3) := by decide +kernel
theorem dc_X11_fitsLength_20 : decode m_X11_fitsLength.2.2.1 20 = .ok (.goto 22, 3) := by decide +kernel
theorem dc_X11_fitsLength_24 : decode m_X11_fitsLength.2.2.1 24 = .ok (.goto 18, 3) := by decide +kernel
theorem dc_X11_fitsLength_33 : decode m_X11_fitsLength.2.2.1 33 = .ok (.iaload, 1) := by decide +kernel
theorem dc_X11_fitsLength_34 : decode m_X11_fitsLength.2.2.1 34 = .ok (.if_icmp .lt 7, 3) := by decide +kernel
theorem dc_X11_fitsLength_38 : decode m_X11_fitsLength.2.2.1 38 = .ok (.goto 4, 3) := by decide +kernel
theorem dc_X11_fitsLength_42 : decode m_X11_fitsLength.2.2.1 42 = .ok (.ireturn, 1) := by decide +kernel
theorem ok_X11_fitsLength_0_3 : oks m_X11_fitsLength.1 m_X11_fitsLength.2.2.1 0 [(.aload_n 0, 1, (0, 0, 0)), (.getfield 37, 3, (11, 12, 0)), (.iload_n 1, 1, (0, 0, 0))] = true ∧ plen 0 [(.aload_n 0, 1, (0, 0, 0)), (.getfield 37, 3, (11, 12, 0)), (.iload_n 1, 1, (0, 0, 0))] = 5 := by decide +kernel
theorem ok_X11_fitsLength_9_4 : oks m_X11_fitsLength.1 m_X11_fitsLength.2.2.1 9 [(.iload_n 2, 1, (0, 0, 0)), (.aload_n 0, 1, (0, 0, 0)), (.getfield 34, 3, (11, 11, 0)), (.iload_n 1, 1, (0, 0, 0))] = true ∧ plen 9 [(.iload_n 2, 1, (0, 0, 0)), (.aload_n 0, 1, (0, 0, 0)), (.getfield 34, 3, (11, 11, 0)), (.iload_n 1, 1, (0, 0, 0))] = 15 := by decide +kernel
theorem ok_X11_fitsLength_19_1 : oks m_X11_fitsLength.1 m_X11_fitsLength.2.2.1 19 [(.iconst 1, 1, (0, 0, 0))] = true ∧ plen 19 [(.iconst 1, 1, (0, 0, 0))] = 20 := by decide +kernel
theorem ok_X11_fitsLength_23_1 : oks m_X11_fitsLength.1 m_X11_fitsLength.2.2.1 23 [(.iconst 0, 1, (0, 0, 0))] = true ∧ plen 23 [(.iconst 0, 1, (0, 0, 0))] = 24 := by decide +kernel
theorem ok_X11_fitsLength_27_4 : oks m_X11_fitsLength.1 m_X11_fitsLength.2.2.1 27 [(.iload_n 2, 1, (0, 0, 0)), (.aload_n 0, 1, (0, 0, 0)), (.getfield 34, 3, (11, 11, 0)), (.iload_n 1, 1, (0, 0, 0))] = true ∧ plen 27 [(.iload_n 2, 1, (0, 0, 0)), (.aload_n 0, 1, (0, 0, 0)), (.getfield 34, 3, (11, 11, 0)), (.iload_n 1, 1, (0, 0, 0))] = 33 := by decide +kernel
theorem ok_X11_fitsLength_37_1 : oks m_X11_fitsLength.1 m_X11_fitsLength.2.2.1 37 [(.iconst 1, 1, (0, 0, 0))] = true ∧ plen 37 [(.iconst 1, 1, (0, 0, 0))] = 38 := by decide +kernel
theorem ok_X11_fitsLength_41_1 : oks m_X11_fitsLength.1 m_X11_fitsLength.2.2.1 41 [(.iconst 0, 1, (0, 0, 0))] = true ∧ plen 41 [(.iconst 0, 1, (0, 0, 0))] = 42 := by decide +kernel
def F_X11_fitsLength (a1 : Int) (a2 : Int) (σ : Sg) : Option Bool :=
(rdn 60 σ 10 a1).bind fun v1 =>
if v1 = 0 then
(rdn 60 σ 9 a1).bind fun v5 =>
if a2 = v5 then
some true
else
some false
else
(rdn 60 σ 9 a1).bind fun v3 =>
if a2 < v3 then
some false
else
some true
theorem lk_X11_fitsLength (l : Launch) (d : Nat) (hd : 0 ≤ d) (a1 : Int) (a2 : Int) (σ : Sg) (q : Bool) (h : F_X11_fitsLength a1 a2 σ = some q) : CT l d m_X11_fitsLength.2.1 m_X11_fitsLength.2.2.1 m_X11_fitsLength.2.2.2.1 m_X11_fitsLength.2.2.2.2 [.inr 0, .inl a1, .inl a2] (LAYM, σ) (some (.inl (b2i q))) (LAYM, σ) := by
  skip
  have key : Go l m_X11_fitsLength d LAYM (.inl (some (.inl (b2i q)))) σ 0 [some (.inr 0), some (.inl a1), some (.inl a2)] [] σ := by
    unfold F_X11_fitsLength at h
    refine go_ops ok_X11_fitsLength_0_3 (L' := [some (.inr 0), some (.inl a1), some (.inl a2)]) (st' := [.inl a1, .inr 10]) (σ1 := σ) rfl ?_
    obtain ⟨v1, e2, h⟩ := bind_inv h
    refine go_rd (k := 10) dc_X11_fitsLength_5 rfl e2 ?_
    refine go_if_ne dc_X11_fitsLength_6 (by rfl) (fun hc => ?_) (fun hc => ?_)
    · replace h := (if_neg hc).symm.trans h
      refine go_ops ok_X11_fitsLength_27_4 (L' := [some (.inr 0), some (.inl a1), some (.inl a2)]) (st' := [.inl a1, .inr 9, .inl a2]) (σ1 := σ) rfl ?_
      obtain ⟨v3, e4, h⟩ := bind_inv h
      refine go_rd (k := 9) dc_X11_fitsLength_33 rfl e4 ?_
      refine go_icmp_lt dc_X11_fitsLength_34 (by rfl) (fun hc => ?_) (fun hc => ?_)
      · replace h := (if_pos hc).symm.trans h
        refine go_ops ok_X11_fitsLength_41_1 (L' := [some (.inr 0), some (.inl a1), some (.inl a2)]) (st' := [.inl 0]) (σ1 := σ) rfl ?_
        have h9 := Option.some.inj h
        subst h9
        exact go_zret (x := false) dc_X11_fitsLength_42 rfl
      · replace h := (if_neg hc).symm.trans h
        refine go_ops ok_X11_fitsLength_37_1 (L' := [some (.inr 0), some (.inl a1), some (.inl a2)]) (st' := [.inl 1]) (σ1 := σ) rfl ?_
        refine go_goto dc_X11_fitsLength_38 (by rfl) ?_
        have h9 := Option.some.inj h
        subst h9
        exact go_zret (x := true) dc_X11_fitsLength_42 rfl
    · replace h := (if_pos hc).symm.trans h
      refine go_ops ok_X11_fitsLength_9_4 (L' := [some (.inr 0), some (.inl a1), some (.inl a2)]) (st' := [.inl a1, .inr 9, .inl a2]) (σ1 := σ) rfl ?_
      obtain ⟨v5, e6, h⟩ := bind_inv h
      refine go_rd (k := 9) dc_X11_fitsLength_15 rfl e6 ?_
      refine go_icmp_ne dc_X11_fitsLength_16 (by rfl) (fun hc => ?_) (fun hc => ?_)
      · replace h := (if_neg hc).symm.trans h
        refine go_ops ok_X11_fitsLength_23_1 (L' := [some (.inr 0), some (.inl a1), some (.inl a2)]) (st' := [.inl 0]) (σ1 := σ) rfl ?_
        refine go_goto dc_X11_fitsLength_24 (by rfl) ?_
        have h9 := Option.some.inj h
        subst h9
        exact go_zret (x := false) dc_X11_fitsLength_42 rfl
      · replace h := (if_pos hc).symm.trans h
        refine go_ops ok_X11_fitsLength_19_1 (L' := [some (.inr 0), some (.inl a1), some (.inl a2)]) (st' := [.inl 1]) (σ1 := σ) rfl ?_
        refine go_goto dc_X11_fitsLength_20 (by rfl) ?_
        have h9 := Option.some.inj h
        subst h9
        exact go_zret (x := true) dc_X11_fitsLength_42 rfl
  have hf := go_ct (as := [.inr 0, .inl a1, .inl a2]) mk_X11_fitsLength (by rfl) (Nat.le_of_ble_eq_true rfl) key
  exact hf
theorem dc_X11_pushParts_5 : decode m_X11_pushParts.2.2.1 5 = .ok (.iaload, 1) := by decide +kernel
theorem dc_X11_pushParts_8 : decode m_X11_pushParts.2.2.1 8 = .ok (.if_icmp .ne 24, 3) := by decide +kernel
theorem dc_X11_pushParts_16 : decode m_X11_pushParts.2.2.1 16 = .ok (.iaload, 1) := by decide +kernel
theorem dc_X11_pushParts_18 : decode m_X11_pushParts.2.2.1 18 = .ok (.if_icmp .ne 14, 3) := by decide +kernel
theorem dc_X11_pushParts_27 : decode m_X11_pushParts.2.2.1 27 = .ok (.iaload, 1) := by decide +kernel
theorem dc_X11_pushParts_29 : decode m_X11_pushParts.2.2.1 29 = .ok (.goto 4, 3) := by decide +kernel
theorem dc_X11_pushParts_40 : decode m_X11_pushParts.2.2.1 40 = .ok (.ifCond .lt 50, 3) := by decide +kernel
theorem dc_X11_pushParts_53 : decode m_X11_pushParts.2.2.1 53 = .ok (.iaload, 1) := by decide +kernel
theorem dc_X11_pushParts_55 : decode m_X11_pushParts.2.2.1 55 = .ok (.if_icmp .eq 29, 3) := by decide +kernel
theorem dc_X11_pushParts_69 : decode m_X11_pushParts.2.2.1 69 = .ok (.iaload, 1) := by decide +kernel
theorem dc_X11_pushParts_81 : decode m_X11_pushParts.2.2.1 81 = .ok (.invokevirtual 280, 3) := by decide +kernel
theorem dc_X11_pushParts_87 : decode m_X11_pushParts.2.2.1 87 = .ok (.goto (-49), 3) := by decide +kernel
theorem dc_X11_pushParts_90 : decode m_X11_pushParts.2.2.1 90 = .ok (.return_, 1) := by decide +kernel
theorem ok_X11_pushParts_0_3 : oks m_X11_pushParts.1 m_X11_pushParts.2.2.1 0 [(.aload_n 0, 1, (0, 0, 0)), (.getfield 31, 3, (11, 10, 0)), (.iload_n 1, 1, (0, 0, 0))] = true ∧ plen 0 [(.aload_n 0, 1, (0, 0, 0)), (.getfield 31, 3, (11, 10, 0)), (.iload_n 1, 1, (0, 0, 0))] = 5 := by decide +kernel
theorem ok_X11_pushParts_6_1 : oks m_X11_pushParts.1 m_X11_pushParts.2.2.1 6 [(.bipush 6, 2, (0, 0, 0))] = true ∧ plen 6 [(.bipush 6, 2, (0, 0, 0))] = 8 := by decide +kernel
theorem ok_X11_pushParts_11_3 : oks m_X11_pushParts.1 m_X11_pushParts.2.2.1 11 [(.aload_n 0, 1, (0, 0, 0)), (.getfield 37, 3, (11, 12, 0)), (.iload_n 1, 1, (0, 0, 0))] = true ∧ plen 11 [(.aload_n 0, 1, (0, 0, 0)), (.getfield 37, 3, (11, 12, 0)), (.iload_n 1, 1, (0, 0, 0))] = 16 := by decide +kernel
theorem ok_X11_pushParts_17_1 : oks m_X11_pushParts.1 m_X11_pushParts.2.2.1 17 [(.iconst 2, 1, (0, 0, 0))] = true ∧ plen 17 [(.iconst 2, 1, (0, 0, 0))] = 18 := by decide +kernel
theorem ok_X11_pushParts_21_4 : oks m_X11_pushParts.1 m_X11_pushParts.2.2.1 21 [(.iload_n 3, 1, (0, 0, 0)), (.aload_n 0, 1, (0, 0, 0)), (.getfield 34, 3, (11, 11, 0)), (.iload_n 1, 1, (0, 0, 0))] = true ∧ plen 21 [(.iload_n 3, 1, (0, 0, 0)), (.aload_n 0, 1, (0, 0, 0)), (.getfield 34, 3, (11, 11, 0)), (.iload_n 1, 1, (0, 0, 0))] = 27 := by decide +kernel
theorem ok_X11_pushParts_28_1 : oks m_X11_pushParts.1 m_X11_pushParts.2.2.1 28 [(.isub, 1, (0, 0, 0))] = true ∧ plen 28 [(.isub, 1, (0, 0, 0))] = 29 := by decide +kernel
theorem ok_X11_pushParts_32_1 : oks m_X11_pushParts.1 m_X11_pushParts.2.2.1 32 [(.iconst 0, 1, (0, 0, 0))] = true ∧ plen 32 [(.iconst 0, 1, (0, 0, 0))] = 33 := by decide +kernel
theorem ok_X11_pushParts_33_3 : oks m_X11_pushParts.1 m_X11_pushParts.2.2.1 33 [(.istore 4, 2, (0, 0, 0)), (.iconst 2, 1, (0, 0, 0)), (.istore 5, 2, (0, 0, 0))] = true ∧ plen 33 [(.istore 4, 2, (0, 0, 0)), (.iconst 2, 1, (0, 0, 0)), (.istore 5, 2, (0, 0, 0))] = 38 := by decide +kernel
theorem ok_X11_pushParts_38_1 : oks m_X11_pushParts.1 m_X11_pushParts.2.2.1 38 [(.iload 5, 2, (0, 0, 0))] = true ∧ plen 38 [(.iload 5, 2, (0, 0, 0))] = 40 := by decide +kernel
theorem ok_X11_pushParts_43_7 : oks m_X11_pushParts.1 m_X11_pushParts.2.2.1 43 [(.aload_n 0, 1, (0, 0, 0)), (.getfield 40, 3, (11, 13, 0)), (.iconst 3, 1, (0, 0, 0)), (.iload_n 1, 1, (0, 0, 0)), (.imul, 1, (0, 0, 0)), (.iload 5, 2, (0, 0, 0)), (.iadd, 1, (0, 0, 0))] = true ∧ plen 43 [(.aload_n 0, 1, (0, 0, 0)), (.getfield 40, 3, (11, 13, 0)), (.iconst 3, 1, (0, 0, 0)), (.iload_n 1, 1, (0, 0, 0)), (.imul, 1, (0, 0, 0)), (.iload 5, 2, (0, 0, 0)), (.iadd, 1, (0, 0, 0))] = 53 := by decide +kernel
theorem ok_X11_pushParts_54_1 : oks m_X11_pushParts.1 m_X11_pushParts.2.2.1 54 [(.iconst (-1), 1, (0, 0, 0))] = true ∧ plen 54 [(.iconst (-1), 1, (0, 0, 0))] = 55 := by decide +kernel
theorem ok_X11_pushParts_58_8 : oks m_X11_pushParts.1 m_X11_pushParts.2.2.1 58 [(.aload_n 0, 1, (0, 0, 0)), (.aload_n 0, 1, (0, 0, 0)), (.getfield 40, 3, (11, 13, 0)), (.iconst 3, 1, (0, 0, 0)), (.iload_n 1, 1, (0, 0, 0)), (.imul, 1, (0, 0, 0)), (.iload 5, 2, (0, 0, 0)), (.iadd, 1, (0, 0, 0))] = true ∧ plen 58 [(.aload_n 0, 1, (0, 0, 0)), (.aload_n 0, 1, (0, 0, 0)), (.getfield 40, 3, (11, 13, 0)), (.iconst 3, 1, (0, 0, 0)), (.iload_n 1, 1, (0, 0, 0)), (.imul, 1, (0, 0, 0)), (.iload 5, 2, (0, 0, 0)), (.iadd, 1, (0, 0, 0))] = 69 := by decide +kernel
theorem ok_X11_pushParts_70_9 : oks m_X11_pushParts.1 m_X11_pushParts.2.2.1 70 [(.iconst 5, 1, (0, 0, 0)), (.iload_n 2, 1, (0, 0, 0)), (.imul, 1, (0, 0, 0)), (.iload 4, 2, (0, 0, 0)), (.iadd, 1, (0, 0, 0)), (.iload 5, 2, (0, 0, 0)), (.iadd, 1, (0, 0, 0)), (.iconst 1, 1, (0, 0, 0)), (.iadd, 1, (0, 0, 0))] = true ∧ plen 70 [(.iconst 5, 1, (0, 0, 0)), (.iload_n 2, 1, (0, 0, 0)), (.imul, 1, (0, 0, 0)), (.iload 4, 2, (0, 0, 0)), (.iadd, 1, (0, 0, 0)), (.iload 5, 2, (0, 0, 0)), (.iadd, 1, (0, 0, 0)), (.iconst 1, 1, (0, 0, 0)), (.iadd, 1, (0, 0, 0))] = 81 := by decide +kernel
theorem ok_X11_pushParts_84_1 : oks m_X11_pushParts.1 m_X11_pushParts.2.2.1 84 [(.iinc 5 (-1), 3, (0, 0, 0))] = true ∧ plen 84 [(.iinc 5 (-1), 3, (0, 0, 0))] = 87 := by decide +kernel
def B_X11_pushParts_84 (x5 : Int) (σ : Sg) : Option ((Int × Sg) ⊕ Sg) :=
some (.inl (wrap (x5 + (-1)), σ))
def L_X11_pushParts_38 (x1 : Int) (x2 : Int) (x4 : Int) (x5 : Int) (σ : Sg) : Option ((Int × Sg) ⊕ Sg) :=
if x5 < 0 then
some (.inr σ)
else
(rdn 180 σ 11 (wrap ((wrap (3 * x1)) + x5))).bind fun v3 =>
if v3 = (-1) then
B_X11_pushParts_84 x5 σ
else
(rdn 180 σ 11 (wrap ((wrap (3 * x1)) + x5))).bind fun v5 =>
(F_X11_push v5 (wrap ((wrap ((wrap ((wrap (5 * x2)) + x4)) + x5)) + 1)) σ).bind fun q7 =>
B_X11_pushParts_84 x5 q7
def B_X11_pushParts_33 (x1 : Int) (x2 : Int) (y0 : Int) (σ : Sg) : Option Sg :=
(iter (fun a : (Int × Sg) => L_X11_pushParts_38 x1 x2 y0 a.1 a.2) 3000 (2, σ)).bind fun y9 =>
some y9
def B_X11_pushParts_32 (x1 : Int) (x2 : Int) (σ : Sg) : Option Sg :=
B_X11_pushParts_33 x1 x2 0 σ
def F_X11_pushParts (a1 : Int) (a2 : Int) (a3 : Int) (σ : Sg) : Option Sg :=
(rdn 60 σ 8 a1).bind fun v1 =>
if v1 = 6 then
(rdn 60 σ 10 a1).bind fun v11 =>
if v11 = 2 then
(rdn 60 σ 9 a1).bind fun v13 =>
B_X11_pushParts_33 a1 a2 (wrap (a3 - v13)) σ
else
B_X11_pushParts_32 a1 a2 σ
else
B_X11_pushParts_32 a1 a2 σ
theorem lk_X11_pushParts (l : Launch) (d : Nat) (hd : 1 ≤ d) (a1 : Int) (a2 : Int) (a3 : Int) (σ : Sg) (q : Sg) (h : F_X11_pushParts a1 a2 a3 σ = some q) : CT l d m_X11_pushParts.2.1 m_X11_pushParts.2.2.1 m_X11_pushParts.2.2.2.1 m_X11_pushParts.2.2.2.2 [.inr 0, .inl a1, .inl a2, .inl a3] (LAYM, σ) none (LAYM, q) := by
  obtain ⟨d, rfl⟩ : ∃ e, d = e + 1 := ⟨d - 1, by omega⟩
  have key : Go l m_X11_pushParts (d + 1) LAYM (.inl none) q 0 [some (.inr 0), some (.inl a1), some (.inl a2), some (.inl a3), none, none] [] σ := by
    unfold F_X11_pushParts at h
    have hL_X11_pushParts_38 : ∀ (x1 : Int) (x2 : Int) (x4 : Int) (n : Nat) (a : (Int × Sg)) (y : Sg), iter (fun a : (Int × Sg) => L_X11_pushParts_38 x1 x2 x4 a.1 a.2) n a = some y → (fun y : Sg => Go l m_X11_pushParts (d + 1) LAYM (.inl none) q 90 [none, none, none, none, none, none] [] y) y → (fun a : (Int × Sg) => Go l m_X11_pushParts (d + 1) LAYM (.inl none) q 38 [some (.inr 0), some (.inl x1), some (.inl x2), none, some (.inl x4), some (.inl a.1)] [] a.2) a := by
      intro x1 x2 x4
      refine go_iter (G := fun a : (Int × Sg) => Go l m_X11_pushParts (d + 1) LAYM (.inl none) q 38 [some (.inr 0), some (.inl x1), some (.inl x2), none, some (.inl x4), some (.inl a.1)] [] a.2) (K := fun y : Sg => Go l m_X11_pushParts (d + 1) LAYM (.inl none) q 90 [none, none, none, none, none, none] [] y) ?_
      rintro ⟨x5, σ⟩ w h hK
      replace h : L_X11_pushParts_38 x1 x2 x4 x5 σ = some w := h
      show Go l m_X11_pushParts (d + 1) LAYM (.inl none) q 38 [some (.inr 0), some (.inl x1), some (.inl x2), none, some (.inl x4), some (.inl x5)] [] σ
      unfold L_X11_pushParts_38 at h
      have hB_X11_pushParts_84 : ∀ (x5 : Int) (σ : Sg), B_X11_pushParts_84 x5 σ = some w → Go l m_X11_pushParts (d + 1) LAYM (.inl none) q 84 [some (.inr 0), some (.inl x1), some (.inl x2), none, some (.inl x4), some (.inl x5)] [] σ := by
        intro x5 σ h
        unfold B_X11_pushParts_84 at h
        refine go_ops ok_X11_pushParts_84_1 (L' := [some (.inr 0), some (.inl x1), some (.inl x2), none, some (.inl x4), some (.inl (wrap (x5 + (-1))))]) (st' := []) (σ1 := σ) rfl ?_
        refine go_goto dc_X11_pushParts_87 (by rfl) ?_
        cases h
        exact hK
      refine go_ops ok_X11_pushParts_38_1 (L' := [some (.inr 0), some (.inl x1), some (.inl x2), none, some (.inl x4), some (.inl x5)]) (st' := [.inl x5]) (σ1 := σ) rfl ?_
      refine go_if_lt dc_X11_pushParts_40 (by rfl) (fun hc => ?_) (fun hc => ?_)
      · replace h := (if_pos hc).symm.trans h
        cases h
        refine go_wk (L' := [none, none, none, none, none, none]) trivial ?_
        exact hK
      · replace h := (if_neg hc).symm.trans h
        refine go_ops ok_X11_pushParts_43_7 (L' := [some (.inr 0), some (.inl x1), some (.inl x2), none, some (.inl x4), some (.inl x5)]) (st' := [.inl (wrap ((wrap (3 * x1)) + x5)), .inr 11]) (σ1 := σ) rfl ?_
        obtain ⟨v3, e4, h⟩ := bind_inv h
        refine go_rd (k := 11) dc_X11_pushParts_53 rfl e4 ?_
        refine go_ops ok_X11_pushParts_54_1 (L' := [some (.inr 0), some (.inl x1), some (.inl x2), none, some (.inl x4), some (.inl x5)]) (st' := [.inl (-1), .inl v3]) (σ1 := σ) rfl ?_
        refine go_icmp_eq dc_X11_pushParts_55 (by rfl) (fun hc => ?_) (fun hc => ?_)
        · replace h := (if_pos hc).symm.trans h
          exact hB_X11_pushParts_84 x5 σ h
        · replace h := (if_neg hc).symm.trans h
          refine go_ops ok_X11_pushParts_58_8 (L' := [some (.inr 0), some (.inl x1), some (.inl x2), none, some (.inl x4), some (.inl x5)]) (st' := [.inl (wrap ((wrap (3 * x1)) + x5)), .inr 11, .inr 0]) (σ1 := σ) rfl ?_
          obtain ⟨v5, e6, h⟩ := bind_inv h
          refine go_rd (k := 11) dc_X11_pushParts_69 rfl e6 ?_
          refine go_ops ok_X11_pushParts_70_9 (L' := [some (.inr 0), some (.inl x1), some (.inl x2), none, some (.inl x4), some (.inl x5)]) (st' := [.inl (wrap ((wrap ((wrap ((wrap (5 * x2)) + x4)) + x5)) + 1)), .inl v5, .inr 0]) (σ1 := σ) rfl ?_
          obtain ⟨q7, e8, h⟩ := bind_inv h
          refine go_V (M1 := m_X11_push) (as := [.inl v5, .inl (wrap ((wrap ((wrap ((wrap (5 * x2)) + x4)) + x5)) + 1))]) (st := []) (k := 0) (ci := 11) dc_X11_pushParts_81 ln_11_280 im_X11_push (by decide) rfl rfl mk_X11_push rfl (Nat.le_of_ble_eq_true rfl) (Nat.le_refl _) (v := none) (σ1 := q7) (lk_X11_push l d (by omega) v5 (wrap ((wrap ((wrap ((wrap (5 * x2)) + x4)) + x5)) + 1)) σ q7 e8) _ rfl ?_
          exact hB_X11_pushParts_84 x5 q7 h
    have hB_X11_pushParts_33 : ∀ (x1 : Int) (x2 : Int) (y0 : Int) (σ : Sg), B_X11_pushParts_33 x1 x2 y0 σ = some q → Go l m_X11_pushParts (d + 1) LAYM (.inl none) q 33 [some (.inr 0), some (.inl x1), some (.inl x2), none, none, none] [.inl y0] σ := by
      intro x1 x2 y0 σ h
      unfold B_X11_pushParts_33 at h
      refine go_ops ok_X11_pushParts_33_3 (L' := [some (.inr 0), some (.inl x1), some (.inl x2), none, some (.inl y0), some (.inl 2)]) (st' := []) (σ1 := σ) rfl ?_
      obtain ⟨y9, e10, h⟩ := bind_inv h
      refine hL_X11_pushParts_38 x1 x2 y0 3000 (2, σ) y9 e10 ?_
      show Go l m_X11_pushParts (d + 1) LAYM (.inl none) q 90 [none, none, none, none, none, none] [] y9
      have h9 := Option.some.inj h
      subst h9
      exact go_vret dc_X11_pushParts_90 rfl
    have hB_X11_pushParts_32 : ∀ (x1 : Int) (x2 : Int) (σ : Sg), B_X11_pushParts_32 x1 x2 σ = some q → Go l m_X11_pushParts (d + 1) LAYM (.inl none) q 32 [some (.inr 0), some (.inl x1), some (.inl x2), none, none, none] [] σ := by
      intro x1 x2 σ h
      unfold B_X11_pushParts_32 at h
      refine go_ops ok_X11_pushParts_32_1 (L' := [some (.inr 0), some (.inl x1), some (.inl x2), none, none, none]) (st' := [.inl 0]) (σ1 := σ) rfl ?_
      exact hB_X11_pushParts_33 x1 x2 0 σ h
    refine go_ops ok_X11_pushParts_0_3 (L' := [some (.inr 0), some (.inl a1), some (.inl a2), some (.inl a3), none, none]) (st' := [.inl a1, .inr 8]) (σ1 := σ) rfl ?_
    obtain ⟨v1, e2, h⟩ := bind_inv h
    refine go_rd (k := 8) dc_X11_pushParts_5 rfl e2 ?_
    refine go_ops ok_X11_pushParts_6_1 (L' := [some (.inr 0), some (.inl a1), some (.inl a2), some (.inl a3), none, none]) (st' := [.inl 6, .inl v1]) (σ1 := σ) rfl ?_
    refine go_icmp_ne dc_X11_pushParts_8 (by rfl) (fun hc => ?_) (fun hc => ?_)
    · replace h := (if_neg hc).symm.trans h
      refine go_wk (L' := [some (.inr 0), some (.inl a1), some (.inl a2), none, none, none]) ⟨rfl, rfl, rfl, trivial⟩ ?_
      exact hB_X11_pushParts_32 a1 a2 σ h
    · replace h := (if_pos hc).symm.trans h
      refine go_ops ok_X11_pushParts_11_3 (L' := [some (.inr 0), some (.inl a1), some (.inl a2), some (.inl a3), none, none]) (st' := [.inl a1, .inr 10]) (σ1 := σ) rfl ?_
      obtain ⟨v11, e12, h⟩ := bind_inv h
      refine go_rd (k := 10) dc_X11_pushParts_16 rfl e12 ?_
      refine go_ops ok_X11_pushParts_17_1 (L' := [some (.inr 0), some (.inl a1), some (.inl a2), some (.inl a3), none, none]) (st' := [.inl 2, .inl v11]) (σ1 := σ) rfl ?_
      refine go_icmp_ne dc_X11_pushParts_18 (by rfl) (fun hc => ?_) (fun hc => ?_)
      · replace h := (if_neg hc).symm.trans h
        refine go_wk (L' := [some (.inr 0), some (.inl a1), some (.inl a2), none, none, none]) ⟨rfl, rfl, rfl, trivial⟩ ?_
        exact hB_X11_pushParts_32 a1 a2 σ h
      · replace h := (if_pos hc).symm.trans h
        refine go_ops ok_X11_pushParts_21_4 (L' := [some (.inr 0), some (.inl a1), some (.inl a2), some (.inl a3), none, none]) (st' := [.inl a1, .inr 9, .inl a3]) (σ1 := σ) rfl ?_
        obtain ⟨v13, e14, h⟩ := bind_inv h
        refine go_rd (k := 9) dc_X11_pushParts_27 rfl e14 ?_
        refine go_ops ok_X11_pushParts_28_1 (L' := [some (.inr 0), some (.inl a1), some (.inl a2), some (.inl a3), none, none]) (st' := [.inl (wrap (a3 - v13))]) (σ1 := σ) rfl ?_
        refine go_goto dc_X11_pushParts_29 (by rfl) ?_
        refine go_wk (L' := [some (.inr 0), some (.inl a1), some (.inl a2), none, none, none]) ⟨rfl, rfl, rfl, trivial⟩ ?_
        exact hB_X11_pushParts_33 a1 a2 (wrap (a3 - v13)) σ h
  have hf := go_ct (as := [.inr 0, .inl a1, .inl a2, .inl a3]) mk_X11_pushParts (by rfl) (Nat.le_of_ble_eq_true rfl) key
  exact hf
theorem dc_X11_took_11 : decode m_X11_took.2.2.1 11 = .ok (.ireturn, 1) := by decide +kernel
theorem ok_X11_took_0_7 : oks m_X11_took.1 m_X11_took.2.2.1 0 [(.aload_n 0, 1, (0, 0, 0)), (.dup, 1, (0, 0, 0)), (.getfield 277, 3, (11, 38, 0)), (.iconst 1, 1, (0, 0, 0)), (.isub, 1, (0, 0, 0)), (.putfield 277, 3, (11, 38, 0)), (.iconst 0, 1, (0, 0, 0))] = true ∧ plen 0 [(.aload_n 0, 1, (0, 0, 0)), (.dup, 1, (0, 0, 0)), (.getfield 277, 3, (11, 38, 0)), (.iconst 1, 1, (0, 0, 0)), (.isub, 1, (0, 0, 0)), (.putfield 277, 3, (11, 38, 0)), (.iconst 0, 1, (0, 0, 0))] = 11 := by decide +kernel
def F_X11_took (σ : Sg) : (Int × Sg) :=
bnd (up2 σ 0 38 (wrap ((σ 0 38) - 1))) fun s1 =>
(0, s1)
theorem lk_X11_took (l : Launch) (d : Nat) (hd : 0 ≤ d) (σ : Sg) (q : (Int × Sg)) (h : F_X11_took σ = q) : CT l d m_X11_took.2.1 m_X11_took.2.2.1 m_X11_took.2.2.2.1 m_X11_took.2.2.2.2 [.inr 0] (LAYM, σ) (some (.inl q.1)) (LAYM, q.2) := by
  skip
  have key : Go l m_X11_took d LAYM (.inl (some (.inl q.1))) q.2 0 [some (.inr 0)] [] σ := by
    unfold F_X11_took at h
    obtain ⟨s1, e2, h⟩ := bnd_inv h
    refine go_ops ok_X11_took_0_7 (L' := [some (.inr 0)]) (st' := [.inl 0]) (σ1 := s1) (by subst e2; rfl) ?_
    subst h
    exact go_iret dc_X11_took_11 rfl
  have hf := go_ct (as := [.inr 0]) mk_X11_took (by rfl) (Nat.le_of_ble_eq_true rfl) key
  exact hf
theorem dc_X11_isRight_5 : decode m_X11_isRight.2.2.1 5 = .ok (.iaload, 1) := by decide +kernel
theorem dc_X11_isRight_7 : decode m_X11_isRight.2.2.1 7 = .ok (.if_icmp .ne 22, 3) := by decide +kernel
theorem dc_X11_isRight_16 : decode m_X11_isRight.2.2.1 16 = .ok (.iaload, 1) := by decide +kernel
theorem dc_X11_isRight_22 : decode m_X11_isRight.2.2.1 22 = .ok (.iaload, 1) := by decide +kernel
theorem dc_X11_isRight_23 : decode m_X11_isRight.2.2.1 23 = .ok (.invokestatic 171, 3) := by decide +kernel
theorem dc_X11_isRight_26 : decode m_X11_isRight.2.2.1 26 = .ok (.goto 39, 3) := by decide +kernel
theorem dc_X11_isRight_34 : decode m_X11_isRight.2.2.1 34 = .ok (.iaload, 1) := by decide +kernel
theorem dc_X11_isRight_36 : decode m_X11_isRight.2.2.1 36 = .ok (.if_icmp .ne 23, 3) := by decide +kernel
theorem dc_X11_isRight_45 : decode m_X11_isRight.2.2.1 45 = .ok (.iaload, 1) := by decide +kernel
theorem dc_X11_isRight_47 : decode m_X11_isRight.2.2.1 47 = .ok (.irem, 1) := by decide +kernel
theorem dc_X11_isRight_48 : decode m_X11_isRight.2.2.1 48 = .ok (.if_icmp .ne 7, 3) := by decide +kernel
theorem dc_X11_isRight_52 : decode m_X11_isRight.2.2.1 52 = .ok (.goto 13, 3) := by decide +kernel
theorem dc_X11_isRight_56 : decode m_X11_isRight.2.2.1 56 = .ok (.goto 9, 3) := by decide +kernel
theorem dc_X11_isRight_62 : decode m_X11_isRight.2.2.1 62 = .ok (.invokevirtual 318, 3) := by decide +kernel
theorem dc_X11_isRight_65 : decode m_X11_isRight.2.2.1 65 = .ok (.ireturn, 1) := by decide +kernel
theorem ok_X11_isRight_0_3 : oks m_X11_isRight.1 m_X11_isRight.2.2.1 0 [(.aload_n 0, 1, (0, 0, 0)), (.getfield 31, 3, (11, 10, 0)), (.iload_n 1, 1, (0, 0, 0))] = true ∧ plen 0 [(.aload_n 0, 1, (0, 0, 0)), (.getfield 31, 3, (11, 10, 0)), (.iload_n 1, 1, (0, 0, 0))] = 5 := by decide +kernel
theorem ok_X11_isRight_6_1 : oks m_X11_isRight.1 m_X11_isRight.2.2.1 6 [(.iconst 2, 1, (0, 0, 0))] = true ∧ plen 6 [(.iconst 2, 1, (0, 0, 0))] = 7 := by decide +kernel
theorem ok_X11_isRight_10_4 : oks m_X11_isRight.1 m_X11_isRight.2.2.1 10 [(.iload_n 2, 1, (0, 0, 0)), (.aload_n 0, 1, (0, 0, 0)), (.getfield 34, 3, (11, 11, 0)), (.iload_n 1, 1, (0, 0, 0))] = true ∧ plen 10 [(.iload_n 2, 1, (0, 0, 0)), (.aload_n 0, 1, (0, 0, 0)), (.getfield 34, 3, (11, 11, 0)), (.iload_n 1, 1, (0, 0, 0))] = 16 := by decide +kernel
theorem ok_X11_isRight_17_3 : oks m_X11_isRight.1 m_X11_isRight.2.2.1 17 [(.aload_n 0, 1, (0, 0, 0)), (.getfield 37, 3, (11, 12, 0)), (.iload_n 1, 1, (0, 0, 0))] = true ∧ plen 17 [(.aload_n 0, 1, (0, 0, 0)), (.getfield 37, 3, (11, 12, 0)), (.iload_n 1, 1, (0, 0, 0))] = 22 := by decide +kernel
theorem ok_X11_isRight_29_3 : oks m_X11_isRight.1 m_X11_isRight.2.2.1 29 [(.aload_n 0, 1, (0, 0, 0)), (.getfield 31, 3, (11, 10, 0)), (.iload_n 1, 1, (0, 0, 0))] = true ∧ plen 29 [(.aload_n 0, 1, (0, 0, 0)), (.getfield 31, 3, (11, 10, 0)), (.iload_n 1, 1, (0, 0, 0))] = 34 := by decide +kernel
theorem ok_X11_isRight_35_1 : oks m_X11_isRight.1 m_X11_isRight.2.2.1 35 [(.iconst 3, 1, (0, 0, 0))] = true ∧ plen 35 [(.iconst 3, 1, (0, 0, 0))] = 36 := by decide +kernel
theorem ok_X11_isRight_39_4 : oks m_X11_isRight.1 m_X11_isRight.2.2.1 39 [(.iload_n 2, 1, (0, 0, 0)), (.aload_n 0, 1, (0, 0, 0)), (.getfield 34, 3, (11, 11, 0)), (.iload_n 1, 1, (0, 0, 0))] = true ∧ plen 39 [(.iload_n 2, 1, (0, 0, 0)), (.aload_n 0, 1, (0, 0, 0)), (.getfield 34, 3, (11, 11, 0)), (.iload_n 1, 1, (0, 0, 0))] = 45 := by decide +kernel
theorem ok_X11_isRight_46_1 : oks m_X11_isRight.1 m_X11_isRight.2.2.1 46 [(.iconst 4, 1, (0, 0, 0))] = true ∧ plen 46 [(.iconst 4, 1, (0, 0, 0))] = 47 := by decide +kernel
theorem ok_X11_isRight_51_1 : oks m_X11_isRight.1 m_X11_isRight.2.2.1 51 [(.iconst 1, 1, (0, 0, 0))] = true ∧ plen 51 [(.iconst 1, 1, (0, 0, 0))] = 52 := by decide +kernel
theorem ok_X11_isRight_55_1 : oks m_X11_isRight.1 m_X11_isRight.2.2.1 55 [(.iconst 0, 1, (0, 0, 0))] = true ∧ plen 55 [(.iconst 0, 1, (0, 0, 0))] = 56 := by decide +kernel
theorem ok_X11_isRight_59_3 : oks m_X11_isRight.1 m_X11_isRight.2.2.1 59 [(.aload_n 0, 1, (0, 0, 0)), (.iload_n 1, 1, (0, 0, 0)), (.iload_n 2, 1, (0, 0, 0))] = true ∧ plen 59 [(.aload_n 0, 1, (0, 0, 0)), (.iload_n 1, 1, (0, 0, 0)), (.iload_n 2, 1, (0, 0, 0))] = 62 := by decide +kernel
def F_X11_isRight (a1 : Int) (a2 : Int) (σ : Sg) : Option Bool :=
(rdn 60 σ 8 a1).bind fun v1 =>
if v1 = 2 then
(rdn 60 σ 9 a1).bind fun v9 =>
(rdn 60 σ 10 a1).bind fun v11 =>
some (F_X11_in a2 v9 v11)
else
(rdn 60 σ 8 a1).bind fun v3 =>
if v3 = 3 then
(rdn 60 σ 9 a1).bind fun v7 =>
if a2 = (jrem v7 4) then
some true
else
some false
else
(F_X11_fitsLength a1 a2 σ).bind fun q5 =>
some q5
theorem lk_X11_isRight (l : Launch) (d : Nat) (hd : 1 ≤ d) (a1 : Int) (a2 : Int) (σ : Sg) (q : Bool) (h : F_X11_isRight a1 a2 σ = some q) : CT l d m_X11_isRight.2.1 m_X11_isRight.2.2.1 m_X11_isRight.2.2.2.1 m_X11_isRight.2.2.2.2 [.inr 0, .inl a1, .inl a2] (LAYM, σ) (some (.inl (b2i q))) (LAYM, σ) := by
  obtain ⟨d, rfl⟩ : ∃ e, d = e + 1 := ⟨d - 1, by omega⟩
  have key : Go l m_X11_isRight (d + 1) LAYM (.inl (some (.inl (b2i q)))) σ 0 [some (.inr 0), some (.inl a1), some (.inl a2)] [] σ := by
    unfold F_X11_isRight at h
    refine go_ops ok_X11_isRight_0_3 (L' := [some (.inr 0), some (.inl a1), some (.inl a2)]) (st' := [.inl a1, .inr 8]) (σ1 := σ) rfl ?_
    obtain ⟨v1, e2, h⟩ := bind_inv h
    refine go_rd (k := 8) dc_X11_isRight_5 rfl e2 ?_
    refine go_ops ok_X11_isRight_6_1 (L' := [some (.inr 0), some (.inl a1), some (.inl a2)]) (st' := [.inl 2, .inl v1]) (σ1 := σ) rfl ?_
    refine go_icmp_ne dc_X11_isRight_7 (by rfl) (fun hc => ?_) (fun hc => ?_)
    · replace h := (if_neg hc).symm.trans h
      refine go_ops ok_X11_isRight_29_3 (L' := [some (.inr 0), some (.inl a1), some (.inl a2)]) (st' := [.inl a1, .inr 8]) (σ1 := σ) rfl ?_
      obtain ⟨v3, e4, h⟩ := bind_inv h
      refine go_rd (k := 8) dc_X11_isRight_34 rfl e4 ?_
      refine go_ops ok_X11_isRight_35_1 (L' := [some (.inr 0), some (.inl a1), some (.inl a2)]) (st' := [.inl 3, .inl v3]) (σ1 := σ) rfl ?_
      refine go_icmp_ne dc_X11_isRight_36 (by rfl) (fun hc => ?_) (fun hc => ?_)
      · replace h := (if_neg hc).symm.trans h
        refine go_ops ok_X11_isRight_59_3 (L' := [some (.inr 0), some (.inl a1), some (.inl a2)]) (st' := [.inl a2, .inl a1, .inr 0]) (σ1 := σ) rfl ?_
        obtain ⟨q5, e6, h⟩ := bind_inv h
        refine go_V (M1 := m_X11_fitsLength) (as := [.inl a1, .inl a2]) (st := []) (k := 0) (ci := 11) dc_X11_isRight_62 ln_11_318 im_X11_fitsLength (by decide) rfl rfl mk_X11_fitsLength rfl (Nat.le_of_ble_eq_true rfl) (Nat.le_refl _) (v := (some (.inl (b2i q5)))) (σ1 := σ) (lk_X11_fitsLength l d (by omega) a1 a2 σ q5 e6) _ rfl ?_
        have h9 := Option.some.inj h
        subst h9
        exact go_zret (x := q5) dc_X11_isRight_65 rfl
      · replace h := (if_pos hc).symm.trans h
        refine go_ops ok_X11_isRight_39_4 (L' := [some (.inr 0), some (.inl a1), some (.inl a2)]) (st' := [.inl a1, .inr 9, .inl a2]) (σ1 := σ) rfl ?_
        obtain ⟨v7, e8, h⟩ := bind_inv h
        refine go_rd (k := 9) dc_X11_isRight_45 rfl e8 ?_
        refine go_ops ok_X11_isRight_46_1 (L' := [some (.inr 0), some (.inl a1), some (.inl a2)]) (st' := [.inl 4, .inl v7, .inl a2]) (σ1 := σ) rfl ?_
        refine go_rem dc_X11_isRight_47 (by decide) ?_
        refine go_icmp_ne dc_X11_isRight_48 (by rfl) (fun hc => ?_) (fun hc => ?_)
        · replace h := (if_neg hc).symm.trans h
          refine go_ops ok_X11_isRight_55_1 (L' := [some (.inr 0), some (.inl a1), some (.inl a2)]) (st' := [.inl 0]) (σ1 := σ) rfl ?_
          refine go_goto dc_X11_isRight_56 (by rfl) ?_
          have h9 := Option.some.inj h
          subst h9
          exact go_zret (x := false) dc_X11_isRight_65 rfl
        · replace h := (if_pos hc).symm.trans h
          refine go_ops ok_X11_isRight_51_1 (L' := [some (.inr 0), some (.inl a1), some (.inl a2)]) (st' := [.inl 1]) (σ1 := σ) rfl ?_
          refine go_goto dc_X11_isRight_52 (by rfl) ?_
          have h9 := Option.some.inj h
          subst h9
          exact go_zret (x := true) dc_X11_isRight_65 rfl
    · replace h := (if_pos hc).symm.trans h
      refine go_ops ok_X11_isRight_10_4 (L' := [some (.inr 0), some (.inl a1), some (.inl a2)]) (st' := [.inl a1, .inr 9, .inl a2]) (σ1 := σ) rfl ?_
      obtain ⟨v9, e10, h⟩ := bind_inv h
      refine go_rd (k := 9) dc_X11_isRight_16 rfl e10 ?_
      refine go_ops ok_X11_isRight_17_3 (L' := [some (.inr 0), some (.inl a1), some (.inl a2)]) (st' := [.inl a1, .inr 10, .inl v9, .inl a2]) (σ1 := σ) rfl ?_
      obtain ⟨v11, e12, h⟩ := bind_inv h
      refine go_rd (k := 10) dc_X11_isRight_22 rfl e12 ?_
      refine go_S (M1 := m_X11_in) (as := [.inl a2, .inl v9, .inl v11]) (st := []) dc_X11_isRight_23 ln_11_171 sm_X11_in mk_X11_in rfl (Nat.le_of_ble_eq_true rfl) (Nat.le_refl _) (v := (some (.inl (b2i (F_X11_in a2 v9 v11))))) (σ1 := σ) (lk_X11_in l d (by omega) a2 v9 v11 σ _ rfl) _ rfl ?_
      refine go_goto dc_X11_isRight_26 (by rfl) ?_
      have h9 := Option.some.inj h
      subst h9
      exact go_zret (x := (F_X11_in a2 v9 v11)) dc_X11_isRight_65 rfl
  have hf := go_ct (as := [.inr 0, .inl a1, .inl a2]) mk_X11_isRight (by rfl) (Nat.le_of_ble_eq_true rfl) key
  exact hf
theorem dc_X11_matches_7 : decode m_X11_matches.2.2.1 7 = .ok (.iaload, 1) := by decide +kernel
theorem dc_X11_matches_8 : decode m_X11_matches.2.2.1 8 = .ok (.tableswitch 199 0 5 #[197, 40, 199, 199, 67, 140], 40) := by decide +kernel
theorem dc_X11_matches_57 : decode m_X11_matches.2.2.1 57 = .ok (.iaload, 1) := by decide +kernel
theorem dc_X11_matches_59 : decode m_X11_matches.2.2.1 59 = .ok (.iastore, 1) := by decide +kernel
theorem dc_X11_matches_68 : decode m_X11_matches.2.2.1 68 = .ok (.iaload, 1) := by decide +kernel
theorem dc_X11_matches_70 : decode m_X11_matches.2.2.1 70 = .ok (.invokevirtual 280, 3) := by decide +kernel
theorem dc_X11_matches_74 : decode m_X11_matches.2.2.1 74 = .ok (.ireturn, 1) := by decide +kernel
theorem dc_X11_matches_87 : decode m_X11_matches.2.2.1 87 = .ok (.iastore, 1) := by decide +kernel
theorem dc_X11_matches_105 : decode m_X11_matches.2.2.1 105 = .ok (.iaload, 1) := by decide +kernel
theorem dc_X11_matches_106 : decode m_X11_matches.2.2.1 106 = .ok (.iastore, 1) := by decide +kernel
theorem dc_X11_matches_116 : decode m_X11_matches.2.2.1 116 = .ok (.iastore, 1) := by decide +kernel
theorem dc_X11_matches_130 : decode m_X11_matches.2.2.1 130 = .ok (.invokevirtual 280, 3) := by decide +kernel
theorem dc_X11_matches_141 : decode m_X11_matches.2.2.1 141 = .ok (.iaload, 1) := by decide +kernel
theorem dc_X11_matches_143 : decode m_X11_matches.2.2.1 143 = .ok (.invokevirtual 280, 3) := by decide +kernel
theorem dc_X11_matches_147 : decode m_X11_matches.2.2.1 147 = .ok (.ireturn, 1) := by decide +kernel
theorem dc_X11_matches_154 : decode m_X11_matches.2.2.1 154 = .ok (.iaload, 1) := by decide +kernel
theorem dc_X11_matches_156 : decode m_X11_matches.2.2.1 156 = .ok (.invokevirtual 299, 3) := by decide +kernel
theorem dc_X11_matches_163 : decode m_X11_matches.2.2.1 163 = .ok (.if_icmp .ne 25, 3) := by decide +kernel
theorem dc_X11_matches_177 : decode m_X11_matches.2.2.1 177 = .ok (.iaload, 1) := by decide +kernel
theorem dc_X11_matches_187 : decode m_X11_matches.2.2.1 187 = .ok (.ireturn, 1) := by decide +kernel
theorem dc_X11_matches_196 : decode m_X11_matches.2.2.1 196 = .ok (.iaload, 1) := by decide +kernel
theorem dc_X11_matches_200 : decode m_X11_matches.2.2.1 200 = .ok (.invokevirtual 280, 3) := by decide +kernel
theorem dc_X11_matches_204 : decode m_X11_matches.2.2.1 204 = .ok (.ireturn, 1) := by decide +kernel
theorem dc_X11_matches_206 : decode m_X11_matches.2.2.1 206 = .ok (.ireturn, 1) := by decide +kernel
theorem dc_X11_matches_209 : decode m_X11_matches.2.2.1 209 = .ok (.invokevirtual 305, 3) := by decide +kernel
theorem dc_X11_matches_216 : decode m_X11_matches.2.2.1 216 = .ok (.invokevirtual 308, 3) := by decide +kernel
theorem dc_X11_matches_219 : decode m_X11_matches.2.2.1 219 = .ok (.ifCond .eq 5, 3) := by decide +kernel
theorem dc_X11_matches_223 : decode m_X11_matches.2.2.1 223 = .ok (.ireturn, 1) := by decide +kernel
theorem dc_X11_matches_233 : decode m_X11_matches.2.2.1 233 = .ok (.ifCond .eq 7, 3) := by decide +kernel
theorem dc_X11_matches_237 : decode m_X11_matches.2.2.1 237 = .ok (.goto 4, 3) := by decide +kernel
theorem dc_X11_matches_248 : decode m_X11_matches.2.2.1 248 = .ok (.invokevirtual 311, 3) := by decide +kernel
theorem dc_X11_matches_255 : decode m_X11_matches.2.2.1 255 = .ok (.ifCond .eq 20, 3) := by decide +kernel
theorem dc_X11_matches_263 : decode m_X11_matches.2.2.1 263 = .ok (.iaload, 1) := by decide +kernel
theorem dc_X11_matches_265 : decode m_X11_matches.2.2.1 265 = .ok (.if_icmp .eq 10, 3) := by decide +kernel
theorem dc_X11_matches_272 : decode m_X11_matches.2.2.1 272 = .ok (.invokevirtual 314, 3) := by decide +kernel
theorem dc_X11_matches_277 : decode m_X11_matches.2.2.1 277 = .ok (.ifCond .eq 7, 3) := by decide +kernel
theorem dc_X11_matches_281 : decode m_X11_matches.2.2.1 281 = .ok (.goto 4, 3) := by decide +kernel
theorem dc_X11_matches_285 : decode m_X11_matches.2.2.1 285 = .ok (.ireturn, 1) := by decide +kernel
theorem ok_X11_matches_0_5 : oks m_X11_matches.1 m_X11_matches.2.2.1 0 [(.iconst 0, 1, (0, 0, 0)), (.istore_n 3, 1, (0, 0, 0)), (.aload_n 0, 1, (0, 0, 0)), (.getfield 31, 3, (11, 10, 0)), (.iload_n 1, 1, (0, 0, 0))] = true ∧ plen 0 [(.iconst 0, 1, (0, 0, 0)), (.istore_n 3, 1, (0, 0, 0)), (.aload_n 0, 1, (0, 0, 0)), (.getfield 31, 3, (11, 10, 0)), (.iload_n 1, 1, (0, 0, 0))] = 7 := by decide +kernel
theorem ok_X11_matches_48_5 : oks m_X11_matches.1 m_X11_matches.2.2.1 48 [(.aload_n 0, 1, (0, 0, 0)), (.getfield 107, 3, (11, 39, 0)), (.aload_n 0, 1, (0, 0, 0)), (.getfield 34, 3, (11, 11, 0)), (.iload_n 1, 1, (0, 0, 0))] = true ∧ plen 48 [(.aload_n 0, 1, (0, 0, 0)), (.getfield 107, 3, (11, 39, 0)), (.aload_n 0, 1, (0, 0, 0)), (.getfield 34, 3, (11, 11, 0)), (.iload_n 1, 1, (0, 0, 0))] = 57 := by decide +kernel
theorem ok_X11_matches_58_1 : oks m_X11_matches.1 m_X11_matches.2.2.1 58 [(.iload_n 2, 1, (0, 0, 0))] = true ∧ plen 58 [(.iload_n 2, 1, (0, 0, 0))] = 59 := by decide +kernel
theorem ok_X11_matches_60_6 : oks m_X11_matches.1 m_X11_matches.2.2.1 60 [(.aload_n 0, 1, (0, 0, 0)), (.aload_n 0, 1, (0, 0, 0)), (.getfield 40, 3, (11, 13, 0)), (.iconst 3, 1, (0, 0, 0)), (.iload_n 1, 1, (0, 0, 0)), (.imul, 1, (0, 0, 0))] = true ∧ plen 60 [(.aload_n 0, 1, (0, 0, 0)), (.aload_n 0, 1, (0, 0, 0)), (.getfield 40, 3, (11, 13, 0)), (.iconst 3, 1, (0, 0, 0)), (.iload_n 1, 1, (0, 0, 0)), (.imul, 1, (0, 0, 0))] = 68 := by decide +kernel
theorem ok_X11_matches_69_1 : oks m_X11_matches.1 m_X11_matches.2.2.1 69 [(.iload_n 2, 1, (0, 0, 0))] = true ∧ plen 69 [(.iload_n 2, 1, (0, 0, 0))] = 70 := by decide +kernel
theorem ok_X11_matches_73_1 : oks m_X11_matches.1 m_X11_matches.2.2.1 73 [(.iconst 0, 1, (0, 0, 0))] = true ∧ plen 73 [(.iconst 0, 1, (0, 0, 0))] = 74 := by decide +kernel
theorem ok_X11_matches_75_6 : oks m_X11_matches.1 m_X11_matches.2.2.1 75 [(.aload_n 0, 1, (0, 0, 0)), (.getfield 98, 3, (11, 35, 0)), (.aload_n 0, 1, (0, 0, 0)), (.getfield 277, 3, (11, 38, 0)), (.aload_n 0, 1, (0, 0, 0)), (.getfield 274, 3, (11, 34, 0))] = true ∧ plen 75 [(.aload_n 0, 1, (0, 0, 0)), (.getfield 98, 3, (11, 35, 0)), (.aload_n 0, 1, (0, 0, 0)), (.getfield 277, 3, (11, 38, 0)), (.aload_n 0, 1, (0, 0, 0)), (.getfield 274, 3, (11, 34, 0))] = 87 := by decide +kernel
theorem ok_X11_matches_88_11 : oks m_X11_matches.1 m_X11_matches.2.2.1 88 [(.aload_n 0, 1, (0, 0, 0)), (.getfield 101, 3, (11, 36, 0)), (.aload_n 0, 1, (0, 0, 0)), (.getfield 277, 3, (11, 38, 0)), (.aload_n 0, 1, (0, 0, 0)), (.getfield 40, 3, (11, 13, 0)), (.iconst 3, 1, (0, 0, 0)), (.iload_n 1, 1, (0, 0, 0)), (.imul, 1, (0, 0, 0)), (.iconst 1, 1, (0, 0, 0)), (.iadd, 1, (0, 0, 0))] = true ∧ plen 88 [(.aload_n 0, 1, (0, 0, 0)), (.getfield 101, 3, (11, 36, 0)), (.aload_n 0, 1, (0, 0, 0)), (.getfield 277, 3, (11, 38, 0)), (.aload_n 0, 1, (0, 0, 0)), (.getfield 40, 3, (11, 13, 0)), (.iconst 3, 1, (0, 0, 0)), (.iload_n 1, 1, (0, 0, 0)), (.imul, 1, (0, 0, 0)), (.iconst 1, 1, (0, 0, 0)), (.iadd, 1, (0, 0, 0))] = 105 := by decide +kernel
theorem ok_X11_matches_107_5 : oks m_X11_matches.1 m_X11_matches.2.2.1 107 [(.aload_n 0, 1, (0, 0, 0)), (.getfield 104, 3, (11, 37, 0)), (.aload_n 0, 1, (0, 0, 0)), (.getfield 277, 3, (11, 38, 0)), (.iload_n 2, 1, (0, 0, 0))] = true ∧ plen 107 [(.aload_n 0, 1, (0, 0, 0)), (.getfield 104, 3, (11, 37, 0)), (.aload_n 0, 1, (0, 0, 0)), (.getfield 277, 3, (11, 38, 0)), (.iload_n 2, 1, (0, 0, 0))] = 116 := by decide +kernel
theorem ok_X11_matches_117_9 : oks m_X11_matches.1 m_X11_matches.2.2.1 117 [(.aload_n 0, 1, (0, 0, 0)), (.dup, 1, (0, 0, 0)), (.getfield 277, 3, (11, 38, 0)), (.iconst 1, 1, (0, 0, 0)), (.iadd, 1, (0, 0, 0)), (.putfield 277, 3, (11, 38, 0)), (.aload_n 0, 1, (0, 0, 0)), (.iconst (-1), 1, (0, 0, 0)), (.iconst 0, 1, (0, 0, 0))] = true ∧ plen 117 [(.aload_n 0, 1, (0, 0, 0)), (.dup, 1, (0, 0, 0)), (.getfield 277, 3, (11, 38, 0)), (.iconst 1, 1, (0, 0, 0)), (.iadd, 1, (0, 0, 0)), (.putfield 277, 3, (11, 38, 0)), (.aload_n 0, 1, (0, 0, 0)), (.iconst (-1), 1, (0, 0, 0)), (.iconst 0, 1, (0, 0, 0))] = 130 := by decide +kernel
theorem ok_X11_matches_133_6 : oks m_X11_matches.1 m_X11_matches.2.2.1 133 [(.aload_n 0, 1, (0, 0, 0)), (.aload_n 0, 1, (0, 0, 0)), (.getfield 40, 3, (11, 13, 0)), (.iconst 3, 1, (0, 0, 0)), (.iload_n 1, 1, (0, 0, 0)), (.imul, 1, (0, 0, 0))] = true ∧ plen 133 [(.aload_n 0, 1, (0, 0, 0)), (.aload_n 0, 1, (0, 0, 0)), (.getfield 40, 3, (11, 13, 0)), (.iconst 3, 1, (0, 0, 0)), (.iload_n 1, 1, (0, 0, 0)), (.imul, 1, (0, 0, 0))] = 141 := by decide +kernel
theorem ok_X11_matches_142_1 : oks m_X11_matches.1 m_X11_matches.2.2.1 142 [(.iload_n 2, 1, (0, 0, 0))] = true ∧ plen 142 [(.iload_n 2, 1, (0, 0, 0))] = 143 := by decide +kernel
theorem ok_X11_matches_146_1 : oks m_X11_matches.1 m_X11_matches.2.2.1 146 [(.iconst 0, 1, (0, 0, 0))] = true ∧ plen 146 [(.iconst 0, 1, (0, 0, 0))] = 147 := by decide +kernel
theorem ok_X11_matches_148_4 : oks m_X11_matches.1 m_X11_matches.2.2.1 148 [(.aload_n 0, 1, (0, 0, 0)), (.aload_n 0, 1, (0, 0, 0)), (.getfield 34, 3, (11, 11, 0)), (.iload_n 1, 1, (0, 0, 0))] = true ∧ plen 148 [(.aload_n 0, 1, (0, 0, 0)), (.aload_n 0, 1, (0, 0, 0)), (.getfield 34, 3, (11, 11, 0)), (.iload_n 1, 1, (0, 0, 0))] = 154 := by decide +kernel
theorem ok_X11_matches_155_1 : oks m_X11_matches.1 m_X11_matches.2.2.1 155 [(.iload_n 2, 1, (0, 0, 0))] = true ∧ plen 155 [(.iload_n 2, 1, (0, 0, 0))] = 156 := by decide +kernel
theorem ok_X11_matches_159_3 : oks m_X11_matches.1 m_X11_matches.2.2.1 159 [(.istore_n 3, 1, (0, 0, 0)), (.iload_n 3, 1, (0, 0, 0)), (.bipush (-9), 2, (0, 0, 0))] = true ∧ plen 159 [(.istore_n 3, 1, (0, 0, 0)), (.iload_n 3, 1, (0, 0, 0)), (.bipush (-9), 2, (0, 0, 0))] = 163 := by decide +kernel
theorem ok_X11_matches_166_7 : oks m_X11_matches.1 m_X11_matches.2.2.1 166 [(.aload_n 0, 1, (0, 0, 0)), (.iconst 4, 1, (0, 0, 0)), (.putfield 283, 3, (11, 42, 0)), (.aload_n 0, 1, (0, 0, 0)), (.aload_n 0, 1, (0, 0, 0)), (.getfield 34, 3, (11, 11, 0)), (.iload_n 1, 1, (0, 0, 0))] = true ∧ plen 166 [(.aload_n 0, 1, (0, 0, 0)), (.iconst 4, 1, (0, 0, 0)), (.putfield 283, 3, (11, 42, 0)), (.aload_n 0, 1, (0, 0, 0)), (.aload_n 0, 1, (0, 0, 0)), (.getfield 34, 3, (11, 11, 0)), (.iload_n 1, 1, (0, 0, 0))] = 177 := by decide +kernel
theorem ok_X11_matches_178_5 : oks m_X11_matches.1 m_X11_matches.2.2.1 178 [(.putfield 302, 3, (11, 43, 0)), (.aload_n 0, 1, (0, 0, 0)), (.iload_n 2, 1, (0, 0, 0)), (.putfield 286, 3, (11, 44, 0)), (.iconst 2, 1, (0, 0, 0))] = true ∧ plen 178 [(.putfield 302, 3, (11, 43, 0)), (.aload_n 0, 1, (0, 0, 0)), (.iload_n 2, 1, (0, 0, 0)), (.putfield 286, 3, (11, 44, 0)), (.iconst 2, 1, (0, 0, 0))] = 187 := by decide +kernel
theorem ok_X11_matches_188_6 : oks m_X11_matches.1 m_X11_matches.2.2.1 188 [(.aload_n 0, 1, (0, 0, 0)), (.aload_n 0, 1, (0, 0, 0)), (.getfield 40, 3, (11, 13, 0)), (.iconst 3, 1, (0, 0, 0)), (.iload_n 1, 1, (0, 0, 0)), (.imul, 1, (0, 0, 0))] = true ∧ plen 188 [(.aload_n 0, 1, (0, 0, 0)), (.aload_n 0, 1, (0, 0, 0)), (.getfield 40, 3, (11, 13, 0)), (.iconst 3, 1, (0, 0, 0)), (.iload_n 1, 1, (0, 0, 0)), (.imul, 1, (0, 0, 0))] = 196 := by decide +kernel
theorem ok_X11_matches_197_3 : oks m_X11_matches.1 m_X11_matches.2.2.1 197 [(.iconst (-1), 1, (0, 0, 0)), (.iload_n 3, 1, (0, 0, 0)), (.isub, 1, (0, 0, 0))] = true ∧ plen 197 [(.iconst (-1), 1, (0, 0, 0)), (.iload_n 3, 1, (0, 0, 0)), (.isub, 1, (0, 0, 0))] = 200 := by decide +kernel
theorem ok_X11_matches_203_1 : oks m_X11_matches.1 m_X11_matches.2.2.1 203 [(.iconst 0, 1, (0, 0, 0))] = true ∧ plen 203 [(.iconst 0, 1, (0, 0, 0))] = 204 := by decide +kernel
theorem ok_X11_matches_205_1 : oks m_X11_matches.1 m_X11_matches.2.2.1 205 [(.iconst 0, 1, (0, 0, 0))] = true ∧ plen 205 [(.iconst 0, 1, (0, 0, 0))] = 206 := by decide +kernel
theorem ok_X11_matches_207_2 : oks m_X11_matches.1 m_X11_matches.2.2.1 207 [(.aload_n 0, 1, (0, 0, 0)), (.iload_n 2, 1, (0, 0, 0))] = true ∧ plen 207 [(.aload_n 0, 1, (0, 0, 0)), (.iload_n 2, 1, (0, 0, 0))] = 209 := by decide +kernel
theorem ok_X11_matches_212_4 : oks m_X11_matches.1 m_X11_matches.2.2.1 212 [(.istore_n 3, 1, (0, 0, 0)), (.aload_n 0, 1, (0, 0, 0)), (.iload_n 3, 1, (0, 0, 0)), (.iload_n 2, 1, (0, 0, 0))] = true ∧ plen 212 [(.istore_n 3, 1, (0, 0, 0)), (.aload_n 0, 1, (0, 0, 0)), (.iload_n 3, 1, (0, 0, 0)), (.iload_n 2, 1, (0, 0, 0))] = 216 := by decide +kernel
theorem ok_X11_matches_222_1 : oks m_X11_matches.1 m_X11_matches.2.2.1 222 [(.iconst 2, 1, (0, 0, 0))] = true ∧ plen 222 [(.iconst 2, 1, (0, 0, 0))] = 223 := by decide +kernel
theorem ok_X11_matches_224_5 : oks m_X11_matches.1 m_X11_matches.2.2.1 224 [(.aload_n 0, 1, (0, 0, 0)), (.dup, 1, (0, 0, 0)), (.getfield 234, 3, (11, 47, 0)), (.aload_n 0, 1, (0, 0, 0)), (.getfield 261, 3, (11, 40, 0))] = true ∧ plen 224 [(.aload_n 0, 1, (0, 0, 0)), (.dup, 1, (0, 0, 0)), (.getfield 234, 3, (11, 47, 0)), (.aload_n 0, 1, (0, 0, 0)), (.getfield 261, 3, (11, 40, 0))] = 233 := by decide +kernel
theorem ok_X11_matches_236_1 : oks m_X11_matches.1 m_X11_matches.2.2.1 236 [(.iconst 1, 1, (0, 0, 0))] = true ∧ plen 236 [(.iconst 1, 1, (0, 0, 0))] = 237 := by decide +kernel
theorem ok_X11_matches_240_1 : oks m_X11_matches.1 m_X11_matches.2.2.1 240 [(.iconst 0, 1, (0, 0, 0))] = true ∧ plen 240 [(.iconst 0, 1, (0, 0, 0))] = 241 := by decide +kernel
theorem ok_X11_matches_241_5 : oks m_X11_matches.1 m_X11_matches.2.2.1 241 [(.iadd, 1, (0, 0, 0)), (.putfield 234, 3, (11, 47, 0)), (.aload_n 0, 1, (0, 0, 0)), (.iload_n 1, 1, (0, 0, 0)), (.iload_n 3, 1, (0, 0, 0))] = true ∧ plen 241 [(.iadd, 1, (0, 0, 0)), (.putfield 234, 3, (11, 47, 0)), (.aload_n 0, 1, (0, 0, 0)), (.iload_n 1, 1, (0, 0, 0)), (.iload_n 3, 1, (0, 0, 0))] = 248 := by decide +kernel
theorem ok_X11_matches_251_2 : oks m_X11_matches.1 m_X11_matches.2.2.1 251 [(.istore 4, 2, (0, 0, 0)), (.iload 4, 2, (0, 0, 0))] = true ∧ plen 251 [(.istore 4, 2, (0, 0, 0)), (.iload 4, 2, (0, 0, 0))] = 255 := by decide +kernel
theorem ok_X11_matches_258_3 : oks m_X11_matches.1 m_X11_matches.2.2.1 258 [(.aload_n 0, 1, (0, 0, 0)), (.getfield 31, 3, (11, 10, 0)), (.iload_n 1, 1, (0, 0, 0))] = true ∧ plen 258 [(.aload_n 0, 1, (0, 0, 0)), (.getfield 31, 3, (11, 10, 0)), (.iload_n 1, 1, (0, 0, 0))] = 263 := by decide +kernel
theorem ok_X11_matches_264_1 : oks m_X11_matches.1 m_X11_matches.2.2.1 264 [(.iconst 2, 1, (0, 0, 0))] = true ∧ plen 264 [(.iconst 2, 1, (0, 0, 0))] = 265 := by decide +kernel
theorem ok_X11_matches_268_4 : oks m_X11_matches.1 m_X11_matches.2.2.1 268 [(.aload_n 0, 1, (0, 0, 0)), (.iload_n 1, 1, (0, 0, 0)), (.iload_n 2, 1, (0, 0, 0)), (.iload_n 3, 1, (0, 0, 0))] = true ∧ plen 268 [(.aload_n 0, 1, (0, 0, 0)), (.iload_n 1, 1, (0, 0, 0)), (.iload_n 2, 1, (0, 0, 0)), (.iload_n 3, 1, (0, 0, 0))] = 272 := by decide +kernel
theorem ok_X11_matches_275_1 : oks m_X11_matches.1 m_X11_matches.2.2.1 275 [(.iload 4, 2, (0, 0, 0))] = true ∧ plen 275 [(.iload 4, 2, (0, 0, 0))] = 277 := by decide +kernel
theorem ok_X11_matches_280_1 : oks m_X11_matches.1 m_X11_matches.2.2.1 280 [(.iconst 0, 1, (0, 0, 0))] = true ∧ plen 280 [(.iconst 0, 1, (0, 0, 0))] = 281 := by decide +kernel
theorem ok_X11_matches_284_1 : oks m_X11_matches.1 m_X11_matches.2.2.1 284 [(.iconst 1, 1, (0, 0, 0))] = true ∧ plen 284 [(.iconst 1, 1, (0, 0, 0))] = 285 := by decide +kernel
def B_X11_matches_275 (x4 : Bool) (σ : Sg) : Option (Int × Sg) :=
if x4 = true then
some (0, σ)
else
some (1, σ)
def B_X11_matches_241 (x1 : Int) (x2 : Int) (x3 : Int) (y0 : Bool) (y1 : Int) (σ : Sg) : Option (Int × Sg) :=
bnd (up2 σ 0 47 (wrap (y1 + (b2i y0)))) fun s51 =>
(F_X11_isRight x1 x3 s51).bind fun q53 =>
if q53 = true then
(rdn 60 s51 8 x1).bind fun v55 =>
if v55 = 2 then
B_X11_matches_275 q53 s51
else
(F_X11_pushParts x1 x2 x3 s51).bind fun q57 =>
B_X11_matches_275 q53 q57
else
B_X11_matches_275 q53 s51
def B_X11_matches_207 (x1 : Int) (x2 : Int) (σ : Sg) : Option (Int × Sg) :=
(F_X11_factAt x2 σ).bind fun q47 =>
bnd (F_X11_isAsked q47.1 x2 q47.2) fun q49 =>
if q49.1 = true then
some (2, q49.2)
else
if (q49.2 0 40) = 0 then
B_X11_matches_241 x1 x2 q47.1 false (q49.2 0 47) q49.2
else
B_X11_matches_241 x1 x2 q47.1 true (q49.2 0 47) q49.2
def F_X11_matches (a1 : Int) (a2 : Int) (σ : Sg) : Option (Int × Sg) :=
(rdn 60 σ 8 a1).bind fun v1 =>
if v1 = 0 then
some (0, σ)
else if v1 = 1 then
(rdn 60 σ 9 a1).bind fun v4 =>
(wrn 6 σ 33 v4 a2).bind fun s6 =>
(rdn 180 s6 11 (wrap (3 * a1))).bind fun v8 =>
(F_X11_push v8 a2 s6).bind fun q10 =>
some (0, q10)
else if v1 = 4 then
(wrn 64 σ 30 (σ 0 38) (σ 0 34)).bind fun s13 =>
(rdn 180 s13 11 (wrap ((wrap (3 * a1)) + 1))).bind fun v15 =>
(wrn 64 s13 31 (s13 0 38) v15).bind fun s17 =>
(wrn 64 s17 32 (s17 0 38) a2).bind fun s19 =>
bnd (up2 s19 0 38 (wrap ((s19 0 38) + 1))) fun s21 =>
(F_X11_push (-1) 0 s21).bind fun q23 =>
(rdn 180 q23 11 (wrap (3 * a1))).bind fun v25 =>
(F_X11_push v25 a2 q23).bind fun q27 =>
some (0, q27)
else if v1 = 5 then
(rdn 60 σ 9 a1).bind fun v30 =>
(F_X11_gave v30 a2 σ).bind fun q32 =>
if q32.1 = (-9) then
bnd (up2 q32.2 0 42 4) fun s38 =>
(rdn 60 s38 9 a1).bind fun v40 =>
bnd (up2 s38 0 43 v40) fun s42 =>
bnd (up2 s42 0 44 a2) fun s44 =>
some (2, s44)
else
(rdn 180 q32.2 11 (wrap (3 * a1))).bind fun v34 =>
(F_X11_push v34 (wrap ((-1) - q32.1)) q32.2).bind fun q36 =>
some (0, q36)
else B_X11_matches_207 a1 a2 σ
theorem lk_X11_matches (l : Launch) (d : Nat) (hd : 4 ≤ d) (a1 : Int) (a2 : Int) (σ : Sg) (q : (Int × Sg)) (h : F_X11_matches a1 a2 σ = some q) : CT l d m_X11_matches.2.1 m_X11_matches.2.2.1 m_X11_matches.2.2.2.1 m_X11_matches.2.2.2.2 [.inr 0, .inl a1, .inl a2] (LAYM, σ) (some (.inl q.1)) (LAYM, q.2) := by
  obtain ⟨d, rfl⟩ : ∃ e, d = e + 1 := ⟨d - 1, by omega⟩
  have key : Go l m_X11_matches (d + 1) LAYM (.inl (some (.inl q.1))) q.2 0 [some (.inr 0), some (.inl a1), some (.inl a2), none, none] [] σ := by
    unfold F_X11_matches at h
    have hB_X11_matches_275 : ∀ (x4 : Bool) (σ : Sg), B_X11_matches_275 x4 σ = some q → Go l m_X11_matches (d + 1) LAYM (.inl (some (.inl q.1))) q.2 275 [none, none, none, none, some (.inl (b2i x4))] [] σ := by
      intro x4 σ h
      unfold B_X11_matches_275 at h
      refine go_ops ok_X11_matches_275_1 (L' := [none, none, none, none, some (.inl (b2i x4))]) (st' := [.inl (b2i x4)]) (σ1 := σ) rfl ?_
      refine go_ifb_eq dc_X11_matches_277 (by rfl) (fun hc => ?_) (fun hc => ?_)
      · replace h := (if_neg hc).symm.trans h
        refine go_ops ok_X11_matches_284_1 (L' := [none, none, none, none, some (.inl (b2i x4))]) (st' := [.inl 1]) (σ1 := σ) rfl ?_
        have h9 := Option.some.inj h
        subst h9
        exact go_iret dc_X11_matches_285 rfl
      · replace h := (if_pos hc).symm.trans h
        refine go_ops ok_X11_matches_280_1 (L' := [none, none, none, none, some (.inl (b2i x4))]) (st' := [.inl 0]) (σ1 := σ) rfl ?_
        refine go_goto dc_X11_matches_281 (by rfl) ?_
        have h9 := Option.some.inj h
        subst h9
        exact go_iret dc_X11_matches_285 rfl
    have hB_X11_matches_241 : ∀ (x1 : Int) (x2 : Int) (x3 : Int) (y0 : Bool) (y1 : Int) (σ : Sg), B_X11_matches_241 x1 x2 x3 y0 y1 σ = some q → Go l m_X11_matches (d + 1) LAYM (.inl (some (.inl q.1))) q.2 241 [some (.inr 0), some (.inl x1), some (.inl x2), some (.inl x3), none] [.inl (b2i y0), .inl y1, .inr 0] σ := by
      intro x1 x2 x3 y0 y1 σ h
      unfold B_X11_matches_241 at h
      obtain ⟨s51, e52, h⟩ := bnd_inv h
      refine go_ops ok_X11_matches_241_5 (L' := [some (.inr 0), some (.inl x1), some (.inl x2), some (.inl x3), none]) (st' := [.inl x3, .inl x1, .inr 0]) (σ1 := s51) (by subst e52; rfl) ?_
      obtain ⟨q53, e54, h⟩ := bind_inv h
      refine go_V (M1 := m_X11_isRight) (as := [.inl x1, .inl x3]) (st := []) (k := 0) (ci := 11) dc_X11_matches_248 ln_11_311 im_X11_isRight (by decide) rfl rfl mk_X11_isRight rfl (Nat.le_of_ble_eq_true rfl) (Nat.le_refl _) (v := (some (.inl (b2i q53)))) (σ1 := s51) (lk_X11_isRight l d (by omega) x1 x3 s51 q53 e54) _ rfl ?_
      refine go_ops ok_X11_matches_251_2 (L' := [some (.inr 0), some (.inl x1), some (.inl x2), some (.inl x3), some (.inl (b2i q53))]) (st' := [.inl (b2i q53)]) (σ1 := s51) rfl ?_
      refine go_ifb_eq dc_X11_matches_255 (by rfl) (fun hc => ?_) (fun hc => ?_)
      · replace h := (if_neg hc).symm.trans h
        refine go_wk (L' := [none, none, none, none, some (.inl (b2i q53))]) ⟨rfl, trivial⟩ ?_
        exact hB_X11_matches_275 q53 s51 h
      · replace h := (if_pos hc).symm.trans h
        refine go_ops ok_X11_matches_258_3 (L' := [some (.inr 0), some (.inl x1), some (.inl x2), some (.inl x3), some (.inl (b2i q53))]) (st' := [.inl x1, .inr 8]) (σ1 := s51) rfl ?_
        obtain ⟨v55, e56, h⟩ := bind_inv h
        refine go_rd (k := 8) dc_X11_matches_263 rfl e56 ?_
        refine go_ops ok_X11_matches_264_1 (L' := [some (.inr 0), some (.inl x1), some (.inl x2), some (.inl x3), some (.inl (b2i q53))]) (st' := [.inl 2, .inl v55]) (σ1 := s51) rfl ?_
        refine go_icmp_eq dc_X11_matches_265 (by rfl) (fun hc => ?_) (fun hc => ?_)
        · replace h := (if_pos hc).symm.trans h
          refine go_wk (L' := [none, none, none, none, some (.inl (b2i q53))]) ⟨rfl, trivial⟩ ?_
          exact hB_X11_matches_275 q53 s51 h
        · replace h := (if_neg hc).symm.trans h
          refine go_ops ok_X11_matches_268_4 (L' := [some (.inr 0), some (.inl x1), some (.inl x2), some (.inl x3), some (.inl (b2i q53))]) (st' := [.inl x3, .inl x2, .inl x1, .inr 0]) (σ1 := s51) rfl ?_
          obtain ⟨q57, e58, h⟩ := bind_inv h
          refine go_V (M1 := m_X11_pushParts) (as := [.inl x1, .inl x2, .inl x3]) (st := []) (k := 0) (ci := 11) dc_X11_matches_272 ln_11_314 im_X11_pushParts (by decide) rfl rfl mk_X11_pushParts rfl (Nat.le_of_ble_eq_true rfl) (Nat.le_refl _) (v := none) (σ1 := q57) (lk_X11_pushParts l d (by omega) x1 x2 x3 s51 q57 e58) _ rfl ?_
          refine go_wk (L' := [none, none, none, none, some (.inl (b2i q53))]) ⟨rfl, trivial⟩ ?_
          exact hB_X11_matches_275 q53 q57 h
    have hB_X11_matches_207 : ∀ (x1 : Int) (x2 : Int) (σ : Sg), B_X11_matches_207 x1 x2 σ = some q → Go l m_X11_matches (d + 1) LAYM (.inl (some (.inl q.1))) q.2 207 [some (.inr 0), some (.inl x1), some (.inl x2), none, none] [] σ := by
      intro x1 x2 σ h
      unfold B_X11_matches_207 at h
      refine go_ops ok_X11_matches_207_2 (L' := [some (.inr 0), some (.inl x1), some (.inl x2), none, none]) (st' := [.inl x2, .inr 0]) (σ1 := σ) rfl ?_
      obtain ⟨q47, e48, h⟩ := bind_inv h
      refine go_V (M1 := m_X11_factAt) (as := [.inl x2]) (st := []) (k := 0) (ci := 11) dc_X11_matches_209 ln_11_305 im_X11_factAt (by decide) rfl rfl mk_X11_factAt rfl (Nat.le_of_ble_eq_true rfl) (Nat.le_refl _) (v := (some (.inl q47.1))) (σ1 := q47.2) (lk_X11_factAt l d (by omega) x2 σ q47 e48) _ rfl ?_
      refine go_ops ok_X11_matches_212_4 (L' := [some (.inr 0), some (.inl x1), some (.inl x2), some (.inl q47.1), none]) (st' := [.inl x2, .inl q47.1, .inr 0]) (σ1 := q47.2) rfl ?_
      obtain ⟨q49, e50, h⟩ := bnd_inv h
      refine go_V (M1 := m_X11_isAsked) (as := [.inl q47.1, .inl x2]) (st := []) (k := 0) (ci := 11) dc_X11_matches_216 ln_11_308 im_X11_isAsked (by decide) rfl rfl mk_X11_isAsked rfl (Nat.le_of_ble_eq_true rfl) (Nat.le_refl _) (v := (some (.inl (b2i q49.1)))) (σ1 := q49.2) (lk_X11_isAsked l d (by omega) q47.1 x2 q47.2 q49 e50.symm) _ rfl ?_
      refine go_ifb_eq dc_X11_matches_219 (by rfl) (fun hc => ?_) (fun hc => ?_)
      · replace h := (if_neg hc).symm.trans h
        refine go_ops ok_X11_matches_224_5 (L' := [some (.inr 0), some (.inl x1), some (.inl x2), some (.inl q47.1), none]) (st' := [.inl (q49.2 0 40), .inl (q49.2 0 47), .inr 0]) (σ1 := q49.2) rfl ?_
        refine go_if_eq dc_X11_matches_233 (by rfl) (fun hc => ?_) (fun hc => ?_)
        · replace h := (if_pos hc).symm.trans h
          refine go_ops ok_X11_matches_240_1 (L' := [some (.inr 0), some (.inl x1), some (.inl x2), some (.inl q47.1), none]) (st' := [.inl 0, .inl (q49.2 0 47), .inr 0]) (σ1 := q49.2) rfl ?_
          exact hB_X11_matches_241 x1 x2 q47.1 false (q49.2 0 47) q49.2 h
        · replace h := (if_neg hc).symm.trans h
          refine go_ops ok_X11_matches_236_1 (L' := [some (.inr 0), some (.inl x1), some (.inl x2), some (.inl q47.1), none]) (st' := [.inl 1, .inl (q49.2 0 47), .inr 0]) (σ1 := q49.2) rfl ?_
          refine go_goto dc_X11_matches_237 (by rfl) ?_
          exact hB_X11_matches_241 x1 x2 q47.1 true (q49.2 0 47) q49.2 h
      · replace h := (if_pos hc).symm.trans h
        refine go_ops ok_X11_matches_222_1 (L' := [some (.inr 0), some (.inl x1), some (.inl x2), some (.inl q47.1), none]) (st' := [.inl 2]) (σ1 := q49.2) rfl ?_
        have h9 := Option.some.inj h
        subst h9
        exact go_iret dc_X11_matches_223 rfl
    refine go_ops ok_X11_matches_0_5 (L' := [some (.inr 0), some (.inl a1), some (.inl a2), some (.inl 0), none]) (st' := [.inl a1, .inr 8]) (σ1 := σ) rfl ?_
    obtain ⟨v1, e2, h⟩ := bind_inv h
    refine go_rd (k := 8) dc_X11_matches_7 rfl e2 ?_
    rcases Decidable.em (v1 = 0) with hs3 | hs3
    · replace h := (if_pos hs3).symm.trans h
      refine go_tsw (off := 197) dc_X11_matches_8 (by decide) (by decide) (tsk hs3 (by decide +kernel)) (by rfl) ?_
      refine go_ops ok_X11_matches_205_1 (L' := [some (.inr 0), some (.inl a1), some (.inl a2), some (.inl 0), none]) (st' := [.inl 0]) (σ1 := σ) rfl ?_
      have h9 := Option.some.inj h
      subst h9
      exact go_iret dc_X11_matches_206 rfl
    replace h := (if_neg hs3).symm.trans h
    rcases Decidable.em (v1 = 1) with hs12 | hs12
    · replace h := (if_pos hs12).symm.trans h
      refine go_tsw (off := 40) dc_X11_matches_8 (by decide) (by decide) (tsk hs12 (by decide +kernel)) (by rfl) ?_
      refine go_ops ok_X11_matches_48_5 (L' := [some (.inr 0), some (.inl a1), some (.inl a2), some (.inl 0), none]) (st' := [.inl a1, .inr 9, .inr 33]) (σ1 := σ) rfl ?_
      obtain ⟨v4, e5, h⟩ := bind_inv h
      refine go_rd (k := 9) dc_X11_matches_57 rfl e5 ?_
      refine go_ops ok_X11_matches_58_1 (L' := [some (.inr 0), some (.inl a1), some (.inl a2), some (.inl 0), none]) (st' := [.inl a2, .inl v4, .inr 33]) (σ1 := σ) rfl ?_
      obtain ⟨s6, e7, h⟩ := bind_inv h
      refine go_wr (k := 33) dc_X11_matches_59 rfl e7 ?_
      refine go_ops ok_X11_matches_60_6 (L' := [some (.inr 0), some (.inl a1), some (.inl a2), some (.inl 0), none]) (st' := [.inl (wrap (3 * a1)), .inr 11, .inr 0]) (σ1 := s6) rfl ?_
      obtain ⟨v8, e9, h⟩ := bind_inv h
      refine go_rd (k := 11) dc_X11_matches_68 rfl e9 ?_
      refine go_ops ok_X11_matches_69_1 (L' := [some (.inr 0), some (.inl a1), some (.inl a2), some (.inl 0), none]) (st' := [.inl a2, .inl v8, .inr 0]) (σ1 := s6) rfl ?_
      obtain ⟨q10, e11, h⟩ := bind_inv h
      refine go_V (M1 := m_X11_push) (as := [.inl v8, .inl a2]) (st := []) (k := 0) (ci := 11) dc_X11_matches_70 ln_11_280 im_X11_push (by decide) rfl rfl mk_X11_push rfl (Nat.le_of_ble_eq_true rfl) (Nat.le_refl _) (v := none) (σ1 := q10) (lk_X11_push l d (by omega) v8 a2 s6 q10 e11) _ rfl ?_
      refine go_ops ok_X11_matches_73_1 (L' := [some (.inr 0), some (.inl a1), some (.inl a2), some (.inl 0), none]) (st' := [.inl 0]) (σ1 := q10) rfl ?_
      have h9 := Option.some.inj h
      subst h9
      exact go_iret dc_X11_matches_74 rfl
    replace h := (if_neg hs12).symm.trans h
    rcases Decidable.em (v1 = 4) with hs29 | hs29
    · replace h := (if_pos hs29).symm.trans h
      refine go_tsw (off := 67) dc_X11_matches_8 (by decide) (by decide) (tsk hs29 (by decide +kernel)) (by rfl) ?_
      refine go_ops ok_X11_matches_75_6 (L' := [some (.inr 0), some (.inl a1), some (.inl a2), some (.inl 0), none]) (st' := [.inl (σ 0 34), .inl (σ 0 38), .inr 30]) (σ1 := σ) rfl ?_
      obtain ⟨s13, e14, h⟩ := bind_inv h
      refine go_wr (k := 30) dc_X11_matches_87 rfl e14 ?_
      refine go_ops ok_X11_matches_88_11 (L' := [some (.inr 0), some (.inl a1), some (.inl a2), some (.inl 0), none]) (st' := [.inl (wrap ((wrap (3 * a1)) + 1)), .inr 11, .inl (s13 0 38), .inr 31]) (σ1 := s13) rfl ?_
      obtain ⟨v15, e16, h⟩ := bind_inv h
      refine go_rd (k := 11) dc_X11_matches_105 rfl e16 ?_
      obtain ⟨s17, e18, h⟩ := bind_inv h
      refine go_wr (k := 31) dc_X11_matches_106 rfl e18 ?_
      refine go_ops ok_X11_matches_107_5 (L' := [some (.inr 0), some (.inl a1), some (.inl a2), some (.inl 0), none]) (st' := [.inl a2, .inl (s17 0 38), .inr 32]) (σ1 := s17) rfl ?_
      obtain ⟨s19, e20, h⟩ := bind_inv h
      refine go_wr (k := 32) dc_X11_matches_116 rfl e20 ?_
      obtain ⟨s21, e22, h⟩ := bnd_inv h
      refine go_ops ok_X11_matches_117_9 (L' := [some (.inr 0), some (.inl a1), some (.inl a2), some (.inl 0), none]) (st' := [.inl 0, .inl (-1), .inr 0]) (σ1 := s21) (by subst e22; rfl) ?_
      obtain ⟨q23, e24, h⟩ := bind_inv h
      refine go_V (M1 := m_X11_push) (as := [.inl (-1), .inl 0]) (st := []) (k := 0) (ci := 11) dc_X11_matches_130 ln_11_280 im_X11_push (by decide) rfl rfl mk_X11_push rfl (Nat.le_of_ble_eq_true rfl) (Nat.le_refl _) (v := none) (σ1 := q23) (lk_X11_push l d (by omega) (-1) 0 s21 q23 e24) _ rfl ?_
      refine go_ops ok_X11_matches_133_6 (L' := [some (.inr 0), some (.inl a1), some (.inl a2), some (.inl 0), none]) (st' := [.inl (wrap (3 * a1)), .inr 11, .inr 0]) (σ1 := q23) rfl ?_
      obtain ⟨v25, e26, h⟩ := bind_inv h
      refine go_rd (k := 11) dc_X11_matches_141 rfl e26 ?_
      refine go_ops ok_X11_matches_142_1 (L' := [some (.inr 0), some (.inl a1), some (.inl a2), some (.inl 0), none]) (st' := [.inl a2, .inl v25, .inr 0]) (σ1 := q23) rfl ?_
      obtain ⟨q27, e28, h⟩ := bind_inv h
      refine go_V (M1 := m_X11_push) (as := [.inl v25, .inl a2]) (st := []) (k := 0) (ci := 11) dc_X11_matches_143 ln_11_280 im_X11_push (by decide) rfl rfl mk_X11_push rfl (Nat.le_of_ble_eq_true rfl) (Nat.le_refl _) (v := none) (σ1 := q27) (lk_X11_push l d (by omega) v25 a2 q23 q27 e28) _ rfl ?_
      refine go_ops ok_X11_matches_146_1 (L' := [some (.inr 0), some (.inl a1), some (.inl a2), some (.inl 0), none]) (st' := [.inl 0]) (σ1 := q27) rfl ?_
      have h9 := Option.some.inj h
      subst h9
      exact go_iret dc_X11_matches_147 rfl
    replace h := (if_neg hs29).symm.trans h
    rcases Decidable.em (v1 = 5) with hs46 | hs46
    · replace h := (if_pos hs46).symm.trans h
      refine go_tsw (off := 140) dc_X11_matches_8 (by decide) (by decide) (tsk hs46 (by decide +kernel)) (by rfl) ?_
      refine go_ops ok_X11_matches_148_4 (L' := [some (.inr 0), some (.inl a1), some (.inl a2), some (.inl 0), none]) (st' := [.inl a1, .inr 9, .inr 0]) (σ1 := σ) rfl ?_
      obtain ⟨v30, e31, h⟩ := bind_inv h
      refine go_rd (k := 9) dc_X11_matches_154 rfl e31 ?_
      refine go_ops ok_X11_matches_155_1 (L' := [some (.inr 0), some (.inl a1), some (.inl a2), some (.inl 0), none]) (st' := [.inl a2, .inl v30, .inr 0]) (σ1 := σ) rfl ?_
      obtain ⟨q32, e33, h⟩ := bind_inv h
      refine go_V (M1 := m_X11_gave) (as := [.inl v30, .inl a2]) (st := []) (k := 0) (ci := 11) dc_X11_matches_156 ln_11_299 im_X11_gave (by decide) rfl rfl mk_X11_gave rfl (Nat.le_of_ble_eq_true rfl) (Nat.le_refl _) (v := (some (.inl q32.1))) (σ1 := q32.2) (lk_X11_gave l d (by omega) v30 a2 σ q32 e33) _ rfl ?_
      refine go_ops ok_X11_matches_159_3 (L' := [some (.inr 0), some (.inl a1), some (.inl a2), some (.inl q32.1), none]) (st' := [.inl (-9), .inl q32.1]) (σ1 := q32.2) rfl ?_
      refine go_icmp_ne dc_X11_matches_163 (by rfl) (fun hc => ?_) (fun hc => ?_)
      · replace h := (if_neg hc).symm.trans h
        refine go_ops ok_X11_matches_188_6 (L' := [some (.inr 0), some (.inl a1), some (.inl a2), some (.inl q32.1), none]) (st' := [.inl (wrap (3 * a1)), .inr 11, .inr 0]) (σ1 := q32.2) rfl ?_
        obtain ⟨v34, e35, h⟩ := bind_inv h
        refine go_rd (k := 11) dc_X11_matches_196 rfl e35 ?_
        refine go_ops ok_X11_matches_197_3 (L' := [some (.inr 0), some (.inl a1), some (.inl a2), some (.inl q32.1), none]) (st' := [.inl (wrap ((-1) - q32.1)), .inl v34, .inr 0]) (σ1 := q32.2) rfl ?_
        obtain ⟨q36, e37, h⟩ := bind_inv h
        refine go_V (M1 := m_X11_push) (as := [.inl v34, .inl (wrap ((-1) - q32.1))]) (st := []) (k := 0) (ci := 11) dc_X11_matches_200 ln_11_280 im_X11_push (by decide) rfl rfl mk_X11_push rfl (Nat.le_of_ble_eq_true rfl) (Nat.le_refl _) (v := none) (σ1 := q36) (lk_X11_push l d (by omega) v34 (wrap ((-1) - q32.1)) q32.2 q36 e37) _ rfl ?_
        refine go_ops ok_X11_matches_203_1 (L' := [some (.inr 0), some (.inl a1), some (.inl a2), some (.inl q32.1), none]) (st' := [.inl 0]) (σ1 := q36) rfl ?_
        have h9 := Option.some.inj h
        subst h9
        exact go_iret dc_X11_matches_204 rfl
      · replace h := (if_pos hc).symm.trans h
        obtain ⟨s38, e39, h⟩ := bnd_inv h
        refine go_ops ok_X11_matches_166_7 (L' := [some (.inr 0), some (.inl a1), some (.inl a2), some (.inl q32.1), none]) (st' := [.inl a1, .inr 9, .inr 0]) (σ1 := s38) (by subst e39; rfl) ?_
        obtain ⟨v40, e41, h⟩ := bind_inv h
        refine go_rd (k := 9) dc_X11_matches_177 rfl e41 ?_
        obtain ⟨s42, e43, h⟩ := bnd_inv h
        obtain ⟨s44, e45, h⟩ := bnd_inv h
        refine go_ops ok_X11_matches_178_5 (L' := [some (.inr 0), some (.inl a1), some (.inl a2), some (.inl q32.1), none]) (st' := [.inl 2]) (σ1 := s44) (by subst e45; subst e43; rfl) ?_
        have h9 := Option.some.inj h
        subst h9
        exact go_iret dc_X11_matches_187 rfl
    replace h := (if_neg hs46).symm.trans h
    refine go_tsw (off := 199) dc_X11_matches_8 (by decide) (by decide) (ts_d [0, 1, 4, 5] (nn1 hs3 (nn1 hs12 (nn1 hs29 (nn1 hs46 nn0)))) (by decide +kernel)) (by rfl) ?_
    refine go_wk (L' := [some (.inr 0), some (.inl a1), some (.inl a2), none, none]) ⟨rfl, rfl, rfl, trivial⟩ ?_
    exact hB_X11_matches_207 a1 a2 σ h
  have hf := go_ct (as := [.inr 0, .inl a1, .inl a2]) mk_X11_matches (by rfl) (Nat.le_of_ble_eq_true rfl) key
  exact hf
theorem dc_X11_tryCase_15 : decode m_X11_tryCase.2.2.1 15 = .ok (.if_icmp .ge 16, 3) := by decide +kernel
theorem dc_X11_tryCase_24 : decode m_X11_tryCase.2.2.1 24 = .ok (.iastore, 1) := by decide +kernel
theorem dc_X11_tryCase_28 : decode m_X11_tryCase.2.2.1 28 = .ok (.goto (-16), 3) := by decide +kernel
theorem dc_X11_tryCase_39 : decode m_X11_tryCase.2.2.1 39 = .ok (.ifCond .lt 26, 3) := by decide +kernel
theorem dc_X11_tryCase_52 : decode m_X11_tryCase.2.2.1 52 = .ok (.iaload, 1) := by decide +kernel
theorem dc_X11_tryCase_56 : decode m_X11_tryCase.2.2.1 56 = .ok (.invokevirtual 280, 3) := by decide +kernel
theorem dc_X11_tryCase_62 : decode m_X11_tryCase.2.2.1 62 = .ok (.goto (-24), 3) := by decide +kernel
theorem dc_X11_tryCase_69 : decode m_X11_tryCase.2.2.1 69 = .ok (.ifCond .le 78, 3) := by decide +kernel
theorem dc_X11_tryCase_90 : decode m_X11_tryCase.2.2.1 90 = .ok (.iaload, 1) := by decide +kernel
theorem dc_X11_tryCase_92 : decode m_X11_tryCase.2.2.1 92 = .ok (.if_icmp .ne 10, 3) := by decide +kernel
theorem dc_X11_tryCase_96 : decode m_X11_tryCase.2.2.1 96 = .ok (.invokevirtual 289, 3) := by decide +kernel
theorem dc_X11_tryCase_99 : decode m_X11_tryCase.2.2.1 99 = .ok (.goto 25, 3) := by decide +kernel
theorem dc_X11_tryCase_111 : decode m_X11_tryCase.2.2.1 111 = .ok (.iaload, 1) := by decide +kernel
theorem dc_X11_tryCase_120 : decode m_X11_tryCase.2.2.1 120 = .ok (.iaload, 1) := by decide +kernel
theorem dc_X11_tryCase_121 : decode m_X11_tryCase.2.2.1 121 = .ok (.invokevirtual 293, 3) := by decide +kernel
theorem dc_X11_tryCase_127 : decode m_X11_tryCase.2.2.1 127 = .ok (.if_icmp .eq 15, 3) := by decide +kernel
theorem dc_X11_tryCase_132 : decode m_X11_tryCase.2.2.1 132 = .ok (.if_icmp .ne 12, 3) := by decide +kernel
theorem dc_X11_tryCase_136 : decode m_X11_tryCase.2.2.1 136 = .ok (.invokevirtual 296, 3) := by decide +kernel
theorem dc_X11_tryCase_139 : decode m_X11_tryCase.2.2.1 139 = .ok (.ifCond .ne 5, 3) := by decide +kernel
theorem dc_X11_tryCase_143 : decode m_X11_tryCase.2.2.1 143 = .ok (.ireturn, 1) := by decide +kernel
theorem dc_X11_tryCase_144 : decode m_X11_tryCase.2.2.1 144 = .ok (.goto (-79), 3) := by decide +kernel
theorem dc_X11_tryCase_148 : decode m_X11_tryCase.2.2.1 148 = .ok (.ireturn, 1) := by decide +kernel
theorem ok_X11_tryCase_0_8 : oks m_X11_tryCase.1 m_X11_tryCase.2.2.1 0 [(.aload_n 0, 1, (0, 0, 0)), (.iconst 0, 1, (0, 0, 0)), (.putfield 274, 3, (11, 34, 0)), (.aload_n 0, 1, (0, 0, 0)), (.iconst 0, 1, (0, 0, 0)), (.putfield 277, 3, (11, 38, 0)), (.iconst 0, 1, (0, 0, 0)), (.istore_n 2, 1, (0, 0, 0))] = true ∧ plen 0 [(.aload_n 0, 1, (0, 0, 0)), (.iconst 0, 1, (0, 0, 0)), (.putfield 274, 3, (11, 34, 0)), (.aload_n 0, 1, (0, 0, 0)), (.iconst 0, 1, (0, 0, 0)), (.putfield 277, 3, (11, 38, 0)), (.iconst 0, 1, (0, 0, 0)), (.istore_n 2, 1, (0, 0, 0))] = 12 := by decide +kernel
theorem ok_X11_tryCase_12_2 : oks m_X11_tryCase.1 m_X11_tryCase.2.2.1 12 [(.iload_n 2, 1, (0, 0, 0)), (.bipush 6, 2, (0, 0, 0))] = true ∧ plen 12 [(.iload_n 2, 1, (0, 0, 0)), (.bipush 6, 2, (0, 0, 0))] = 15 := by decide +kernel
theorem ok_X11_tryCase_18_4 : oks m_X11_tryCase.1 m_X11_tryCase.2.2.1 18 [(.aload_n 0, 1, (0, 0, 0)), (.getfield 107, 3, (11, 39, 0)), (.iload_n 2, 1, (0, 0, 0)), (.iconst (-1), 1, (0, 0, 0))] = true ∧ plen 18 [(.aload_n 0, 1, (0, 0, 0)), (.getfield 107, 3, (11, 39, 0)), (.iload_n 2, 1, (0, 0, 0)), (.iconst (-1), 1, (0, 0, 0))] = 24 := by decide +kernel
theorem ok_X11_tryCase_25_1 : oks m_X11_tryCase.1 m_X11_tryCase.2.2.1 25 [(.iinc 2 1, 3, (0, 0, 0))] = true ∧ plen 25 [(.iinc 2 1, 3, (0, 0, 0))] = 28 := by decide +kernel
theorem ok_X11_tryCase_31_5 : oks m_X11_tryCase.1 m_X11_tryCase.2.2.1 31 [(.aload_n 0, 1, (0, 0, 0)), (.getfield 231, 3, (11, 21, 0)), (.iconst 1, 1, (0, 0, 0)), (.isub, 1, (0, 0, 0)), (.istore_n 2, 1, (0, 0, 0))] = true ∧ plen 31 [(.aload_n 0, 1, (0, 0, 0)), (.getfield 231, 3, (11, 21, 0)), (.iconst 1, 1, (0, 0, 0)), (.isub, 1, (0, 0, 0)), (.istore_n 2, 1, (0, 0, 0))] = 38 := by decide +kernel
theorem ok_X11_tryCase_38_1 : oks m_X11_tryCase.1 m_X11_tryCase.2.2.1 38 [(.iload_n 2, 1, (0, 0, 0))] = true ∧ plen 38 [(.iload_n 2, 1, (0, 0, 0))] = 39 := by decide +kernel
theorem ok_X11_tryCase_42_8 : oks m_X11_tryCase.1 m_X11_tryCase.2.2.1 42 [(.aload_n 0, 1, (0, 0, 0)), (.aload_n 0, 1, (0, 0, 0)), (.getfield 68, 3, (11, 24, 0)), (.iconst 3, 1, (0, 0, 0)), (.iload_n 1, 1, (0, 0, 0)), (.imul, 1, (0, 0, 0)), (.iload_n 2, 1, (0, 0, 0)), (.iadd, 1, (0, 0, 0))] = true ∧ plen 42 [(.aload_n 0, 1, (0, 0, 0)), (.aload_n 0, 1, (0, 0, 0)), (.getfield 68, 3, (11, 24, 0)), (.iconst 3, 1, (0, 0, 0)), (.iload_n 1, 1, (0, 0, 0)), (.imul, 1, (0, 0, 0)), (.iload_n 2, 1, (0, 0, 0)), (.iadd, 1, (0, 0, 0))] = 52 := by decide +kernel
theorem ok_X11_tryCase_53_3 : oks m_X11_tryCase.1 m_X11_tryCase.2.2.1 53 [(.iload_n 2, 1, (0, 0, 0)), (.iconst 1, 1, (0, 0, 0)), (.iadd, 1, (0, 0, 0))] = true ∧ plen 53 [(.iload_n 2, 1, (0, 0, 0)), (.iconst 1, 1, (0, 0, 0)), (.iadd, 1, (0, 0, 0))] = 56 := by decide +kernel
theorem ok_X11_tryCase_59_1 : oks m_X11_tryCase.1 m_X11_tryCase.2.2.1 59 [(.iinc 2 (-1), 3, (0, 0, 0))] = true ∧ plen 59 [(.iinc 2 (-1), 3, (0, 0, 0))] = 62 := by decide +kernel
theorem ok_X11_tryCase_65_2 : oks m_X11_tryCase.1 m_X11_tryCase.2.2.1 65 [(.aload_n 0, 1, (0, 0, 0)), (.getfield 274, 3, (11, 34, 0))] = true ∧ plen 65 [(.aload_n 0, 1, (0, 0, 0)), (.getfield 274, 3, (11, 34, 0))] = 69 := by decide +kernel
theorem ok_X11_tryCase_72_10 : oks m_X11_tryCase.1 m_X11_tryCase.2.2.1 72 [(.aload_n 0, 1, (0, 0, 0)), (.dup, 1, (0, 0, 0)), (.getfield 274, 3, (11, 34, 0)), (.iconst 1, 1, (0, 0, 0)), (.isub, 1, (0, 0, 0)), (.putfield 274, 3, (11, 34, 0)), (.aload_n 0, 1, (0, 0, 0)), (.getfield 92, 3, (11, 32, 0)), (.aload_n 0, 1, (0, 0, 0)), (.getfield 274, 3, (11, 34, 0))] = true ∧ plen 72 [(.aload_n 0, 1, (0, 0, 0)), (.dup, 1, (0, 0, 0)), (.getfield 274, 3, (11, 34, 0)), (.iconst 1, 1, (0, 0, 0)), (.isub, 1, (0, 0, 0)), (.putfield 274, 3, (11, 34, 0)), (.aload_n 0, 1, (0, 0, 0)), (.getfield 92, 3, (11, 32, 0)), (.aload_n 0, 1, (0, 0, 0)), (.getfield 274, 3, (11, 34, 0))] = 90 := by decide +kernel
theorem ok_X11_tryCase_91_1 : oks m_X11_tryCase.1 m_X11_tryCase.2.2.1 91 [(.iconst (-1), 1, (0, 0, 0))] = true ∧ plen 91 [(.iconst (-1), 1, (0, 0, 0))] = 92 := by decide +kernel
theorem ok_X11_tryCase_95_1 : oks m_X11_tryCase.1 m_X11_tryCase.2.2.1 95 [(.aload_n 0, 1, (0, 0, 0))] = true ∧ plen 95 [(.aload_n 0, 1, (0, 0, 0))] = 96 := by decide +kernel
theorem ok_X11_tryCase_102_5 : oks m_X11_tryCase.1 m_X11_tryCase.2.2.1 102 [(.aload_n 0, 1, (0, 0, 0)), (.aload_n 0, 1, (0, 0, 0)), (.getfield 92, 3, (11, 32, 0)), (.aload_n 0, 1, (0, 0, 0)), (.getfield 274, 3, (11, 34, 0))] = true ∧ plen 102 [(.aload_n 0, 1, (0, 0, 0)), (.aload_n 0, 1, (0, 0, 0)), (.getfield 92, 3, (11, 32, 0)), (.aload_n 0, 1, (0, 0, 0)), (.getfield 274, 3, (11, 34, 0))] = 111 := by decide +kernel
theorem ok_X11_tryCase_112_4 : oks m_X11_tryCase.1 m_X11_tryCase.2.2.1 112 [(.aload_n 0, 1, (0, 0, 0)), (.getfield 95, 3, (11, 33, 0)), (.aload_n 0, 1, (0, 0, 0)), (.getfield 274, 3, (11, 34, 0))] = true ∧ plen 112 [(.aload_n 0, 1, (0, 0, 0)), (.getfield 95, 3, (11, 33, 0)), (.aload_n 0, 1, (0, 0, 0)), (.getfield 274, 3, (11, 34, 0))] = 120 := by decide +kernel
theorem ok_X11_tryCase_124_3 : oks m_X11_tryCase.1 m_X11_tryCase.2.2.1 124 [(.istore_n 2, 1, (0, 0, 0)), (.iload_n 2, 1, (0, 0, 0)), (.iconst 2, 1, (0, 0, 0))] = true ∧ plen 124 [(.istore_n 2, 1, (0, 0, 0)), (.iload_n 2, 1, (0, 0, 0)), (.iconst 2, 1, (0, 0, 0))] = 127 := by decide +kernel
theorem ok_X11_tryCase_130_2 : oks m_X11_tryCase.1 m_X11_tryCase.2.2.1 130 [(.iload_n 2, 1, (0, 0, 0)), (.iconst 1, 1, (0, 0, 0))] = true ∧ plen 130 [(.iload_n 2, 1, (0, 0, 0)), (.iconst 1, 1, (0, 0, 0))] = 132 := by decide +kernel
theorem ok_X11_tryCase_135_1 : oks m_X11_tryCase.1 m_X11_tryCase.2.2.1 135 [(.aload_n 0, 1, (0, 0, 0))] = true ∧ plen 135 [(.aload_n 0, 1, (0, 0, 0))] = 136 := by decide +kernel
theorem ok_X11_tryCase_142_1 : oks m_X11_tryCase.1 m_X11_tryCase.2.2.1 142 [(.iload_n 2, 1, (0, 0, 0))] = true ∧ plen 142 [(.iload_n 2, 1, (0, 0, 0))] = 143 := by decide +kernel
theorem ok_X11_tryCase_147_1 : oks m_X11_tryCase.1 m_X11_tryCase.2.2.1 147 [(.iconst 0, 1, (0, 0, 0))] = true ∧ plen 147 [(.iconst 0, 1, (0, 0, 0))] = 148 := by decide +kernel
def L_X11_tryCase_12 (x2 : Int) (σ : Sg) : Option ((Int × Sg) ⊕ Sg) :=
if 6 ≤ x2 then
some (.inr σ)
else
(wrn 6 σ 33 x2 (-1)).bind fun s5 =>
some (.inl (wrap (x2 + 1), s5))
def L_X11_tryCase_38 (x1 : Int) (x2 : Int) (σ : Sg) : Option ((Int × Sg) ⊕ Sg) :=
if x2 < 0 then
some (.inr σ)
else
(rdn 24 σ 20 (wrap ((wrap (3 * x1)) + x2))).bind fun v11 =>
(F_X11_push v11 (wrap (x2 + 1)) σ).bind fun q13 =>
some (.inl (wrap (x2 + (-1)), q13))
def B_X11_tryCase_144 (σ : Sg) : Option (Sg ⊕ (Sg ⊕ (Int × Sg))) :=
some (.inl σ)
def B_X11_tryCase_124 (y0 : Int) (σ : Sg) : Option (Sg ⊕ (Sg ⊕ (Int × Sg))) :=
if y0 = 2 then
some (.inr (.inr (y0, σ)))
else
if y0 = 1 then
(F_X11_turns σ).bind fun q27 =>
if q27.1 = true then
B_X11_tryCase_144 q27.2
else
some (.inr (.inr (y0, q27.2)))
else
B_X11_tryCase_144 σ
def L_X11_tryCase_65 (σ : Sg) : Option (Sg ⊕ (Sg ⊕ (Int × Sg))) :=
if (σ 0 34) ≤ 0 then
some (.inr (.inl σ))
else
bnd (up2 σ 0 34 (wrap ((σ 0 34) - 1))) fun s17 =>
(rdn 256 s17 28 (s17 0 34)).bind fun v19 =>
if v19 = (-1) then
bnd (F_X11_took s17) fun q29 =>
B_X11_tryCase_124 q29.1 q29.2
else
(rdn 256 s17 28 (s17 0 34)).bind fun v21 =>
(rdn 256 s17 29 (s17 0 34)).bind fun v23 =>
(F_X11_matches v21 v23 s17).bind fun q25 =>
B_X11_tryCase_124 q25.1 q25.2
def F_X11_tryCase (a1 : Int) (σ : Sg) : Option (Int × Sg) :=
bnd (up2 σ 0 34 0) fun s1 =>
bnd (up2 s1 0 38 0) fun s3 =>
(iter (fun a : (Int × Sg) => L_X11_tryCase_12 a.1 a.2) 7 (0, s3)).bind fun y7 =>
bnd (wrap ((y7 0 21) - 1)) fun v9 =>
(iter (fun a : (Int × Sg) => L_X11_tryCase_38 a1 a.1 a.2) 3000 (v9, y7)).bind fun y15 =>
(iter (fun a : Sg => L_X11_tryCase_65 a) 3000 y15).bind fun y31 => Sum.elim (fun z33 =>
some (0, z33)) (fun r34 => some r34) y31
theorem lk_X11_tryCase (l : Launch) (d : Nat) (hd : 5 ≤ d) (a1 : Int) (σ : Sg) (q : (Int × Sg)) (h : F_X11_tryCase a1 σ = some q) : CT l d m_X11_tryCase.2.1 m_X11_tryCase.2.2.1 m_X11_tryCase.2.2.2.1 m_X11_tryCase.2.2.2.2 [.inr 0, .inl a1] (LAYM, σ) (some (.inl q.1)) (LAYM, q.2) := by
  obtain ⟨d, rfl⟩ : ∃ e, d = e + 1 := ⟨d - 1, by omega⟩
  have key : Go l m_X11_tryCase (d + 1) LAYM (.inl (some (.inl q.1))) q.2 0 [some (.inr 0), some (.inl a1), none] [] σ := by
    unfold F_X11_tryCase at h
    have hL_X11_tryCase_12 : ∀ (x1 : Int) (n : Nat) (a : (Int × Sg)) (y : Sg), iter (fun a : (Int × Sg) => L_X11_tryCase_12 a.1 a.2) n a = some y → (fun y : Sg => Go l m_X11_tryCase (d + 1) LAYM (.inl (some (.inl q.1))) q.2 31 [some (.inr 0), some (.inl x1), none] [] y) y → (fun a : (Int × Sg) => Go l m_X11_tryCase (d + 1) LAYM (.inl (some (.inl q.1))) q.2 12 [some (.inr 0), some (.inl x1), some (.inl a.1)] [] a.2) a := by
      intro x1
      refine go_iter (G := fun a : (Int × Sg) => Go l m_X11_tryCase (d + 1) LAYM (.inl (some (.inl q.1))) q.2 12 [some (.inr 0), some (.inl x1), some (.inl a.1)] [] a.2) (K := fun y : Sg => Go l m_X11_tryCase (d + 1) LAYM (.inl (some (.inl q.1))) q.2 31 [some (.inr 0), some (.inl x1), none] [] y) ?_
      rintro ⟨x2, σ⟩ w h hK
      replace h : L_X11_tryCase_12 x2 σ = some w := h
      show Go l m_X11_tryCase (d + 1) LAYM (.inl (some (.inl q.1))) q.2 12 [some (.inr 0), some (.inl x1), some (.inl x2)] [] σ
      unfold L_X11_tryCase_12 at h
      refine go_ops ok_X11_tryCase_12_2 (L' := [some (.inr 0), some (.inl x1), some (.inl x2)]) (st' := [.inl 6, .inl x2]) (σ1 := σ) rfl ?_
      refine go_icmp_ge dc_X11_tryCase_15 (by rfl) (fun hc => ?_) (fun hc => ?_)
      · replace h := (if_pos hc).symm.trans h
        cases h
        refine go_wk (L' := [some (.inr 0), some (.inl x1), none]) ⟨rfl, rfl, trivial⟩ ?_
        exact hK
      · replace h := (if_neg hc).symm.trans h
        refine go_ops ok_X11_tryCase_18_4 (L' := [some (.inr 0), some (.inl x1), some (.inl x2)]) (st' := [.inl (-1), .inl x2, .inr 33]) (σ1 := σ) rfl ?_
        obtain ⟨s5, e6, h⟩ := bind_inv h
        refine go_wr (k := 33) dc_X11_tryCase_24 rfl e6 ?_
        refine go_ops ok_X11_tryCase_25_1 (L' := [some (.inr 0), some (.inl x1), some (.inl (wrap (x2 + 1)))]) (st' := []) (σ1 := s5) rfl ?_
        refine go_goto dc_X11_tryCase_28 (by rfl) ?_
        cases h
        exact hK
    have hL_X11_tryCase_38 : ∀ (x1 : Int) (n : Nat) (a : (Int × Sg)) (y : Sg), iter (fun a : (Int × Sg) => L_X11_tryCase_38 x1 a.1 a.2) n a = some y → (fun y : Sg => Go l m_X11_tryCase (d + 1) LAYM (.inl (some (.inl q.1))) q.2 65 [some (.inr 0), none, none] [] y) y → (fun a : (Int × Sg) => Go l m_X11_tryCase (d + 1) LAYM (.inl (some (.inl q.1))) q.2 38 [some (.inr 0), some (.inl x1), some (.inl a.1)] [] a.2) a := by
      intro x1
      refine go_iter (G := fun a : (Int × Sg) => Go l m_X11_tryCase (d + 1) LAYM (.inl (some (.inl q.1))) q.2 38 [some (.inr 0), some (.inl x1), some (.inl a.1)] [] a.2) (K := fun y : Sg => Go l m_X11_tryCase (d + 1) LAYM (.inl (some (.inl q.1))) q.2 65 [some (.inr 0), none, none] [] y) ?_
      rintro ⟨x2, σ⟩ w h hK
      replace h : L_X11_tryCase_38 x1 x2 σ = some w := h
      show Go l m_X11_tryCase (d + 1) LAYM (.inl (some (.inl q.1))) q.2 38 [some (.inr 0), some (.inl x1), some (.inl x2)] [] σ
      unfold L_X11_tryCase_38 at h
      refine go_ops ok_X11_tryCase_38_1 (L' := [some (.inr 0), some (.inl x1), some (.inl x2)]) (st' := [.inl x2]) (σ1 := σ) rfl ?_
      refine go_if_lt dc_X11_tryCase_39 (by rfl) (fun hc => ?_) (fun hc => ?_)
      · replace h := (if_pos hc).symm.trans h
        cases h
        refine go_wk (L' := [some (.inr 0), none, none]) ⟨rfl, trivial⟩ ?_
        exact hK
      · replace h := (if_neg hc).symm.trans h
        refine go_ops ok_X11_tryCase_42_8 (L' := [some (.inr 0), some (.inl x1), some (.inl x2)]) (st' := [.inl (wrap ((wrap (3 * x1)) + x2)), .inr 20, .inr 0]) (σ1 := σ) rfl ?_
        obtain ⟨v11, e12, h⟩ := bind_inv h
        refine go_rd (k := 20) dc_X11_tryCase_52 rfl e12 ?_
        refine go_ops ok_X11_tryCase_53_3 (L' := [some (.inr 0), some (.inl x1), some (.inl x2)]) (st' := [.inl (wrap (x2 + 1)), .inl v11, .inr 0]) (σ1 := σ) rfl ?_
        obtain ⟨q13, e14, h⟩ := bind_inv h
        refine go_V (M1 := m_X11_push) (as := [.inl v11, .inl (wrap (x2 + 1))]) (st := []) (k := 0) (ci := 11) dc_X11_tryCase_56 ln_11_280 im_X11_push (by decide) rfl rfl mk_X11_push rfl (Nat.le_of_ble_eq_true rfl) (Nat.le_refl _) (v := none) (σ1 := q13) (lk_X11_push l d (by omega) v11 (wrap (x2 + 1)) σ q13 e14) _ rfl ?_
        refine go_ops ok_X11_tryCase_59_1 (L' := [some (.inr 0), some (.inl x1), some (.inl (wrap (x2 + (-1))))]) (st' := []) (σ1 := q13) rfl ?_
        refine go_goto dc_X11_tryCase_62 (by rfl) ?_
        cases h
        exact hK
    have hL_X11_tryCase_65 : ∀ (n : Nat) (a : Sg) (y : (Sg ⊕ (Int × Sg))), iter (fun a : Sg => L_X11_tryCase_65 a) n a = some y → (Sum.elim (fun y : Sg => Go l m_X11_tryCase (d + 1) LAYM (.inl (some (.inl q.1))) q.2 147 [none, none, none] [] y) (fun r : (Int × Sg) => r = q)) y → (fun a : Sg => Go l m_X11_tryCase (d + 1) LAYM (.inl (some (.inl q.1))) q.2 65 [some (.inr 0), none, none] [] a) a := by
      skip
      refine go_iter (G := fun a : Sg => Go l m_X11_tryCase (d + 1) LAYM (.inl (some (.inl q.1))) q.2 65 [some (.inr 0), none, none] [] a) (K := Sum.elim (fun y : Sg => Go l m_X11_tryCase (d + 1) LAYM (.inl (some (.inl q.1))) q.2 147 [none, none, none] [] y) (fun r : (Int × Sg) => r = q)) ?_
      rintro σ w h hK
      replace h : L_X11_tryCase_65 σ = some w := h
      show Go l m_X11_tryCase (d + 1) LAYM (.inl (some (.inl q.1))) q.2 65 [some (.inr 0), none, none] [] σ
      unfold L_X11_tryCase_65 at h
      have hB_X11_tryCase_144 : ∀ (σ : Sg), B_X11_tryCase_144 σ = some w → Go l m_X11_tryCase (d + 1) LAYM (.inl (some (.inl q.1))) q.2 144 [some (.inr 0), none, none] [] σ := by
        intro σ h
        unfold B_X11_tryCase_144 at h
        refine go_goto dc_X11_tryCase_144 (by rfl) ?_
        cases h
        exact hK
      have hB_X11_tryCase_124 : ∀ (y0 : Int) (σ : Sg), B_X11_tryCase_124 y0 σ = some w → Go l m_X11_tryCase (d + 1) LAYM (.inl (some (.inl q.1))) q.2 124 [some (.inr 0), none, none] [.inl y0] σ := by
        intro y0 σ h
        unfold B_X11_tryCase_124 at h
        refine go_ops ok_X11_tryCase_124_3 (L' := [some (.inr 0), none, some (.inl y0)]) (st' := [.inl 2, .inl y0]) (σ1 := σ) rfl ?_
        refine go_icmp_eq dc_X11_tryCase_127 (by rfl) (fun hc => ?_) (fun hc => ?_)
        · replace h := (if_pos hc).symm.trans h
          refine go_ops ok_X11_tryCase_142_1 (L' := [some (.inr 0), none, some (.inl y0)]) (st' := [.inl y0]) (σ1 := σ) rfl ?_
          cases h
          have hK2 : _ = q := hK
          subst hK2
          exact go_iret dc_X11_tryCase_143 rfl
        · replace h := (if_neg hc).symm.trans h
          refine go_ops ok_X11_tryCase_130_2 (L' := [some (.inr 0), none, some (.inl y0)]) (st' := [.inl 1, .inl y0]) (σ1 := σ) rfl ?_
          refine go_icmp_ne dc_X11_tryCase_132 (by rfl) (fun hc => ?_) (fun hc => ?_)
          · replace h := (if_neg hc).symm.trans h
            refine go_wk (L' := [some (.inr 0), none, none]) ⟨rfl, trivial⟩ ?_
            exact hB_X11_tryCase_144 σ h
          · replace h := (if_pos hc).symm.trans h
            refine go_ops ok_X11_tryCase_135_1 (L' := [some (.inr 0), none, some (.inl y0)]) (st' := [.inr 0]) (σ1 := σ) rfl ?_
            obtain ⟨q27, e28, h⟩ := bind_inv h
            refine go_V (M1 := m_X11_turns) (as := []) (st := []) (k := 0) (ci := 11) dc_X11_tryCase_136 ln_11_296 im_X11_turns (by decide) rfl rfl mk_X11_turns rfl (Nat.le_of_ble_eq_true rfl) (Nat.le_refl _) (v := (some (.inl (b2i q27.1)))) (σ1 := q27.2) (lk_X11_turns l d (by omega) σ q27 e28) _ rfl ?_
            refine go_ifb_ne dc_X11_tryCase_139 (by rfl) (fun hc => ?_) (fun hc => ?_)
            · replace h := (if_pos hc).symm.trans h
              refine go_wk (L' := [some (.inr 0), none, none]) ⟨rfl, trivial⟩ ?_
              exact hB_X11_tryCase_144 q27.2 h
            · replace h := (if_neg hc).symm.trans h
              refine go_ops ok_X11_tryCase_142_1 (L' := [some (.inr 0), none, some (.inl y0)]) (st' := [.inl y0]) (σ1 := q27.2) rfl ?_
              cases h
              have hK2 : _ = q := hK
              subst hK2
              exact go_iret dc_X11_tryCase_143 rfl
      refine go_ops ok_X11_tryCase_65_2 (L' := [some (.inr 0), none, none]) (st' := [.inl (σ 0 34)]) (σ1 := σ) rfl ?_
      refine go_if_le dc_X11_tryCase_69 (by rfl) (fun hc => ?_) (fun hc => ?_)
      · replace h := (if_pos hc).symm.trans h
        cases h
        refine go_wk (L' := [none, none, none]) trivial ?_
        exact hK
      · replace h := (if_neg hc).symm.trans h
        obtain ⟨s17, e18, h⟩ := bnd_inv h
        refine go_ops ok_X11_tryCase_72_10 (L' := [some (.inr 0), none, none]) (st' := [.inl (s17 0 34), .inr 28]) (σ1 := s17) (by subst e18; rfl) ?_
        obtain ⟨v19, e20, h⟩ := bind_inv h
        refine go_rd (k := 28) dc_X11_tryCase_90 rfl e20 ?_
        refine go_ops ok_X11_tryCase_91_1 (L' := [some (.inr 0), none, none]) (st' := [.inl (-1), .inl v19]) (σ1 := s17) rfl ?_
        refine go_icmp_ne dc_X11_tryCase_92 (by rfl) (fun hc => ?_) (fun hc => ?_)
        · replace h := (if_neg hc).symm.trans h
          refine go_ops ok_X11_tryCase_102_5 (L' := [some (.inr 0), none, none]) (st' := [.inl (s17 0 34), .inr 28, .inr 0]) (σ1 := s17) rfl ?_
          obtain ⟨v21, e22, h⟩ := bind_inv h
          refine go_rd (k := 28) dc_X11_tryCase_111 rfl e22 ?_
          refine go_ops ok_X11_tryCase_112_4 (L' := [some (.inr 0), none, none]) (st' := [.inl (s17 0 34), .inr 29, .inl v21, .inr 0]) (σ1 := s17) rfl ?_
          obtain ⟨v23, e24, h⟩ := bind_inv h
          refine go_rd (k := 29) dc_X11_tryCase_120 rfl e24 ?_
          obtain ⟨q25, e26, h⟩ := bind_inv h
          refine go_V (M1 := m_X11_matches) (as := [.inl v21, .inl v23]) (st := []) (k := 0) (ci := 11) dc_X11_tryCase_121 ln_11_293 im_X11_matches (by decide) rfl rfl mk_X11_matches rfl (Nat.le_of_ble_eq_true rfl) (Nat.le_refl _) (v := (some (.inl q25.1))) (σ1 := q25.2) (lk_X11_matches l d (by omega) v21 v23 s17 q25 e26) _ rfl ?_
          exact hB_X11_tryCase_124 q25.1 q25.2 h
        · replace h := (if_pos hc).symm.trans h
          refine go_ops ok_X11_tryCase_95_1 (L' := [some (.inr 0), none, none]) (st' := [.inr 0]) (σ1 := s17) rfl ?_
          obtain ⟨q29, e30, h⟩ := bnd_inv h
          refine go_V (M1 := m_X11_took) (as := []) (st := []) (k := 0) (ci := 11) dc_X11_tryCase_96 ln_11_289 im_X11_took (by decide) rfl rfl mk_X11_took rfl (Nat.le_of_ble_eq_true rfl) (Nat.le_refl _) (v := (some (.inl q29.1))) (σ1 := q29.2) (lk_X11_took l d (by omega) s17 q29 e30.symm) _ rfl ?_
          refine go_goto dc_X11_tryCase_99 (by rfl) ?_
          exact hB_X11_tryCase_124 q29.1 q29.2 h
    obtain ⟨s1, e2, h⟩ := bnd_inv h
    obtain ⟨s3, e4, h⟩ := bnd_inv h
    refine go_ops ok_X11_tryCase_0_8 (L' := [some (.inr 0), some (.inl a1), some (.inl 0)]) (st' := []) (σ1 := s3) (by subst e4; subst e2; rfl) ?_
    obtain ⟨y7, e8, h⟩ := bind_inv h
    refine hL_X11_tryCase_12 a1 7 (0, s3) y7 e8 ?_
    show Go l m_X11_tryCase (d + 1) LAYM (.inl (some (.inl q.1))) q.2 31 [some (.inr 0), some (.inl a1), none] [] y7
    obtain ⟨v9, e10, h⟩ := bnd_inv h
    refine go_ops ok_X11_tryCase_31_5 (L' := [some (.inr 0), some (.inl a1), some (.inl v9)]) (st' := []) (σ1 := y7) (by subst e10; rfl) ?_
    obtain ⟨y15, e16, h⟩ := bind_inv h
    refine hL_X11_tryCase_38 a1 3000 (v9, y7) y15 e16 ?_
    show Go l m_X11_tryCase (d + 1) LAYM (.inl (some (.inl q.1))) q.2 65 [some (.inr 0), none, none] [] y15
    obtain ⟨y31, e32, h⟩ := bind_inv h
    refine hL_X11_tryCase_65  3000 y15 y31 e32 ?_
    rcases y31 with z33 | r34
    rotate_left
    · show r34 = q
      cases h; rfl
    show Go l m_X11_tryCase (d + 1) LAYM (.inl (some (.inl q.1))) q.2 147 [none, none, none] [] z33
    rw [Sum.elim_inl] at h
    refine go_ops ok_X11_tryCase_147_1 (L' := [none, none, none]) (st' := [.inl 0]) (σ1 := z33) rfl ?_
    have h9 := Option.some.inj h
    subst h9
    exact go_iret dc_X11_tryCase_148 rfl
  have hf := go_ct (as := [.inr 0, .inl a1]) mk_X11_tryCase (by rfl) (Nat.le_of_ble_eq_true rfl) key
  exact hf
theorem dc_X11_kindOf_2 : decode m_X11_kindOf.2.2.1 2 = .ok (.invokevirtual 254, 3) := by decide +kernel
theorem dc_X11_kindOf_15 : decode m_X11_kindOf.2.2.1 15 = .ok (.iaload, 1) := by decide +kernel
theorem dc_X11_kindOf_16 : decode m_X11_kindOf.2.2.1 16 = .ok (.iaload, 1) := by decide +kernel
theorem dc_X11_kindOf_23 : decode m_X11_kindOf.2.2.1 23 = .ok (.iaload, 1) := by decide +kernel
theorem dc_X11_kindOf_35 : decode m_X11_kindOf.2.2.1 35 = .ok (.ifCond .lt 63, 3) := by decide +kernel
theorem dc_X11_kindOf_44 : decode m_X11_kindOf.2.2.1 44 = .ok (.iaload, 1) := by decide +kernel
theorem dc_X11_kindOf_50 : decode m_X11_kindOf.2.2.1 50 = .ok (.invokevirtual 305, 3) := by decide +kernel
theorem dc_X11_kindOf_57 : decode m_X11_kindOf.2.2.1 57 = .ok (.if_icmp .ne 7, 3) := by decide +kernel
theorem dc_X11_kindOf_61 : decode m_X11_kindOf.2.2.1 61 = .ok (.goto 19, 3) := by decide +kernel
theorem dc_X11_kindOf_79 : decode m_X11_kindOf.2.2.1 79 = .ok (.iaload, 1) := by decide +kernel
theorem dc_X11_kindOf_95 : decode m_X11_kindOf.2.2.1 95 = .ok (.goto (-62), 3) := by decide +kernel
theorem dc_X11_kindOf_99 : decode m_X11_kindOf.2.2.1 99 = .ok (.ireturn, 1) := by decide +kernel
theorem ok_X11_kindOf_0_2 : oks m_X11_kindOf.1 m_X11_kindOf.2.2.1 0 [(.aload_n 0, 1, (0, 0, 0)), (.iload_n 1, 1, (0, 0, 0))] = true ∧ plen 0 [(.aload_n 0, 1, (0, 0, 0)), (.iload_n 1, 1, (0, 0, 0))] = 2 := by decide +kernel
theorem ok_X11_kindOf_5_6 : oks m_X11_kindOf.1 m_X11_kindOf.2.2.1 5 [(.istore_n 2, 1, (0, 0, 0)), (.aload_n 0, 1, (0, 0, 0)), (.getfield 65, 3, (11, 22, 0)), (.aload_n 0, 1, (0, 0, 0)), (.getfield 110, 3, (11, 45, 0)), (.iload_n 2, 1, (0, 0, 0))] = true ∧ plen 5 [(.istore_n 2, 1, (0, 0, 0)), (.aload_n 0, 1, (0, 0, 0)), (.getfield 65, 3, (11, 22, 0)), (.aload_n 0, 1, (0, 0, 0)), (.getfield 110, 3, (11, 45, 0)), (.iload_n 2, 1, (0, 0, 0))] = 15 := by decide +kernel
theorem ok_X11_kindOf_17_4 : oks m_X11_kindOf.1 m_X11_kindOf.2.2.1 17 [(.istore_n 3, 1, (0, 0, 0)), (.aload_n 0, 1, (0, 0, 0)), (.getfield 110, 3, (11, 45, 0)), (.iload_n 2, 1, (0, 0, 0))] = true ∧ plen 17 [(.istore_n 3, 1, (0, 0, 0)), (.aload_n 0, 1, (0, 0, 0)), (.getfield 110, 3, (11, 45, 0)), (.iload_n 2, 1, (0, 0, 0))] = 23 := by decide +kernel
theorem ok_X11_kindOf_24_7 : oks m_X11_kindOf.1 m_X11_kindOf.2.2.1 24 [(.iconst 1, 1, (0, 0, 0)), (.iadd, 1, (0, 0, 0)), (.istore 4, 2, (0, 0, 0)), (.iload_n 2, 1, (0, 0, 0)), (.iconst 1, 1, (0, 0, 0)), (.isub, 1, (0, 0, 0)), (.istore 5, 2, (0, 0, 0))] = true ∧ plen 24 [(.iconst 1, 1, (0, 0, 0)), (.iadd, 1, (0, 0, 0)), (.istore 4, 2, (0, 0, 0)), (.iload_n 2, 1, (0, 0, 0)), (.iconst 1, 1, (0, 0, 0)), (.isub, 1, (0, 0, 0)), (.istore 5, 2, (0, 0, 0))] = 33 := by decide +kernel
theorem ok_X11_kindOf_33_1 : oks m_X11_kindOf.1 m_X11_kindOf.2.2.1 33 [(.iload 5, 2, (0, 0, 0))] = true ∧ plen 33 [(.iload 5, 2, (0, 0, 0))] = 35 := by decide +kernel
theorem ok_X11_kindOf_38_3 : oks m_X11_kindOf.1 m_X11_kindOf.2.2.1 38 [(.aload_n 0, 1, (0, 0, 0)), (.getfield 110, 3, (11, 45, 0)), (.iload 5, 2, (0, 0, 0))] = true ∧ plen 38 [(.aload_n 0, 1, (0, 0, 0)), (.getfield 110, 3, (11, 45, 0)), (.iload 5, 2, (0, 0, 0))] = 44 := by decide +kernel
theorem ok_X11_kindOf_45_3 : oks m_X11_kindOf.1 m_X11_kindOf.2.2.1 45 [(.istore 6, 2, (0, 0, 0)), (.aload_n 0, 1, (0, 0, 0)), (.iload 4, 2, (0, 0, 0))] = true ∧ plen 45 [(.istore 6, 2, (0, 0, 0)), (.aload_n 0, 1, (0, 0, 0)), (.iload 4, 2, (0, 0, 0))] = 50 := by decide +kernel
theorem ok_X11_kindOf_53_3 : oks m_X11_kindOf.1 m_X11_kindOf.2.2.1 53 [(.istore 7, 2, (0, 0, 0)), (.iload_n 3, 1, (0, 0, 0)), (.iconst 5, 1, (0, 0, 0))] = true ∧ plen 53 [(.istore 7, 2, (0, 0, 0)), (.iload_n 3, 1, (0, 0, 0)), (.iconst 5, 1, (0, 0, 0))] = 57 := by decide +kernel
theorem ok_X11_kindOf_60_1 : oks m_X11_kindOf.1 m_X11_kindOf.2.2.1 60 [(.iconst 4, 1, (0, 0, 0))] = true ∧ plen 60 [(.iconst 4, 1, (0, 0, 0))] = 61 := by decide +kernel
theorem ok_X11_kindOf_64_11 : oks m_X11_kindOf.1 m_X11_kindOf.2.2.1 64 [(.aload_n 0, 1, (0, 0, 0)), (.getfield 16, 3, (11, 3, 0)), (.iconst 3, 1, (0, 0, 0)), (.iconst 4, 1, (0, 0, 0)), (.iload_n 3, 1, (0, 0, 0)), (.imul, 1, (0, 0, 0)), (.iload 7, 2, (0, 0, 0)), (.iadd, 1, (0, 0, 0)), (.imul, 1, (0, 0, 0)), (.iload 6, 2, (0, 0, 0)), (.iadd, 1, (0, 0, 0))] = true ∧ plen 64 [(.aload_n 0, 1, (0, 0, 0)), (.getfield 16, 3, (11, 3, 0)), (.iconst 3, 1, (0, 0, 0)), (.iconst 4, 1, (0, 0, 0)), (.iload_n 3, 1, (0, 0, 0)), (.imul, 1, (0, 0, 0)), (.iload 7, 2, (0, 0, 0)), (.iadd, 1, (0, 0, 0)), (.imul, 1, (0, 0, 0)), (.iload 6, 2, (0, 0, 0)), (.iadd, 1, (0, 0, 0))] = 79 := by decide +kernel
theorem ok_X11_kindOf_80_10 : oks m_X11_kindOf.1 m_X11_kindOf.2.2.1 80 [(.istore_n 3, 1, (0, 0, 0)), (.iconst 5, 1, (0, 0, 0)), (.iload 4, 2, (0, 0, 0)), (.imul, 1, (0, 0, 0)), (.iload 6, 2, (0, 0, 0)), (.iadd, 1, (0, 0, 0)), (.iconst 1, 1, (0, 0, 0)), (.iadd, 1, (0, 0, 0)), (.istore 4, 2, (0, 0, 0)), (.iinc 5 (-1), 3, (0, 0, 0))] = true ∧ plen 80 [(.istore_n 3, 1, (0, 0, 0)), (.iconst 5, 1, (0, 0, 0)), (.iload 4, 2, (0, 0, 0)), (.imul, 1, (0, 0, 0)), (.iload 6, 2, (0, 0, 0)), (.iadd, 1, (0, 0, 0)), (.iconst 1, 1, (0, 0, 0)), (.iadd, 1, (0, 0, 0)), (.istore 4, 2, (0, 0, 0)), (.iinc 5 (-1), 3, (0, 0, 0))] = 95 := by decide +kernel
theorem ok_X11_kindOf_98_1 : oks m_X11_kindOf.1 m_X11_kindOf.2.2.1 98 [(.iload_n 3, 1, (0, 0, 0))] = true ∧ plen 98 [(.iload_n 3, 1, (0, 0, 0))] = 99 := by decide +kernel
def B_X11_kindOf_80 (x4 : Int) (x5 : Int) (x6 : Int) (y0 : Int) (σ : Sg) : Option ((Int × Int × Int × Sg) ⊕ (Int × Sg)) :=
bnd (wrap ((wrap ((wrap (5 * x4)) + x6)) + 1)) fun v19 =>
some (.inl (y0, v19, wrap (x5 + (-1)), σ))
def L_X11_kindOf_33 (x3 : Int) (x4 : Int) (x5 : Int) (σ : Sg) : Option ((Int × Int × Int × Sg) ⊕ (Int × Sg)) :=
if x5 < 0 then
some (.inr (x3, σ))
else
(rdn 8 σ 34 x5).bind fun v13 =>
(F_X11_factAt x4 σ).bind fun q15 =>
if x3 = 5 then
B_X11_kindOf_80 x4 x5 v13 4 q15.2
else
(rdn 48 q15.2 3 (wrap ((wrap (3 * (wrap ((wrap (4 * x3)) + q15.1)))) + v13))).bind fun v17 =>
B_X11_kindOf_80 x4 x5 v13 v17 q15.2
def F_X11_kindOf (a1 : Int) (σ : Sg) : Option (Int × Sg) :=
(F_X11_wayTo a1 σ).bind fun q1 =>
(rdn 8 q1.2 34 q1.1).bind fun v3 =>
(rdn 3 q1.2 19 v3).bind fun v5 =>
(rdn 8 q1.2 34 q1.1).bind fun v7 =>
bnd (wrap (v7 + 1)) fun v9 =>
bnd (wrap (q1.1 - 1)) fun v11 =>
(iter (fun a : (Int × Int × Int × Sg) => L_X11_kindOf_33 a.1 a.2.1 a.2.2.1 a.2.2.2) 3000 (v5, v9, v11, q1.2)).bind fun y21 =>
some (y21.1, y21.2)
theorem lk_X11_kindOf (l : Launch) (d : Nat) (hd : 4 ≤ d) (a1 : Int) (σ : Sg) (q : (Int × Sg)) (h : F_X11_kindOf a1 σ = some q) : CT l d m_X11_kindOf.2.1 m_X11_kindOf.2.2.1 m_X11_kindOf.2.2.2.1 m_X11_kindOf.2.2.2.2 [.inr 0, .inl a1] (LAYM, σ) (some (.inl q.1)) (LAYM, q.2) := by
  obtain ⟨d, rfl⟩ : ∃ e, d = e + 1 := ⟨d - 1, by omega⟩
  have key : Go l m_X11_kindOf (d + 1) LAYM (.inl (some (.inl q.1))) q.2 0 [some (.inr 0), some (.inl a1), none, none, none, none, none, none] [] σ := by
    unfold F_X11_kindOf at h
    have hL_X11_kindOf_33 : ∀ (n : Nat) (a : (Int × Int × Int × Sg)) (y : (Int × Sg)), iter (fun a : (Int × Int × Int × Sg) => L_X11_kindOf_33 a.1 a.2.1 a.2.2.1 a.2.2.2) n a = some y → (fun y : (Int × Sg) => Go l m_X11_kindOf (d + 1) LAYM (.inl (some (.inl q.1))) q.2 98 [none, none, none, some (.inl y.1), none, none, none, none] [] y.2) y → (fun a : (Int × Int × Int × Sg) => Go l m_X11_kindOf (d + 1) LAYM (.inl (some (.inl q.1))) q.2 33 [some (.inr 0), none, none, some (.inl a.1), some (.inl a.2.1), some (.inl a.2.2.1), none, none] [] a.2.2.2) a := by
      skip
      refine go_iter (G := fun a : (Int × Int × Int × Sg) => Go l m_X11_kindOf (d + 1) LAYM (.inl (some (.inl q.1))) q.2 33 [some (.inr 0), none, none, some (.inl a.1), some (.inl a.2.1), some (.inl a.2.2.1), none, none] [] a.2.2.2) (K := fun y : (Int × Sg) => Go l m_X11_kindOf (d + 1) LAYM (.inl (some (.inl q.1))) q.2 98 [none, none, none, some (.inl y.1), none, none, none, none] [] y.2) ?_
      rintro ⟨x3, x4, x5, σ⟩ w h hK
      replace h : L_X11_kindOf_33 x3 x4 x5 σ = some w := h
      show Go l m_X11_kindOf (d + 1) LAYM (.inl (some (.inl q.1))) q.2 33 [some (.inr 0), none, none, some (.inl x3), some (.inl x4), some (.inl x5), none, none] [] σ
      unfold L_X11_kindOf_33 at h
      have hB_X11_kindOf_80 : ∀ (x4 : Int) (x5 : Int) (x6 : Int) (y0 : Int) (σ : Sg), B_X11_kindOf_80 x4 x5 x6 y0 σ = some w → Go l m_X11_kindOf (d + 1) LAYM (.inl (some (.inl q.1))) q.2 80 [some (.inr 0), none, none, none, some (.inl x4), some (.inl x5), some (.inl x6), none] [.inl y0] σ := by
        intro x4 x5 x6 y0 σ h
        unfold B_X11_kindOf_80 at h
        obtain ⟨v19, e20, h⟩ := bnd_inv h
        refine go_ops ok_X11_kindOf_80_10 (L' := [some (.inr 0), none, none, some (.inl y0), some (.inl v19), some (.inl (wrap (x5 + (-1)))), some (.inl x6), none]) (st' := []) (σ1 := σ) (by subst e20; rfl) ?_
        refine go_goto dc_X11_kindOf_95 (by rfl) ?_
        cases h
        refine go_wk (L' := [some (.inr 0), none, none, some (.inl y0), some (.inl v19), some (.inl (wrap (x5 + (-1)))), none, none]) ⟨rfl, rfl, rfl, rfl, trivial⟩ ?_
        exact hK
      refine go_ops ok_X11_kindOf_33_1 (L' := [some (.inr 0), none, none, some (.inl x3), some (.inl x4), some (.inl x5), none, none]) (st' := [.inl x5]) (σ1 := σ) rfl ?_
      refine go_if_lt dc_X11_kindOf_35 (by rfl) (fun hc => ?_) (fun hc => ?_)
      · replace h := (if_pos hc).symm.trans h
        cases h
        refine go_wk (L' := [none, none, none, some (.inl x3), none, none, none, none]) ⟨rfl, trivial⟩ ?_
        exact hK
      · replace h := (if_neg hc).symm.trans h
        refine go_ops ok_X11_kindOf_38_3 (L' := [some (.inr 0), none, none, some (.inl x3), some (.inl x4), some (.inl x5), none, none]) (st' := [.inl x5, .inr 34]) (σ1 := σ) rfl ?_
        obtain ⟨v13, e14, h⟩ := bind_inv h
        refine go_rd (k := 34) dc_X11_kindOf_44 rfl e14 ?_
        refine go_ops ok_X11_kindOf_45_3 (L' := [some (.inr 0), none, none, some (.inl x3), some (.inl x4), some (.inl x5), some (.inl v13), none]) (st' := [.inl x4, .inr 0]) (σ1 := σ) rfl ?_
        obtain ⟨q15, e16, h⟩ := bind_inv h
        refine go_V (M1 := m_X11_factAt) (as := [.inl x4]) (st := []) (k := 0) (ci := 11) dc_X11_kindOf_50 ln_11_305 im_X11_factAt (by decide) rfl rfl mk_X11_factAt rfl (Nat.le_of_ble_eq_true rfl) (Nat.le_refl _) (v := (some (.inl q15.1))) (σ1 := q15.2) (lk_X11_factAt l d (by omega) x4 σ q15 e16) _ rfl ?_
        refine go_ops ok_X11_kindOf_53_3 (L' := [some (.inr 0), none, none, some (.inl x3), some (.inl x4), some (.inl x5), some (.inl v13), some (.inl q15.1)]) (st' := [.inl 5, .inl x3]) (σ1 := q15.2) rfl ?_
        refine go_icmp_ne dc_X11_kindOf_57 (by rfl) (fun hc => ?_) (fun hc => ?_)
        · replace h := (if_neg hc).symm.trans h
          refine go_ops ok_X11_kindOf_64_11 (L' := [some (.inr 0), none, none, some (.inl x3), some (.inl x4), some (.inl x5), some (.inl v13), some (.inl q15.1)]) (st' := [.inl (wrap ((wrap (3 * (wrap ((wrap (4 * x3)) + q15.1)))) + v13)), .inr 3]) (σ1 := q15.2) rfl ?_
          obtain ⟨v17, e18, h⟩ := bind_inv h
          refine go_rd (k := 3) dc_X11_kindOf_79 rfl e18 ?_
          refine go_wk (L' := [some (.inr 0), none, none, none, some (.inl x4), some (.inl x5), some (.inl v13), none]) ⟨rfl, rfl, rfl, rfl, trivial⟩ ?_
          exact hB_X11_kindOf_80 x4 x5 v13 v17 q15.2 h
        · replace h := (if_pos hc).symm.trans h
          refine go_ops ok_X11_kindOf_60_1 (L' := [some (.inr 0), none, none, some (.inl x3), some (.inl x4), some (.inl x5), some (.inl v13), some (.inl q15.1)]) (st' := [.inl 4]) (σ1 := q15.2) rfl ?_
          refine go_goto dc_X11_kindOf_61 (by rfl) ?_
          refine go_wk (L' := [some (.inr 0), none, none, none, some (.inl x4), some (.inl x5), some (.inl v13), none]) ⟨rfl, rfl, rfl, rfl, trivial⟩ ?_
          exact hB_X11_kindOf_80 x4 x5 v13 4 q15.2 h
    refine go_ops ok_X11_kindOf_0_2 (L' := [some (.inr 0), some (.inl a1), none, none, none, none, none, none]) (st' := [.inl a1, .inr 0]) (σ1 := σ) rfl ?_
    obtain ⟨q1, e2, h⟩ := bind_inv h
    refine go_V (M1 := m_X11_wayTo) (as := [.inl a1]) (st := []) (k := 0) (ci := 11) dc_X11_kindOf_2 ln_11_254 im_X11_wayTo (by decide) rfl rfl mk_X11_wayTo rfl (Nat.le_of_ble_eq_true rfl) (Nat.le_refl _) (v := (some (.inl q1.1))) (σ1 := q1.2) (lk_X11_wayTo l d (by omega) a1 σ q1 e2) _ rfl ?_
    refine go_ops ok_X11_kindOf_5_6 (L' := [some (.inr 0), some (.inl a1), some (.inl q1.1), none, none, none, none, none]) (st' := [.inl q1.1, .inr 34, .inr 19]) (σ1 := q1.2) rfl ?_
    obtain ⟨v3, e4, h⟩ := bind_inv h
    refine go_rd (k := 34) dc_X11_kindOf_15 rfl e4 ?_
    obtain ⟨v5, e6, h⟩ := bind_inv h
    refine go_rd (k := 19) dc_X11_kindOf_16 rfl e6 ?_
    refine go_ops ok_X11_kindOf_17_4 (L' := [some (.inr 0), some (.inl a1), some (.inl q1.1), some (.inl v5), none, none, none, none]) (st' := [.inl q1.1, .inr 34]) (σ1 := q1.2) rfl ?_
    obtain ⟨v7, e8, h⟩ := bind_inv h
    refine go_rd (k := 34) dc_X11_kindOf_23 rfl e8 ?_
    obtain ⟨v9, e10, h⟩ := bnd_inv h
    obtain ⟨v11, e12, h⟩ := bnd_inv h
    refine go_ops ok_X11_kindOf_24_7 (L' := [some (.inr 0), some (.inl a1), some (.inl q1.1), some (.inl v5), some (.inl v9), some (.inl v11), none, none]) (st' := []) (σ1 := q1.2) (by subst e12; subst e10; rfl) ?_
    refine go_wk (L' := [some (.inr 0), none, none, some (.inl v5), some (.inl v9), some (.inl v11), none, none]) ⟨rfl, rfl, rfl, rfl, trivial⟩ ?_
    obtain ⟨y21, e22, h⟩ := bind_inv h
    refine hL_X11_kindOf_33  3000 (v5, v9, v11, q1.2) y21 e22 ?_
    show Go l m_X11_kindOf (d + 1) LAYM (.inl (some (.inl q.1))) q.2 98 [none, none, none, some (.inl y21.1), none, none, none, none] [] y21.2
    refine go_ops ok_X11_kindOf_98_1 (L' := [none, none, none, some (.inl y21.1), none, none, none, none]) (st' := [.inl y21.1]) (σ1 := y21.2) rfl ?_
    have h9 := Option.some.inj h
    subst h9
    exact go_iret dc_X11_kindOf_99 rfl
  have hf := go_ct (as := [.inr 0, .inl a1]) mk_X11_kindOf (by rfl) (Nat.le_of_ble_eq_true rfl) key
  exact hf
theorem dc_X11_node_9 : decode m_X11_node.2.2.1 9 = .ok (.iastore, 1) := by decide +kernel
theorem dc_X11_node_19 : decode m_X11_node.2.2.1 19 = .ok (.iastore, 1) := by decide +kernel
theorem dc_X11_node_29 : decode m_X11_node.2.2.1 29 = .ok (.iastore, 1) := by decide +kernel
theorem dc_X11_node_40 : decode m_X11_node.2.2.1 40 = .ok (.iastore, 1) := by decide +kernel
theorem dc_X11_node_53 : decode m_X11_node.2.2.1 53 = .ok (.iastore, 1) := by decide +kernel
theorem dc_X11_node_63 : decode m_X11_node.2.2.1 63 = .ok (.iastore, 1) := by decide +kernel
theorem dc_X11_node_80 : decode m_X11_node.2.2.1 80 = .ok (.ireturn, 1) := by decide +kernel
theorem ok_X11_node_0_5 : oks m_X11_node.1 m_X11_node.2.2.1 0 [(.aload_n 0, 1, (0, 0, 0)), (.getfield 128, 3, (11, 57, 0)), (.aload_n 0, 1, (0, 0, 0)), (.getfield 321, 3, (11, 56, 0)), (.iload_n 1, 1, (0, 0, 0))] = true ∧ plen 0 [(.aload_n 0, 1, (0, 0, 0)), (.getfield 128, 3, (11, 57, 0)), (.aload_n 0, 1, (0, 0, 0)), (.getfield 321, 3, (11, 56, 0)), (.iload_n 1, 1, (0, 0, 0))] = 9 := by decide +kernel
theorem ok_X11_node_10_5 : oks m_X11_node.1 m_X11_node.2.2.1 10 [(.aload_n 0, 1, (0, 0, 0)), (.getfield 131, 3, (11, 58, 0)), (.aload_n 0, 1, (0, 0, 0)), (.getfield 321, 3, (11, 56, 0)), (.iload_n 2, 1, (0, 0, 0))] = true ∧ plen 10 [(.aload_n 0, 1, (0, 0, 0)), (.getfield 131, 3, (11, 58, 0)), (.aload_n 0, 1, (0, 0, 0)), (.getfield 321, 3, (11, 56, 0)), (.iload_n 2, 1, (0, 0, 0))] = 19 := by decide +kernel
theorem ok_X11_node_20_5 : oks m_X11_node.1 m_X11_node.2.2.1 20 [(.aload_n 0, 1, (0, 0, 0)), (.getfield 134, 3, (11, 59, 0)), (.aload_n 0, 1, (0, 0, 0)), (.getfield 321, 3, (11, 56, 0)), (.iload_n 3, 1, (0, 0, 0))] = true ∧ plen 20 [(.aload_n 0, 1, (0, 0, 0)), (.getfield 134, 3, (11, 59, 0)), (.aload_n 0, 1, (0, 0, 0)), (.getfield 321, 3, (11, 56, 0)), (.iload_n 3, 1, (0, 0, 0))] = 29 := by decide +kernel
theorem ok_X11_node_30_5 : oks m_X11_node.1 m_X11_node.2.2.1 30 [(.aload_n 0, 1, (0, 0, 0)), (.getfield 137, 3, (11, 60, 0)), (.aload_n 0, 1, (0, 0, 0)), (.getfield 321, 3, (11, 56, 0)), (.iload 4, 2, (0, 0, 0))] = true ∧ plen 30 [(.aload_n 0, 1, (0, 0, 0)), (.getfield 137, 3, (11, 60, 0)), (.aload_n 0, 1, (0, 0, 0)), (.getfield 321, 3, (11, 56, 0)), (.iload 4, 2, (0, 0, 0))] = 40 := by decide +kernel
theorem ok_X11_node_41_6 : oks m_X11_node.1 m_X11_node.2.2.1 41 [(.aload_n 0, 1, (0, 0, 0)), (.getfield 140, 3, (11, 61, 0)), (.aload_n 0, 1, (0, 0, 0)), (.getfield 321, 3, (11, 56, 0)), (.aload_n 0, 1, (0, 0, 0)), (.getfield 321, 3, (11, 56, 0))] = true ∧ plen 41 [(.aload_n 0, 1, (0, 0, 0)), (.getfield 140, 3, (11, 61, 0)), (.aload_n 0, 1, (0, 0, 0)), (.getfield 321, 3, (11, 56, 0)), (.aload_n 0, 1, (0, 0, 0)), (.getfield 321, 3, (11, 56, 0))] = 53 := by decide +kernel
theorem ok_X11_node_54_5 : oks m_X11_node.1 m_X11_node.2.2.1 54 [(.aload_n 0, 1, (0, 0, 0)), (.getfield 143, 3, (11, 62, 0)), (.aload_n 0, 1, (0, 0, 0)), (.getfield 321, 3, (11, 56, 0)), (.iconst 0, 1, (0, 0, 0))] = true ∧ plen 54 [(.aload_n 0, 1, (0, 0, 0)), (.getfield 143, 3, (11, 62, 0)), (.aload_n 0, 1, (0, 0, 0)), (.getfield 321, 3, (11, 56, 0)), (.iconst 0, 1, (0, 0, 0))] = 63 := by decide +kernel
theorem ok_X11_node_64_10 : oks m_X11_node.1 m_X11_node.2.2.1 64 [(.aload_n 0, 1, (0, 0, 0)), (.dup, 1, (0, 0, 0)), (.getfield 321, 3, (11, 56, 0)), (.iconst 1, 1, (0, 0, 0)), (.iadd, 1, (0, 0, 0)), (.putfield 321, 3, (11, 56, 0)), (.aload_n 0, 1, (0, 0, 0)), (.getfield 321, 3, (11, 56, 0)), (.iconst 1, 1, (0, 0, 0)), (.isub, 1, (0, 0, 0))] = true ∧ plen 64 [(.aload_n 0, 1, (0, 0, 0)), (.dup, 1, (0, 0, 0)), (.getfield 321, 3, (11, 56, 0)), (.iconst 1, 1, (0, 0, 0)), (.iadd, 1, (0, 0, 0)), (.putfield 321, 3, (11, 56, 0)), (.aload_n 0, 1, (0, 0, 0)), (.getfield 321, 3, (11, 56, 0)), (.iconst 1, 1, (0, 0, 0)), (.isub, 1, (0, 0, 0))] = 80 := by decide +kernel
def F_X11_node (a1 : Int) (a2 : Int) (a3 : Int) (a4 : Int) (σ : Sg) : Option (Int × Sg) :=
(wrn 512 σ 40 (σ 0 56) a1).bind fun s1 =>
(wrn 512 s1 41 (s1 0 56) a2).bind fun s3 =>
(wrn 512 s3 42 (s3 0 56) a3).bind fun s5 =>
(wrn 512 s5 43 (s5 0 56) a4).bind fun s7 =>
(wrn 512 s7 44 (s7 0 56) (s7 0 56)).bind fun s9 =>
(wrn 512 s9 45 (s9 0 56) 0).bind fun s11 =>
bnd (up2 s11 0 56 (wrap ((s11 0 56) + 1))) fun s13 =>
some (wrap ((s13 0 56) - 1), s13)
theorem lk_X11_node (l : Launch) (d : Nat) (hd : 0 ≤ d) (a1 : Int) (a2 : Int) (a3 : Int) (a4 : Int) (σ : Sg) (q : (Int × Sg)) (h : F_X11_node a1 a2 a3 a4 σ = some q) : CT l d m_X11_node.2.1 m_X11_node.2.2.1 m_X11_node.2.2.2.1 m_X11_node.2.2.2.2 [.inr 0, .inl a1, .inl a2, .inl a3, .inl a4] (LAYM, σ) (some (.inl q.1)) (LAYM, q.2) := by
  skip
  have key : Go l m_X11_node d LAYM (.inl (some (.inl q.1))) q.2 0 [some (.inr 0), some (.inl a1), some (.inl a2), some (.inl a3), some (.inl a4)] [] σ := by
    unfold F_X11_node at h
    refine go_ops ok_X11_node_0_5 (L' := [some (.inr 0), some (.inl a1), some (.inl a2), some (.inl a3), some (.inl a4)]) (st' := [.inl a1, .inl (σ 0 56), .inr 40]) (σ1 := σ) rfl ?_
    obtain ⟨s1, e2, h⟩ := bind_inv h
    refine go_wr (k := 40) dc_X11_node_9 rfl e2 ?_
    refine go_ops ok_X11_node_10_5 (L' := [some (.inr 0), some (.inl a1), some (.inl a2), some (.inl a3), some (.inl a4)]) (st' := [.inl a2, .inl (s1 0 56), .inr 41]) (σ1 := s1) rfl ?_
    obtain ⟨s3, e4, h⟩ := bind_inv h
    refine go_wr (k := 41) dc_X11_node_19 rfl e4 ?_
    refine go_ops ok_X11_node_20_5 (L' := [some (.inr 0), some (.inl a1), some (.inl a2), some (.inl a3), some (.inl a4)]) (st' := [.inl a3, .inl (s3 0 56), .inr 42]) (σ1 := s3) rfl ?_
    obtain ⟨s5, e6, h⟩ := bind_inv h
    refine go_wr (k := 42) dc_X11_node_29 rfl e6 ?_
    refine go_ops ok_X11_node_30_5 (L' := [some (.inr 0), some (.inl a1), some (.inl a2), some (.inl a3), some (.inl a4)]) (st' := [.inl a4, .inl (s5 0 56), .inr 43]) (σ1 := s5) rfl ?_
    obtain ⟨s7, e8, h⟩ := bind_inv h
    refine go_wr (k := 43) dc_X11_node_40 rfl e8 ?_
    refine go_ops ok_X11_node_41_6 (L' := [some (.inr 0), some (.inl a1), some (.inl a2), some (.inl a3), some (.inl a4)]) (st' := [.inl (s7 0 56), .inl (s7 0 56), .inr 44]) (σ1 := s7) rfl ?_
    obtain ⟨s9, e10, h⟩ := bind_inv h
    refine go_wr (k := 44) dc_X11_node_53 rfl e10 ?_
    refine go_ops ok_X11_node_54_5 (L' := [some (.inr 0), some (.inl a1), some (.inl a2), some (.inl a3), some (.inl a4)]) (st' := [.inl 0, .inl (s9 0 56), .inr 45]) (σ1 := s9) rfl ?_
    obtain ⟨s11, e12, h⟩ := bind_inv h
    refine go_wr (k := 45) dc_X11_node_63 rfl e12 ?_
    obtain ⟨s13, e14, h⟩ := bnd_inv h
    refine go_ops ok_X11_node_64_10 (L' := [some (.inr 0), some (.inl a1), some (.inl a2), some (.inl a3), some (.inl a4)]) (st' := [.inl (wrap ((s13 0 56) - 1))]) (σ1 := s13) (by subst e14; rfl) ?_
    have h9 := Option.some.inj h
    subst h9
    exact go_iret dc_X11_node_80 rfl
  have hf := go_ct (as := [.inr 0, .inl a1, .inl a2, .inl a3, .inl a4]) mk_X11_node (by rfl) (Nat.le_of_ble_eq_true rfl) key
  exact hf
theorem dc_X11_need_11 : decode m_X11_need.2.2.1 11 = .ok (.if_icmp .ge 27, 3) := by decide +kernel
theorem dc_X11_need_20 : decode m_X11_need.2.2.1 20 = .ok (.iaload, 1) := by decide +kernel
theorem dc_X11_need_22 : decode m_X11_need.2.2.1 22 = .ok (.if_icmp .ne 8, 3) := by decide +kernel
theorem dc_X11_need_27 : decode m_X11_need.2.2.1 27 = .ok (.goto 4, 3) := by decide +kernel
theorem dc_X11_need_35 : decode m_X11_need.2.2.1 35 = .ok (.goto (-30), 3) := by decide +kernel
theorem dc_X11_need_40 : decode m_X11_need.2.2.1 40 = .ok (.if_icmp .ne 39, 3) := by decide +kernel
theorem dc_X11_need_54 : decode m_X11_need.2.2.1 54 = .ok (.iastore, 1) := by decide +kernel
theorem dc_X11_need_61 : decode m_X11_need.2.2.1 61 = .ok (.iastore, 1) := by decide +kernel
theorem dc_X11_need_68 : decode m_X11_need.2.2.1 68 = .ok (.iastore, 1) := by decide +kernel
theorem dc_X11_need_85 : decode m_X11_need.2.2.1 85 = .ok (.iaload, 1) := by decide +kernel
theorem dc_X11_need_91 : decode m_X11_need.2.2.1 91 = .ok (.iaload, 1) := by decide +kernel
theorem dc_X11_need_93 : decode m_X11_need.2.2.1 93 = .ok (.if_icmp .ne 7, 3) := by decide +kernel
theorem dc_X11_need_97 : decode m_X11_need.2.2.1 97 = .ok (.goto 4, 3) := by decide +kernel
theorem dc_X11_need_102 : decode m_X11_need.2.2.1 102 = .ok (.iastore, 1) := by decide +kernel
theorem dc_X11_need_109 : decode m_X11_need.2.2.1 109 = .ok (.iastore, 1) := by decide +kernel
theorem dc_X11_need_110 : decode m_X11_need.2.2.1 110 = .ok (.return_, 1) := by decide +kernel
theorem ok_X11_need_0_4 : oks m_X11_need.1 m_X11_need.2.2.1 0 [(.iconst (-1), 1, (0, 0, 0)), (.istore_n 3, 1, (0, 0, 0)), (.iconst 0, 1, (0, 0, 0)), (.istore 4, 2, (0, 0, 0))] = true ∧ plen 0 [(.iconst (-1), 1, (0, 0, 0)), (.istore_n 3, 1, (0, 0, 0)), (.iconst 0, 1, (0, 0, 0)), (.istore 4, 2, (0, 0, 0))] = 5 := by decide +kernel
theorem ok_X11_need_5_3 : oks m_X11_need.1 m_X11_need.2.2.1 5 [(.iload 4, 2, (0, 0, 0)), (.aload_n 0, 1, (0, 0, 0)), (.getfield 324, 3, (11, 67, 0))] = true ∧ plen 5 [(.iload 4, 2, (0, 0, 0)), (.aload_n 0, 1, (0, 0, 0)), (.getfield 324, 3, (11, 67, 0))] = 11 := by decide +kernel
theorem ok_X11_need_14_3 : oks m_X11_need.1 m_X11_need.2.2.1 14 [(.aload_n 0, 1, (0, 0, 0)), (.getfield 149, 3, (11, 64, 0)), (.iload 4, 2, (0, 0, 0))] = true ∧ plen 14 [(.aload_n 0, 1, (0, 0, 0)), (.getfield 149, 3, (11, 64, 0)), (.iload 4, 2, (0, 0, 0))] = 20 := by decide +kernel
theorem ok_X11_need_21_1 : oks m_X11_need.1 m_X11_need.2.2.1 21 [(.iload_n 1, 1, (0, 0, 0))] = true ∧ plen 21 [(.iload_n 1, 1, (0, 0, 0))] = 22 := by decide +kernel
theorem ok_X11_need_25_1 : oks m_X11_need.1 m_X11_need.2.2.1 25 [(.iload 4, 2, (0, 0, 0))] = true ∧ plen 25 [(.iload 4, 2, (0, 0, 0))] = 27 := by decide +kernel
theorem ok_X11_need_30_1 : oks m_X11_need.1 m_X11_need.2.2.1 30 [(.iload_n 3, 1, (0, 0, 0))] = true ∧ plen 30 [(.iload_n 3, 1, (0, 0, 0))] = 31 := by decide +kernel
theorem ok_X11_need_31_2 : oks m_X11_need.1 m_X11_need.2.2.1 31 [(.istore_n 3, 1, (0, 0, 0)), (.iinc 4 1, 3, (0, 0, 0))] = true ∧ plen 31 [(.istore_n 3, 1, (0, 0, 0)), (.iinc 4 1, 3, (0, 0, 0))] = 35 := by decide +kernel
theorem ok_X11_need_38_2 : oks m_X11_need.1 m_X11_need.2.2.1 38 [(.iload_n 3, 1, (0, 0, 0)), (.iconst (-1), 1, (0, 0, 0))] = true ∧ plen 38 [(.iload_n 3, 1, (0, 0, 0)), (.iconst (-1), 1, (0, 0, 0))] = 40 := by decide +kernel
theorem ok_X11_need_43_7 : oks m_X11_need.1 m_X11_need.2.2.1 43 [(.aload_n 0, 1, (0, 0, 0)), (.getfield 324, 3, (11, 67, 0)), (.istore_n 3, 1, (0, 0, 0)), (.aload_n 0, 1, (0, 0, 0)), (.getfield 149, 3, (11, 64, 0)), (.iload_n 3, 1, (0, 0, 0)), (.iload_n 1, 1, (0, 0, 0))] = true ∧ plen 43 [(.aload_n 0, 1, (0, 0, 0)), (.getfield 324, 3, (11, 67, 0)), (.istore_n 3, 1, (0, 0, 0)), (.aload_n 0, 1, (0, 0, 0)), (.getfield 149, 3, (11, 64, 0)), (.iload_n 3, 1, (0, 0, 0)), (.iload_n 1, 1, (0, 0, 0))] = 54 := by decide +kernel
theorem ok_X11_need_55_4 : oks m_X11_need.1 m_X11_need.2.2.1 55 [(.aload_n 0, 1, (0, 0, 0)), (.getfield 152, 3, (11, 65, 0)), (.iload_n 3, 1, (0, 0, 0)), (.iconst 0, 1, (0, 0, 0))] = true ∧ plen 55 [(.aload_n 0, 1, (0, 0, 0)), (.getfield 152, 3, (11, 65, 0)), (.iload_n 3, 1, (0, 0, 0)), (.iconst 0, 1, (0, 0, 0))] = 61 := by decide +kernel
theorem ok_X11_need_62_4 : oks m_X11_need.1 m_X11_need.2.2.1 62 [(.aload_n 0, 1, (0, 0, 0)), (.getfield 155, 3, (11, 66, 0)), (.iload_n 3, 1, (0, 0, 0)), (.iconst (-1), 1, (0, 0, 0))] = true ∧ plen 62 [(.aload_n 0, 1, (0, 0, 0)), (.getfield 155, 3, (11, 66, 0)), (.iload_n 3, 1, (0, 0, 0)), (.iconst (-1), 1, (0, 0, 0))] = 68 := by decide +kernel
theorem ok_X11_need_69_6 : oks m_X11_need.1 m_X11_need.2.2.1 69 [(.aload_n 0, 1, (0, 0, 0)), (.dup, 1, (0, 0, 0)), (.getfield 324, 3, (11, 67, 0)), (.iconst 1, 1, (0, 0, 0)), (.iadd, 1, (0, 0, 0)), (.putfield 324, 3, (11, 67, 0))] = true ∧ plen 69 [(.aload_n 0, 1, (0, 0, 0)), (.dup, 1, (0, 0, 0)), (.getfield 324, 3, (11, 67, 0)), (.iconst 1, 1, (0, 0, 0)), (.iadd, 1, (0, 0, 0)), (.putfield 324, 3, (11, 67, 0))] = 79 := by decide +kernel
theorem ok_X11_need_79_4 : oks m_X11_need.1 m_X11_need.2.2.1 79 [(.aload_n 0, 1, (0, 0, 0)), (.getfield 152, 3, (11, 65, 0)), (.iload_n 3, 1, (0, 0, 0)), (.dup2, 1, (0, 0, 0))] = true ∧ plen 79 [(.aload_n 0, 1, (0, 0, 0)), (.getfield 152, 3, (11, 65, 0)), (.iload_n 3, 1, (0, 0, 0)), (.dup2, 1, (0, 0, 0))] = 85 := by decide +kernel
theorem ok_X11_need_86_3 : oks m_X11_need.1 m_X11_need.2.2.1 86 [(.aload_n 0, 1, (0, 0, 0)), (.getfield 155, 3, (11, 66, 0)), (.iload_n 3, 1, (0, 0, 0))] = true ∧ plen 86 [(.aload_n 0, 1, (0, 0, 0)), (.getfield 155, 3, (11, 66, 0)), (.iload_n 3, 1, (0, 0, 0))] = 91 := by decide +kernel
theorem ok_X11_need_92_1 : oks m_X11_need.1 m_X11_need.2.2.1 92 [(.iload_n 2, 1, (0, 0, 0))] = true ∧ plen 92 [(.iload_n 2, 1, (0, 0, 0))] = 93 := by decide +kernel
theorem ok_X11_need_96_1 : oks m_X11_need.1 m_X11_need.2.2.1 96 [(.iconst 0, 1, (0, 0, 0))] = true ∧ plen 96 [(.iconst 0, 1, (0, 0, 0))] = 97 := by decide +kernel
theorem ok_X11_need_100_1 : oks m_X11_need.1 m_X11_need.2.2.1 100 [(.iconst 1, 1, (0, 0, 0))] = true ∧ plen 100 [(.iconst 1, 1, (0, 0, 0))] = 101 := by decide +kernel
theorem ok_X11_need_101_1 : oks m_X11_need.1 m_X11_need.2.2.1 101 [(.iadd, 1, (0, 0, 0))] = true ∧ plen 101 [(.iadd, 1, (0, 0, 0))] = 102 := by decide +kernel
theorem ok_X11_need_103_4 : oks m_X11_need.1 m_X11_need.2.2.1 103 [(.aload_n 0, 1, (0, 0, 0)), (.getfield 155, 3, (11, 66, 0)), (.iload_n 3, 1, (0, 0, 0)), (.iload_n 2, 1, (0, 0, 0))] = true ∧ plen 103 [(.aload_n 0, 1, (0, 0, 0)), (.getfield 155, 3, (11, 66, 0)), (.iload_n 3, 1, (0, 0, 0)), (.iload_n 2, 1, (0, 0, 0))] = 109 := by decide +kernel
def B_X11_need_31 (x4 : Int) (y0 : Int) (σ : Sg) : Option ((Int × Int) ⊕ Int) :=
some (.inl (y0, wrap (x4 + 1)))
def L_X11_need_5 (x1 : Int) (σ : Sg) (x3 : Int) (x4 : Int) : Option ((Int × Int) ⊕ Int) :=
if (σ 0 67) ≤ x4 then
some (.inr x3)
else
(rdn 512 σ 47 x4).bind fun v1 =>
if v1 = x1 then
B_X11_need_31 x4 x4 σ
else
B_X11_need_31 x4 x3 σ
def B_X11_need_101 (x2 : Int) (x3 : Int) (y0 : Bool) (y1 : Int) (y2 : Int) (σ : Sg) : Option Sg :=
(wrn 512 σ 48 y2 (wrap (y1 + (b2i y0)))).bind fun s9 =>
(wrn 512 s9 49 x3 x2).bind fun s11 =>
some s11
def B_X11_need_79 (x2 : Int) (x3 : Int) (σ : Sg) : Option Sg :=
(rdn 512 σ 48 x3).bind fun v5 =>
(rdn 512 σ 49 x3).bind fun v7 =>
if v7 = x2 then
B_X11_need_101 x2 x3 false v5 x3 σ
else
B_X11_need_101 x2 x3 true v5 x3 σ
def F_X11_need (a1 : Int) (a2 : Int) (σ : Sg) : Option Sg :=
(iter (fun a : (Int × Int) => L_X11_need_5 a1 σ a.1 a.2) 3000 ((-1), 0)).bind fun y3 =>
if y3 = (-1) then
bnd (σ 0 67) fun v13 =>
(wrn 512 σ 47 v13 a1).bind fun s15 =>
(wrn 512 s15 48 v13 0).bind fun s17 =>
(wrn 512 s17 49 v13 (-1)).bind fun s19 =>
bnd (up2 s19 0 67 (wrap ((s19 0 67) + 1))) fun s21 =>
B_X11_need_79 a2 v13 s21
else
B_X11_need_79 a2 y3 σ
theorem lk_X11_need (l : Launch) (d : Nat) (hd : 0 ≤ d) (a1 : Int) (a2 : Int) (σ : Sg) (q : Sg) (h : F_X11_need a1 a2 σ = some q) : CT l d m_X11_need.2.1 m_X11_need.2.2.1 m_X11_need.2.2.2.1 m_X11_need.2.2.2.2 [.inr 0, .inl a1, .inl a2] (LAYM, σ) none (LAYM, q) := by
  skip
  have key : Go l m_X11_need d LAYM (.inl none) q 0 [some (.inr 0), some (.inl a1), some (.inl a2), none, none] [] σ := by
    unfold F_X11_need at h
    have hL_X11_need_5 : ∀ (x1 : Int) (x2 : Int) (σ : Sg) (n : Nat) (a : (Int × Int)) (y : Int), iter (fun a : (Int × Int) => L_X11_need_5 x1 σ a.1 a.2) n a = some y → (fun y : Int => Go l m_X11_need d LAYM (.inl none) q 38 [some (.inr 0), some (.inl x1), some (.inl x2), some (.inl y), none] [] σ) y → (fun a : (Int × Int) => Go l m_X11_need d LAYM (.inl none) q 5 [some (.inr 0), some (.inl x1), some (.inl x2), some (.inl a.1), some (.inl a.2)] [] σ) a := by
      intro x1 x2 σ
      refine go_iter (G := fun a : (Int × Int) => Go l m_X11_need d LAYM (.inl none) q 5 [some (.inr 0), some (.inl x1), some (.inl x2), some (.inl a.1), some (.inl a.2)] [] σ) (K := fun y : Int => Go l m_X11_need d LAYM (.inl none) q 38 [some (.inr 0), some (.inl x1), some (.inl x2), some (.inl y), none] [] σ) ?_
      rintro ⟨x3, x4⟩ w h hK
      replace h : L_X11_need_5 x1 σ x3 x4 = some w := h
      show Go l m_X11_need d LAYM (.inl none) q 5 [some (.inr 0), some (.inl x1), some (.inl x2), some (.inl x3), some (.inl x4)] [] σ
      unfold L_X11_need_5 at h
      have hB_X11_need_31 : ∀ (x4 : Int) (y0 : Int), B_X11_need_31 x4 y0 σ = some w → Go l m_X11_need d LAYM (.inl none) q 31 [some (.inr 0), some (.inl x1), some (.inl x2), none, some (.inl x4)] [.inl y0] σ := by
        intro x4 y0 h
        unfold B_X11_need_31 at h
        refine go_ops ok_X11_need_31_2 (L' := [some (.inr 0), some (.inl x1), some (.inl x2), some (.inl y0), some (.inl (wrap (x4 + 1)))]) (st' := []) (σ1 := σ) rfl ?_
        refine go_goto dc_X11_need_35 (by rfl) ?_
        cases h
        exact hK
      refine go_ops ok_X11_need_5_3 (L' := [some (.inr 0), some (.inl x1), some (.inl x2), some (.inl x3), some (.inl x4)]) (st' := [.inl (σ 0 67), .inl x4]) (σ1 := σ) rfl ?_
      refine go_icmp_ge dc_X11_need_11 (by rfl) (fun hc => ?_) (fun hc => ?_)
      · replace h := (if_pos hc).symm.trans h
        cases h
        refine go_wk (L' := [some (.inr 0), some (.inl x1), some (.inl x2), some (.inl x3), none]) ⟨rfl, rfl, rfl, rfl, trivial⟩ ?_
        exact hK
      · replace h := (if_neg hc).symm.trans h
        refine go_ops ok_X11_need_14_3 (L' := [some (.inr 0), some (.inl x1), some (.inl x2), some (.inl x3), some (.inl x4)]) (st' := [.inl x4, .inr 47]) (σ1 := σ) rfl ?_
        obtain ⟨v1, e2, h⟩ := bind_inv h
        refine go_rd (k := 47) dc_X11_need_20 rfl e2 ?_
        refine go_ops ok_X11_need_21_1 (L' := [some (.inr 0), some (.inl x1), some (.inl x2), some (.inl x3), some (.inl x4)]) (st' := [.inl x1, .inl v1]) (σ1 := σ) rfl ?_
        refine go_icmp_ne dc_X11_need_22 (by rfl) (fun hc => ?_) (fun hc => ?_)
        · replace h := (if_neg hc).symm.trans h
          refine go_ops ok_X11_need_30_1 (L' := [some (.inr 0), some (.inl x1), some (.inl x2), some (.inl x3), some (.inl x4)]) (st' := [.inl x3]) (σ1 := σ) rfl ?_
          refine go_wk (L' := [some (.inr 0), some (.inl x1), some (.inl x2), none, some (.inl x4)]) ⟨rfl, rfl, rfl, rfl, trivial⟩ ?_
          exact hB_X11_need_31 x4 x3 h
        · replace h := (if_pos hc).symm.trans h
          refine go_ops ok_X11_need_25_1 (L' := [some (.inr 0), some (.inl x1), some (.inl x2), some (.inl x3), some (.inl x4)]) (st' := [.inl x4]) (σ1 := σ) rfl ?_
          refine go_goto dc_X11_need_27 (by rfl) ?_
          refine go_wk (L' := [some (.inr 0), some (.inl x1), some (.inl x2), none, some (.inl x4)]) ⟨rfl, rfl, rfl, rfl, trivial⟩ ?_
          exact hB_X11_need_31 x4 x4 h
    have hB_X11_need_101 : ∀ (x2 : Int) (x3 : Int) (y0 : Bool) (y1 : Int) (y2 : Int) (σ : Sg), B_X11_need_101 x2 x3 y0 y1 y2 σ = some q → Go l m_X11_need d LAYM (.inl none) q 101 [some (.inr 0), none, some (.inl x2), some (.inl x3), none] [.inl (b2i y0), .inl y1, .inl y2, .inr 48] σ := by
      intro x2 x3 y0 y1 y2 σ h
      unfold B_X11_need_101 at h
      refine go_ops ok_X11_need_101_1 (L' := [some (.inr 0), none, some (.inl x2), some (.inl x3), none]) (st' := [.inl (wrap (y1 + (b2i y0))), .inl y2, .inr 48]) (σ1 := σ) rfl ?_
      obtain ⟨s9, e10, h⟩ := bind_inv h
      refine go_wr (k := 48) dc_X11_need_102 rfl e10 ?_
      refine go_ops ok_X11_need_103_4 (L' := [some (.inr 0), none, some (.inl x2), some (.inl x3), none]) (st' := [.inl x2, .inl x3, .inr 49]) (σ1 := s9) rfl ?_
      obtain ⟨s11, e12, h⟩ := bind_inv h
      refine go_wr (k := 49) dc_X11_need_109 rfl e12 ?_
      have h9 := Option.some.inj h
      subst h9
      exact go_vret dc_X11_need_110 rfl
    have hB_X11_need_79 : ∀ (x2 : Int) (x3 : Int) (σ : Sg), B_X11_need_79 x2 x3 σ = some q → Go l m_X11_need d LAYM (.inl none) q 79 [some (.inr 0), none, some (.inl x2), some (.inl x3), none] [] σ := by
      intro x2 x3 σ h
      unfold B_X11_need_79 at h
      refine go_ops ok_X11_need_79_4 (L' := [some (.inr 0), none, some (.inl x2), some (.inl x3), none]) (st' := [.inl x3, .inr 48, .inl x3, .inr 48]) (σ1 := σ) rfl ?_
      obtain ⟨v5, e6, h⟩ := bind_inv h
      refine go_rd (k := 48) dc_X11_need_85 rfl e6 ?_
      refine go_ops ok_X11_need_86_3 (L' := [some (.inr 0), none, some (.inl x2), some (.inl x3), none]) (st' := [.inl x3, .inr 49, .inl v5, .inl x3, .inr 48]) (σ1 := σ) rfl ?_
      obtain ⟨v7, e8, h⟩ := bind_inv h
      refine go_rd (k := 49) dc_X11_need_91 rfl e8 ?_
      refine go_ops ok_X11_need_92_1 (L' := [some (.inr 0), none, some (.inl x2), some (.inl x3), none]) (st' := [.inl x2, .inl v7, .inl v5, .inl x3, .inr 48]) (σ1 := σ) rfl ?_
      refine go_icmp_ne dc_X11_need_93 (by rfl) (fun hc => ?_) (fun hc => ?_)
      · replace h := (if_neg hc).symm.trans h
        refine go_ops ok_X11_need_100_1 (L' := [some (.inr 0), none, some (.inl x2), some (.inl x3), none]) (st' := [.inl 1, .inl v5, .inl x3, .inr 48]) (σ1 := σ) rfl ?_
        exact hB_X11_need_101 x2 x3 true v5 x3 σ h
      · replace h := (if_pos hc).symm.trans h
        refine go_ops ok_X11_need_96_1 (L' := [some (.inr 0), none, some (.inl x2), some (.inl x3), none]) (st' := [.inl 0, .inl v5, .inl x3, .inr 48]) (σ1 := σ) rfl ?_
        refine go_goto dc_X11_need_97 (by rfl) ?_
        exact hB_X11_need_101 x2 x3 false v5 x3 σ h
    refine go_ops ok_X11_need_0_4 (L' := [some (.inr 0), some (.inl a1), some (.inl a2), some (.inl (-1)), some (.inl 0)]) (st' := []) (σ1 := σ) rfl ?_
    obtain ⟨y3, e4, h⟩ := bind_inv h
    refine hL_X11_need_5 a1 a2 σ 3000 ((-1), 0) y3 e4 ?_
    show Go l m_X11_need d LAYM (.inl none) q 38 [some (.inr 0), some (.inl a1), some (.inl a2), some (.inl y3), none] [] σ
    refine go_ops ok_X11_need_38_2 (L' := [some (.inr 0), some (.inl a1), some (.inl a2), some (.inl y3), none]) (st' := [.inl (-1), .inl y3]) (σ1 := σ) rfl ?_
    refine go_icmp_ne dc_X11_need_40 (by rfl) (fun hc => ?_) (fun hc => ?_)
    · replace h := (if_neg hc).symm.trans h
      refine go_wk (L' := [some (.inr 0), none, some (.inl a2), some (.inl y3), none]) ⟨rfl, rfl, rfl, trivial⟩ ?_
      exact hB_X11_need_79 a2 y3 σ h
    · replace h := (if_pos hc).symm.trans h
      obtain ⟨v13, e14, h⟩ := bnd_inv h
      refine go_ops ok_X11_need_43_7 (L' := [some (.inr 0), some (.inl a1), some (.inl a2), some (.inl v13), none]) (st' := [.inl a1, .inl v13, .inr 47]) (σ1 := σ) (by subst e14; rfl) ?_
      obtain ⟨s15, e16, h⟩ := bind_inv h
      refine go_wr (k := 47) dc_X11_need_54 rfl e16 ?_
      refine go_ops ok_X11_need_55_4 (L' := [some (.inr 0), some (.inl a1), some (.inl a2), some (.inl v13), none]) (st' := [.inl 0, .inl v13, .inr 48]) (σ1 := s15) rfl ?_
      obtain ⟨s17, e18, h⟩ := bind_inv h
      refine go_wr (k := 48) dc_X11_need_61 rfl e18 ?_
      refine go_ops ok_X11_need_62_4 (L' := [some (.inr 0), some (.inl a1), some (.inl a2), some (.inl v13), none]) (st' := [.inl (-1), .inl v13, .inr 49]) (σ1 := s17) rfl ?_
      obtain ⟨s19, e20, h⟩ := bind_inv h
      refine go_wr (k := 49) dc_X11_need_68 rfl e20 ?_
      obtain ⟨s21, e22, h⟩ := bnd_inv h
      refine go_ops ok_X11_need_69_6 (L' := [some (.inr 0), some (.inl a1), some (.inl a2), some (.inl v13), none]) (st' := []) (σ1 := s21) (by subst e22; rfl) ?_
      refine go_wk (L' := [some (.inr 0), none, some (.inl a2), some (.inl v13), none]) ⟨rfl, rfl, rfl, trivial⟩ ?_
      exact hB_X11_need_79 a2 v13 s21 h
  have hf := go_ct (as := [.inr 0, .inl a1, .inl a2]) mk_X11_need (by rfl) (Nat.le_of_ble_eq_true rfl) key
  exact hf
theorem dc_X11_needsOf_9 : decode m_X11_needsOf.2.2.1 9 = .ok (.if_icmp .ge 37, 3) := by decide +kernel
theorem dc_X11_needsOf_26 : decode m_X11_needsOf.2.2.1 26 = .ok (.iaload, 1) := by decide +kernel
theorem dc_X11_needsOf_27 : decode m_X11_needsOf.2.2.1 27 = .ok (.iastore, 1) := by decide +kernel
theorem dc_X11_needsOf_36 : decode m_X11_needsOf.2.2.1 36 = .ok (.iastore, 1) := by decide +kernel
theorem dc_X11_needsOf_43 : decode m_X11_needsOf.2.2.1 43 = .ok (.goto (-39), 3) := by decide +kernel
theorem dc_X11_needsOf_47 : decode m_X11_needsOf.2.2.1 47 = .ok (.ifCond .le 265, 3) := by decide +kernel
theorem dc_X11_needsOf_58 : decode m_X11_needsOf.2.2.1 58 = .ok (.iaload, 1) := by decide +kernel
theorem dc_X11_needsOf_65 : decode m_X11_needsOf.2.2.1 65 = .ok (.iaload, 1) := by decide +kernel
theorem dc_X11_needsOf_73 : decode m_X11_needsOf.2.2.1 73 = .ok (.iaload, 1) := by decide +kernel
theorem dc_X11_needsOf_79 : decode m_X11_needsOf.2.2.1 79 = .ok (.if_icmp .eq 16, 3) := by decide +kernel
theorem dc_X11_needsOf_85 : decode m_X11_needsOf.2.2.1 85 = .ok (.if_icmp .eq 10, 3) := by decide +kernel
theorem dc_X11_needsOf_92 : decode m_X11_needsOf.2.2.1 92 = .ok (.if_icmp .ne 7, 3) := by decide +kernel
theorem dc_X11_needsOf_96 : decode m_X11_needsOf.2.2.1 96 = .ok (.goto 4, 3) := by decide +kernel
theorem dc_X11_needsOf_104 : decode m_X11_needsOf.2.2.1 104 = .ok (.ifCond .eq 12, 3) := by decide +kernel
theorem dc_X11_needsOf_110 : decode m_X11_needsOf.2.2.1 110 = .ok (.invokevirtual 305, 3) := by decide +kernel
theorem dc_X11_needsOf_113 : decode m_X11_needsOf.2.2.1 113 = .ok (.goto 4, 3) := by decide +kernel
theorem dc_X11_needsOf_121 : decode m_X11_needsOf.2.2.1 121 = .ok (.ifCond .eq 17, 3) := by decide +kernel
theorem dc_X11_needsOf_128 : decode m_X11_needsOf.2.2.1 128 = .ok (.if_icmp .ne 10, 3) := by decide +kernel
theorem dc_X11_needsOf_135 : decode m_X11_needsOf.2.2.1 135 = .ok (.invokevirtual 327, 3) := by decide +kernel
theorem dc_X11_needsOf_141 : decode m_X11_needsOf.2.2.1 141 = .ok (.if_icmp .eq 39, 3) := by decide +kernel
theorem dc_X11_needsOf_147 : decode m_X11_needsOf.2.2.1 147 = .ok (.if_icmp .eq 33, 3) := by decide +kernel
theorem dc_X11_needsOf_153 : decode m_X11_needsOf.2.2.1 153 = .ok (.if_icmp .eq 10, 3) := by decide +kernel
theorem dc_X11_needsOf_160 : decode m_X11_needsOf.2.2.1 160 = .ok (.if_icmp .ne 24, 3) := by decide +kernel
theorem dc_X11_needsOf_167 : decode m_X11_needsOf.2.2.1 167 = .ok (.if_icmp .eq 17, 3) := by decide +kernel
theorem dc_X11_needsOf_174 : decode m_X11_needsOf.2.2.1 174 = .ok (.invokevirtual 311, 3) := by decide +kernel
theorem dc_X11_needsOf_177 : decode m_X11_needsOf.2.2.1 177 = .ok (.ifCond .eq 7, 3) := by decide +kernel
theorem dc_X11_needsOf_181 : decode m_X11_needsOf.2.2.1 181 = .ok (.goto 4, 3) := by decide +kernel
theorem dc_X11_needsOf_191 : decode m_X11_needsOf.2.2.1 191 = .ok (.if_icmp .ne 25, 3) := by decide +kernel
theorem dc_X11_needsOf_199 : decode m_X11_needsOf.2.2.1 199 = .ok (.iaload, 1) := by decide +kernel
theorem dc_X11_needsOf_201 : decode m_X11_needsOf.2.2.1 201 = .ok (.if_icmp .ne 15, 3) := by decide +kernel
theorem dc_X11_needsOf_211 : decode m_X11_needsOf.2.2.1 211 = .ok (.iaload, 1) := by decide +kernel
theorem dc_X11_needsOf_213 : decode m_X11_needsOf.2.2.1 213 = .ok (.goto 4, 3) := by decide +kernel
theorem dc_X11_needsOf_225 : decode m_X11_needsOf.2.2.1 225 = .ok (.if_icmp .ge 84, 3) := by decide +kernel
theorem dc_X11_needsOf_230 : decode m_X11_needsOf.2.2.1 230 = .ok (.ifCond .eq 79, 3) := by decide +kernel
theorem dc_X11_needsOf_243 : decode m_X11_needsOf.2.2.1 243 = .ok (.iaload, 1) := by decide +kernel
theorem dc_X11_needsOf_245 : decode m_X11_needsOf.2.2.1 245 = .ok (.if_icmp .eq 58, 3) := by decide +kernel
theorem dc_X11_needsOf_263 : decode m_X11_needsOf.2.2.1 263 = .ok (.iaload, 1) := by decide +kernel
theorem dc_X11_needsOf_264 : decode m_X11_needsOf.2.2.1 264 = .ok (.iastore, 1) := by decide +kernel
theorem dc_X11_needsOf_273 : decode m_X11_needsOf.2.2.1 273 = .ok (.if_icmp .eq 9, 3) := by decide +kernel
theorem dc_X11_needsOf_279 : decode m_X11_needsOf.2.2.1 279 = .ok (.if_icmp .ne 8, 3) := by decide +kernel
theorem dc_X11_needsOf_284 : decode m_X11_needsOf.2.2.1 284 = .ok (.goto 15, 3) := by decide +kernel
theorem dc_X11_needsOf_299 : decode m_X11_needsOf.2.2.1 299 = .ok (.iastore, 1) := by decide +kernel
theorem dc_X11_needsOf_306 : decode m_X11_needsOf.2.2.1 306 = .ok (.goto (-84), 3) := by decide +kernel
theorem dc_X11_needsOf_309 : decode m_X11_needsOf.2.2.1 309 = .ok (.goto (-263), 3) := by decide +kernel
theorem dc_X11_needsOf_312 : decode m_X11_needsOf.2.2.1 312 = .ok (.return_, 1) := by decide +kernel
theorem ok_X11_needsOf_0_4 : oks m_X11_needsOf.1 m_X11_needsOf.2.2.1 0 [(.iconst 0, 1, (0, 0, 0)), (.istore_n 2, 1, (0, 0, 0)), (.iconst 0, 1, (0, 0, 0)), (.istore_n 3, 1, (0, 0, 0))] = true ∧ plen 0 [(.iconst 0, 1, (0, 0, 0)), (.istore_n 2, 1, (0, 0, 0)), (.iconst 0, 1, (0, 0, 0)), (.istore_n 3, 1, (0, 0, 0))] = 4 := by decide +kernel
theorem ok_X11_needsOf_4_3 : oks m_X11_needsOf.1 m_X11_needsOf.2.2.1 4 [(.iload_n 3, 1, (0, 0, 0)), (.aload_n 0, 1, (0, 0, 0)), (.getfield 231, 3, (11, 21, 0))] = true ∧ plen 4 [(.iload_n 3, 1, (0, 0, 0)), (.aload_n 0, 1, (0, 0, 0)), (.getfield 231, 3, (11, 21, 0))] = 9 := by decide +kernel
theorem ok_X11_needsOf_12_10 : oks m_X11_needsOf.1 m_X11_needsOf.2.2.1 12 [(.aload_n 0, 1, (0, 0, 0)), (.getfield 86, 3, (11, 30, 0)), (.iload_n 2, 1, (0, 0, 0)), (.aload_n 0, 1, (0, 0, 0)), (.getfield 68, 3, (11, 24, 0)), (.iconst 3, 1, (0, 0, 0)), (.iload_n 1, 1, (0, 0, 0)), (.imul, 1, (0, 0, 0)), (.iload_n 3, 1, (0, 0, 0)), (.iadd, 1, (0, 0, 0))] = true ∧ plen 12 [(.aload_n 0, 1, (0, 0, 0)), (.getfield 86, 3, (11, 30, 0)), (.iload_n 2, 1, (0, 0, 0)), (.aload_n 0, 1, (0, 0, 0)), (.getfield 68, 3, (11, 24, 0)), (.iconst 3, 1, (0, 0, 0)), (.iload_n 1, 1, (0, 0, 0)), (.imul, 1, (0, 0, 0)), (.iload_n 3, 1, (0, 0, 0)), (.iadd, 1, (0, 0, 0))] = 26 := by decide +kernel
theorem ok_X11_needsOf_28_6 : oks m_X11_needsOf.1 m_X11_needsOf.2.2.1 28 [(.aload_n 0, 1, (0, 0, 0)), (.getfield 158, 3, (11, 68, 0)), (.iload_n 2, 1, (0, 0, 0)), (.iload_n 3, 1, (0, 0, 0)), (.iconst 1, 1, (0, 0, 0)), (.iadd, 1, (0, 0, 0))] = true ∧ plen 28 [(.aload_n 0, 1, (0, 0, 0)), (.getfield 158, 3, (11, 68, 0)), (.iload_n 2, 1, (0, 0, 0)), (.iload_n 3, 1, (0, 0, 0)), (.iconst 1, 1, (0, 0, 0)), (.iadd, 1, (0, 0, 0))] = 36 := by decide +kernel
theorem ok_X11_needsOf_37_2 : oks m_X11_needsOf.1 m_X11_needsOf.2.2.1 37 [(.iinc 2 1, 3, (0, 0, 0)), (.iinc 3 1, 3, (0, 0, 0))] = true ∧ plen 37 [(.iinc 2 1, 3, (0, 0, 0)), (.iinc 3 1, 3, (0, 0, 0))] = 43 := by decide +kernel
theorem ok_X11_needsOf_46_1 : oks m_X11_needsOf.1 m_X11_needsOf.2.2.1 46 [(.iload_n 2, 1, (0, 0, 0))] = true ∧ plen 46 [(.iload_n 2, 1, (0, 0, 0))] = 47 := by decide +kernel
theorem ok_X11_needsOf_50_4 : oks m_X11_needsOf.1 m_X11_needsOf.2.2.1 50 [(.iinc 2 (-1), 3, (0, 0, 0)), (.aload_n 0, 1, (0, 0, 0)), (.getfield 86, 3, (11, 30, 0)), (.iload_n 2, 1, (0, 0, 0))] = true ∧ plen 50 [(.iinc 2 (-1), 3, (0, 0, 0)), (.aload_n 0, 1, (0, 0, 0)), (.getfield 86, 3, (11, 30, 0)), (.iload_n 2, 1, (0, 0, 0))] = 58 := by decide +kernel
theorem ok_X11_needsOf_59_4 : oks m_X11_needsOf.1 m_X11_needsOf.2.2.1 59 [(.istore_n 3, 1, (0, 0, 0)), (.aload_n 0, 1, (0, 0, 0)), (.getfield 158, 3, (11, 68, 0)), (.iload_n 2, 1, (0, 0, 0))] = true ∧ plen 59 [(.istore_n 3, 1, (0, 0, 0)), (.aload_n 0, 1, (0, 0, 0)), (.getfield 158, 3, (11, 68, 0)), (.iload_n 2, 1, (0, 0, 0))] = 65 := by decide +kernel
theorem ok_X11_needsOf_66_4 : oks m_X11_needsOf.1 m_X11_needsOf.2.2.1 66 [(.istore 4, 2, (0, 0, 0)), (.aload_n 0, 1, (0, 0, 0)), (.getfield 31, 3, (11, 10, 0)), (.iload_n 3, 1, (0, 0, 0))] = true ∧ plen 66 [(.istore 4, 2, (0, 0, 0)), (.aload_n 0, 1, (0, 0, 0)), (.getfield 31, 3, (11, 10, 0)), (.iload_n 3, 1, (0, 0, 0))] = 73 := by decide +kernel
theorem ok_X11_needsOf_74_3 : oks m_X11_needsOf.1 m_X11_needsOf.2.2.1 74 [(.istore 5, 2, (0, 0, 0)), (.iload 5, 2, (0, 0, 0)), (.iconst 2, 1, (0, 0, 0))] = true ∧ plen 74 [(.istore 5, 2, (0, 0, 0)), (.iload 5, 2, (0, 0, 0)), (.iconst 2, 1, (0, 0, 0))] = 79 := by decide +kernel
theorem ok_X11_needsOf_82_2 : oks m_X11_needsOf.1 m_X11_needsOf.2.2.1 82 [(.iload 5, 2, (0, 0, 0)), (.iconst 3, 1, (0, 0, 0))] = true ∧ plen 82 [(.iload 5, 2, (0, 0, 0)), (.iconst 3, 1, (0, 0, 0))] = 85 := by decide +kernel
theorem ok_X11_needsOf_88_2 : oks m_X11_needsOf.1 m_X11_needsOf.2.2.1 88 [(.iload 5, 2, (0, 0, 0)), (.bipush 6, 2, (0, 0, 0))] = true ∧ plen 88 [(.iload 5, 2, (0, 0, 0)), (.bipush 6, 2, (0, 0, 0))] = 92 := by decide +kernel
theorem ok_X11_needsOf_95_1 : oks m_X11_needsOf.1 m_X11_needsOf.2.2.1 95 [(.iconst 1, 1, (0, 0, 0))] = true ∧ plen 95 [(.iconst 1, 1, (0, 0, 0))] = 96 := by decide +kernel
theorem ok_X11_needsOf_99_1 : oks m_X11_needsOf.1 m_X11_needsOf.2.2.1 99 [(.iconst 0, 1, (0, 0, 0))] = true ∧ plen 99 [(.iconst 0, 1, (0, 0, 0))] = 100 := by decide +kernel
theorem ok_X11_needsOf_100_2 : oks m_X11_needsOf.1 m_X11_needsOf.2.2.1 100 [(.istore 6, 2, (0, 0, 0)), (.iload 6, 2, (0, 0, 0))] = true ∧ plen 100 [(.istore 6, 2, (0, 0, 0)), (.iload 6, 2, (0, 0, 0))] = 104 := by decide +kernel
theorem ok_X11_needsOf_107_2 : oks m_X11_needsOf.1 m_X11_needsOf.2.2.1 107 [(.aload_n 0, 1, (0, 0, 0)), (.iload 4, 2, (0, 0, 0))] = true ∧ plen 107 [(.aload_n 0, 1, (0, 0, 0)), (.iload 4, 2, (0, 0, 0))] = 110 := by decide +kernel
theorem ok_X11_needsOf_116_1 : oks m_X11_needsOf.1 m_X11_needsOf.2.2.1 116 [(.iconst 0, 1, (0, 0, 0))] = true ∧ plen 116 [(.iconst 0, 1, (0, 0, 0))] = 117 := by decide +kernel
theorem ok_X11_needsOf_117_2 : oks m_X11_needsOf.1 m_X11_needsOf.2.2.1 117 [(.istore 7, 2, (0, 0, 0)), (.iload 6, 2, (0, 0, 0))] = true ∧ plen 117 [(.istore 7, 2, (0, 0, 0)), (.iload 6, 2, (0, 0, 0))] = 121 := by decide +kernel
theorem ok_X11_needsOf_124_2 : oks m_X11_needsOf.1 m_X11_needsOf.2.2.1 124 [(.iload 7, 2, (0, 0, 0)), (.bipush (-9), 2, (0, 0, 0))] = true ∧ plen 124 [(.iload 7, 2, (0, 0, 0)), (.bipush (-9), 2, (0, 0, 0))] = 128 := by decide +kernel
theorem ok_X11_needsOf_131_3 : oks m_X11_needsOf.1 m_X11_needsOf.2.2.1 131 [(.aload_n 0, 1, (0, 0, 0)), (.iload 4, 2, (0, 0, 0)), (.iload_n 1, 1, (0, 0, 0))] = true ∧ plen 131 [(.aload_n 0, 1, (0, 0, 0)), (.iload 4, 2, (0, 0, 0)), (.iload_n 1, 1, (0, 0, 0))] = 135 := by decide +kernel
theorem ok_X11_needsOf_138_2 : oks m_X11_needsOf.1 m_X11_needsOf.2.2.1 138 [(.iload 5, 2, (0, 0, 0)), (.iconst 1, 1, (0, 0, 0))] = true ∧ plen 138 [(.iload 5, 2, (0, 0, 0)), (.iconst 1, 1, (0, 0, 0))] = 141 := by decide +kernel
theorem ok_X11_needsOf_144_2 : oks m_X11_needsOf.1 m_X11_needsOf.2.2.1 144 [(.iload 5, 2, (0, 0, 0)), (.iconst 4, 1, (0, 0, 0))] = true ∧ plen 144 [(.iload 5, 2, (0, 0, 0)), (.iconst 4, 1, (0, 0, 0))] = 147 := by decide +kernel
theorem ok_X11_needsOf_150_2 : oks m_X11_needsOf.1 m_X11_needsOf.2.2.1 150 [(.iload 5, 2, (0, 0, 0)), (.iconst 3, 1, (0, 0, 0))] = true ∧ plen 150 [(.iload 5, 2, (0, 0, 0)), (.iconst 3, 1, (0, 0, 0))] = 153 := by decide +kernel
theorem ok_X11_needsOf_156_2 : oks m_X11_needsOf.1 m_X11_needsOf.2.2.1 156 [(.iload 5, 2, (0, 0, 0)), (.bipush 6, 2, (0, 0, 0))] = true ∧ plen 156 [(.iload 5, 2, (0, 0, 0)), (.bipush 6, 2, (0, 0, 0))] = 160 := by decide +kernel
theorem ok_X11_needsOf_163_2 : oks m_X11_needsOf.1 m_X11_needsOf.2.2.1 163 [(.iload 7, 2, (0, 0, 0)), (.bipush (-9), 2, (0, 0, 0))] = true ∧ plen 163 [(.iload 7, 2, (0, 0, 0)), (.bipush (-9), 2, (0, 0, 0))] = 167 := by decide +kernel
theorem ok_X11_needsOf_170_3 : oks m_X11_needsOf.1 m_X11_needsOf.2.2.1 170 [(.aload_n 0, 1, (0, 0, 0)), (.iload_n 3, 1, (0, 0, 0)), (.iload 7, 2, (0, 0, 0))] = true ∧ plen 170 [(.aload_n 0, 1, (0, 0, 0)), (.iload_n 3, 1, (0, 0, 0)), (.iload 7, 2, (0, 0, 0))] = 174 := by decide +kernel
theorem ok_X11_needsOf_180_1 : oks m_X11_needsOf.1 m_X11_needsOf.2.2.1 180 [(.iconst 1, 1, (0, 0, 0))] = true ∧ plen 180 [(.iconst 1, 1, (0, 0, 0))] = 181 := by decide +kernel
theorem ok_X11_needsOf_184_1 : oks m_X11_needsOf.1 m_X11_needsOf.2.2.1 184 [(.iconst 0, 1, (0, 0, 0))] = true ∧ plen 184 [(.iconst 0, 1, (0, 0, 0))] = 185 := by decide +kernel
theorem ok_X11_needsOf_185_3 : oks m_X11_needsOf.1 m_X11_needsOf.2.2.1 185 [(.istore 8, 2, (0, 0, 0)), (.iload 5, 2, (0, 0, 0)), (.bipush 6, 2, (0, 0, 0))] = true ∧ plen 185 [(.istore 8, 2, (0, 0, 0)), (.iload 5, 2, (0, 0, 0)), (.bipush 6, 2, (0, 0, 0))] = 191 := by decide +kernel
theorem ok_X11_needsOf_194_3 : oks m_X11_needsOf.1 m_X11_needsOf.2.2.1 194 [(.aload_n 0, 1, (0, 0, 0)), (.getfield 37, 3, (11, 12, 0)), (.iload_n 3, 1, (0, 0, 0))] = true ∧ plen 194 [(.aload_n 0, 1, (0, 0, 0)), (.getfield 37, 3, (11, 12, 0)), (.iload_n 3, 1, (0, 0, 0))] = 199 := by decide +kernel
theorem ok_X11_needsOf_200_1 : oks m_X11_needsOf.1 m_X11_needsOf.2.2.1 200 [(.iconst 2, 1, (0, 0, 0))] = true ∧ plen 200 [(.iconst 2, 1, (0, 0, 0))] = 201 := by decide +kernel
theorem ok_X11_needsOf_204_4 : oks m_X11_needsOf.1 m_X11_needsOf.2.2.1 204 [(.iload 7, 2, (0, 0, 0)), (.aload_n 0, 1, (0, 0, 0)), (.getfield 34, 3, (11, 11, 0)), (.iload_n 3, 1, (0, 0, 0))] = true ∧ plen 204 [(.iload 7, 2, (0, 0, 0)), (.aload_n 0, 1, (0, 0, 0)), (.getfield 34, 3, (11, 11, 0)), (.iload_n 3, 1, (0, 0, 0))] = 211 := by decide +kernel
theorem ok_X11_needsOf_212_1 : oks m_X11_needsOf.1 m_X11_needsOf.2.2.1 212 [(.isub, 1, (0, 0, 0))] = true ∧ plen 212 [(.isub, 1, (0, 0, 0))] = 213 := by decide +kernel
theorem ok_X11_needsOf_216_1 : oks m_X11_needsOf.1 m_X11_needsOf.2.2.1 216 [(.iconst 0, 1, (0, 0, 0))] = true ∧ plen 216 [(.iconst 0, 1, (0, 0, 0))] = 217 := by decide +kernel
theorem ok_X11_needsOf_217_3 : oks m_X11_needsOf.1 m_X11_needsOf.2.2.1 217 [(.istore 9, 2, (0, 0, 0)), (.iconst 0, 1, (0, 0, 0)), (.istore 10, 2, (0, 0, 0))] = true ∧ plen 217 [(.istore 9, 2, (0, 0, 0)), (.iconst 0, 1, (0, 0, 0)), (.istore 10, 2, (0, 0, 0))] = 222 := by decide +kernel
theorem ok_X11_needsOf_222_2 : oks m_X11_needsOf.1 m_X11_needsOf.2.2.1 222 [(.iload 10, 2, (0, 0, 0)), (.iconst 3, 1, (0, 0, 0))] = true ∧ plen 222 [(.iload 10, 2, (0, 0, 0)), (.iconst 3, 1, (0, 0, 0))] = 225 := by decide +kernel
theorem ok_X11_needsOf_228_1 : oks m_X11_needsOf.1 m_X11_needsOf.2.2.1 228 [(.iload 8, 2, (0, 0, 0))] = true ∧ plen 228 [(.iload 8, 2, (0, 0, 0))] = 230 := by decide +kernel
theorem ok_X11_needsOf_233_7 : oks m_X11_needsOf.1 m_X11_needsOf.2.2.1 233 [(.aload_n 0, 1, (0, 0, 0)), (.getfield 40, 3, (11, 13, 0)), (.iconst 3, 1, (0, 0, 0)), (.iload_n 3, 1, (0, 0, 0)), (.imul, 1, (0, 0, 0)), (.iload 10, 2, (0, 0, 0)), (.iadd, 1, (0, 0, 0))] = true ∧ plen 233 [(.aload_n 0, 1, (0, 0, 0)), (.getfield 40, 3, (11, 13, 0)), (.iconst 3, 1, (0, 0, 0)), (.iload_n 3, 1, (0, 0, 0)), (.imul, 1, (0, 0, 0)), (.iload 10, 2, (0, 0, 0)), (.iadd, 1, (0, 0, 0))] = 243 := by decide +kernel
theorem ok_X11_needsOf_244_1 : oks m_X11_needsOf.1 m_X11_needsOf.2.2.1 244 [(.iconst (-1), 1, (0, 0, 0))] = true ∧ plen 244 [(.iconst (-1), 1, (0, 0, 0))] = 245 := by decide +kernel
theorem ok_X11_needsOf_248_10 : oks m_X11_needsOf.1 m_X11_needsOf.2.2.1 248 [(.aload_n 0, 1, (0, 0, 0)), (.getfield 86, 3, (11, 30, 0)), (.iload_n 2, 1, (0, 0, 0)), (.aload_n 0, 1, (0, 0, 0)), (.getfield 40, 3, (11, 13, 0)), (.iconst 3, 1, (0, 0, 0)), (.iload_n 3, 1, (0, 0, 0)), (.imul, 1, (0, 0, 0)), (.iload 10, 2, (0, 0, 0)), (.iadd, 1, (0, 0, 0))] = true ∧ plen 248 [(.aload_n 0, 1, (0, 0, 0)), (.getfield 86, 3, (11, 30, 0)), (.iload_n 2, 1, (0, 0, 0)), (.aload_n 0, 1, (0, 0, 0)), (.getfield 40, 3, (11, 13, 0)), (.iconst 3, 1, (0, 0, 0)), (.iload_n 3, 1, (0, 0, 0)), (.imul, 1, (0, 0, 0)), (.iload 10, 2, (0, 0, 0)), (.iadd, 1, (0, 0, 0))] = 263 := by decide +kernel
theorem ok_X11_needsOf_265_5 : oks m_X11_needsOf.1 m_X11_needsOf.2.2.1 265 [(.aload_n 0, 1, (0, 0, 0)), (.getfield 158, 3, (11, 68, 0)), (.iload_n 2, 1, (0, 0, 0)), (.iload 5, 2, (0, 0, 0)), (.iconst 1, 1, (0, 0, 0))] = true ∧ plen 265 [(.aload_n 0, 1, (0, 0, 0)), (.getfield 158, 3, (11, 68, 0)), (.iload_n 2, 1, (0, 0, 0)), (.iload 5, 2, (0, 0, 0)), (.iconst 1, 1, (0, 0, 0))] = 273 := by decide +kernel
theorem ok_X11_needsOf_276_2 : oks m_X11_needsOf.1 m_X11_needsOf.2.2.1 276 [(.iload 5, 2, (0, 0, 0)), (.iconst 4, 1, (0, 0, 0))] = true ∧ plen 276 [(.iload 5, 2, (0, 0, 0)), (.iconst 4, 1, (0, 0, 0))] = 279 := by decide +kernel
theorem ok_X11_needsOf_282_1 : oks m_X11_needsOf.1 m_X11_needsOf.2.2.1 282 [(.iload 4, 2, (0, 0, 0))] = true ∧ plen 282 [(.iload 4, 2, (0, 0, 0))] = 284 := by decide +kernel
theorem ok_X11_needsOf_287_9 : oks m_X11_needsOf.1 m_X11_needsOf.2.2.1 287 [(.iconst 5, 1, (0, 0, 0)), (.iload 4, 2, (0, 0, 0)), (.imul, 1, (0, 0, 0)), (.iload 9, 2, (0, 0, 0)), (.iadd, 1, (0, 0, 0)), (.iload 10, 2, (0, 0, 0)), (.iadd, 1, (0, 0, 0)), (.iconst 1, 1, (0, 0, 0)), (.iadd, 1, (0, 0, 0))] = true ∧ plen 287 [(.iconst 5, 1, (0, 0, 0)), (.iload 4, 2, (0, 0, 0)), (.imul, 1, (0, 0, 0)), (.iload 9, 2, (0, 0, 0)), (.iadd, 1, (0, 0, 0)), (.iload 10, 2, (0, 0, 0)), (.iadd, 1, (0, 0, 0)), (.iconst 1, 1, (0, 0, 0)), (.iadd, 1, (0, 0, 0))] = 299 := by decide +kernel
theorem ok_X11_needsOf_300_1 : oks m_X11_needsOf.1 m_X11_needsOf.2.2.1 300 [(.iinc 2 1, 3, (0, 0, 0))] = true ∧ plen 300 [(.iinc 2 1, 3, (0, 0, 0))] = 303 := by decide +kernel
theorem ok_X11_needsOf_303_1 : oks m_X11_needsOf.1 m_X11_needsOf.2.2.1 303 [(.iinc 10 1, 3, (0, 0, 0))] = true ∧ plen 303 [(.iinc 10 1, 3, (0, 0, 0))] = 306 := by decide +kernel
def L_X11_needsOf_4 (x1 : Int) (x2 : Int) (x3 : Int) (σ : Sg) : Option ((Int × Int × Sg) ⊕ (Int × Sg)) :=
if (σ 0 21) ≤ x3 then
some (.inr (x2, σ))
else
(rdn 24 σ 20 (wrap ((wrap (3 * x1)) + x3))).bind fun v1 =>
(wrn 256 σ 26 x2 v1).bind fun s3 =>
(wrn 256 s3 50 x2 (wrap (x3 + 1))).bind fun s5 =>
some (.inl (wrap (x2 + 1), wrap (x3 + 1), s5))
def B_X11_needsOf_303 (x2 : Int) (x10 : Int) (σ : Sg) : Option ((Int × Int × Sg) ⊕ (Int × Sg)) :=
some (.inl (x2, wrap (x10 + 1), σ))
def B_X11_needsOf_299 (x2 : Int) (x10 : Int) (y0 : Int) (y1 : Int) (σ : Sg) : Option ((Int × Int × Sg) ⊕ (Int × Sg)) :=
(wrn 256 σ 50 y1 y0).bind fun s21 =>
B_X11_needsOf_303 (wrap (x2 + 1)) x10 s21
def B_X11_needsOf_282 (x2 : Int) (x4 : Int) (x10 : Int) (y0 : Int) (σ : Sg) : Option ((Int × Int × Sg) ⊕ (Int × Sg)) :=
B_X11_needsOf_299 x2 x10 x4 y0 σ
def L_X11_needsOf_222 (x3 : Int) (x4 : Int) (x5 : Int) (x8 : Bool) (x9 : Int) (x2 : Int) (x10 : Int) (σ : Sg) : Option ((Int × Int × Sg) ⊕ (Int × Sg)) :=
if 3 ≤ x10 then
some (.inr (x2, σ))
else
if x8 = true then
(rdn 180 σ 11 (wrap ((wrap (3 * x3)) + x10))).bind fun v15 =>
if v15 = (-1) then
B_X11_needsOf_303 x2 x10 σ
else
(rdn 180 σ 11 (wrap ((wrap (3 * x3)) + x10))).bind fun v17 =>
(wrn 256 σ 26 x2 v17).bind fun s19 =>
if x5 = 1 then
B_X11_needsOf_282 x2 x4 x10 x2 s19
else
if x5 = 4 then
B_X11_needsOf_282 x2 x4 x10 x2 s19
else
B_X11_needsOf_299 x2 x10 (wrap ((wrap ((wrap ((wrap (5 * x4)) + x9)) + x10)) + 1)) x2 s19
else
some (.inr (x2, σ))
def B_X11_needsOf_217 (x2 : Int) (x3 : Int) (x4 : Int) (x5 : Int) (x8 : Bool) (y0 : Int) (σ : Sg) : Option ((Int × Sg) ⊕ Sg) :=
(iter (fun a : (Int × Int × Sg) => L_X11_needsOf_222 x3 x4 x5 x8 y0 a.1 a.2.1 a.2.2) 4 (x2, 0, σ)).bind fun y23 =>
some (.inl (y23.1, y23.2))
def B_X11_needsOf_216 (x2 : Int) (x3 : Int) (x4 : Int) (x5 : Int) (x8 : Bool) (σ : Sg) : Option ((Int × Sg) ⊕ Sg) :=
B_X11_needsOf_217 x2 x3 x4 x5 x8 0 σ
def B_X11_needsOf_185 (x2 : Int) (x3 : Int) (x4 : Int) (x5 : Int) (x7 : Int) (y0 : Bool) (σ : Sg) : Option ((Int × Sg) ⊕ Sg) :=
if x5 = 6 then
(rdn 60 σ 10 x3).bind fun v25 =>
if v25 = 2 then
(rdn 60 σ 9 x3).bind fun v27 =>
B_X11_needsOf_217 x2 x3 x4 x5 y0 (wrap (x7 - v27)) σ
else
B_X11_needsOf_216 x2 x3 x4 x5 y0 σ
else
B_X11_needsOf_216 x2 x3 x4 x5 y0 σ
def B_X11_needsOf_180 (x2 : Int) (x3 : Int) (x4 : Int) (x5 : Int) (x7 : Int) (σ : Sg) : Option ((Int × Sg) ⊕ Sg) :=
B_X11_needsOf_185 x2 x3 x4 x5 x7 true σ
def B_X11_needsOf_184 (x2 : Int) (x3 : Int) (x4 : Int) (x5 : Int) (x7 : Int) (σ : Sg) : Option ((Int × Sg) ⊕ Sg) :=
B_X11_needsOf_185 x2 x3 x4 x5 x7 false σ
def B_X11_needsOf_163 (x2 : Int) (x3 : Int) (x4 : Int) (x5 : Int) (x7 : Int) (σ : Sg) : Option ((Int × Sg) ⊕ Sg) :=
if x7 = (-9) then
B_X11_needsOf_184 x2 x3 x4 x5 x7 σ
else
(F_X11_isRight x3 x7 σ).bind fun q29 =>
if q29 = true then
B_X11_needsOf_180 x2 x3 x4 x5 x7 σ
else
B_X11_needsOf_184 x2 x3 x4 x5 x7 σ
def B_X11_needsOf_138 (x2 : Int) (x3 : Int) (x4 : Int) (x5 : Int) (x7 : Int) (σ : Sg) : Option ((Int × Sg) ⊕ Sg) :=
if x5 = 1 then
B_X11_needsOf_180 x2 x3 x4 x5 x7 σ
else
if x5 = 4 then
B_X11_needsOf_180 x2 x3 x4 x5 x7 σ
else
if x5 = 3 then
B_X11_needsOf_163 x2 x3 x4 x5 x7 σ
else
if x5 = 6 then
B_X11_needsOf_163 x2 x3 x4 x5 x7 σ
else
B_X11_needsOf_184 x2 x3 x4 x5 x7 σ
def B_X11_needsOf_117 (x1 : Int) (x2 : Int) (x3 : Int) (x4 : Int) (x5 : Int) (x6 : Bool) (y0 : Int) (σ : Sg) : Option ((Int × Sg) ⊕ Sg) :=
if x6 = true then
if y0 = (-9) then
(F_X11_need x4 x1 σ).bind fun q31 =>
B_X11_needsOf_138 x2 x3 x4 x5 y0 q31
else
B_X11_needsOf_138 x2 x3 x4 x5 y0 σ
else
B_X11_needsOf_138 x2 x3 x4 x5 y0 σ
def B_X11_needsOf_100 (x1 : Int) (x2 : Int) (x3 : Int) (x4 : Int) (x5 : Int) (y0 : Bool) (σ : Sg) : Option ((Int × Sg) ⊕ Sg) :=
if y0 = true then
(F_X11_factAt x4 σ).bind fun q33 =>
B_X11_needsOf_117 x1 x2 x3 x4 x5 y0 q33.1 q33.2
else
B_X11_needsOf_117 x1 x2 x3 x4 x5 y0 0 σ
def B_X11_needsOf_95 (x1 : Int) (x2 : Int) (x3 : Int) (x4 : Int) (x5 : Int) (σ : Sg) : Option ((Int × Sg) ⊕ Sg) :=
B_X11_needsOf_100 x1 x2 x3 x4 x5 true σ
def L_X11_needsOf_46 (x1 : Int) (x2 : Int) (σ : Sg) : Option ((Int × Sg) ⊕ Sg) :=
if x2 ≤ 0 then
some (.inr σ)
else
(rdn 256 σ 26 (wrap (x2 + (-1)))).bind fun v9 =>
(rdn 256 σ 50 (wrap (x2 + (-1)))).bind fun v11 =>
(rdn 60 σ 8 v9).bind fun v13 =>
if v13 = 2 then
B_X11_needsOf_95 x1 (wrap (x2 + (-1))) v9 v11 v13 σ
else
if v13 = 3 then
B_X11_needsOf_95 x1 (wrap (x2 + (-1))) v9 v11 v13 σ
else
if v13 = 6 then
B_X11_needsOf_95 x1 (wrap (x2 + (-1))) v9 v11 v13 σ
else
B_X11_needsOf_100 x1 (wrap (x2 + (-1))) v9 v11 v13 false σ
def F_X11_needsOf (a1 : Int) (σ : Sg) : Option Sg :=
(iter (fun a : (Int × Int × Sg) => L_X11_needsOf_4 a1 a.1 a.2.1 a.2.2) 3000 (0, 0, σ)).bind fun y7 =>
(iter (fun a : (Int × Sg) => L_X11_needsOf_46 a1 a.1 a.2) 3000 (y7.1, y7.2)).bind fun y35 =>
some y35
theorem lk_X11_needsOf (l : Launch) (d : Nat) (hd : 4 ≤ d) (a1 : Int) (σ : Sg) (q : Sg) (h : F_X11_needsOf a1 σ = some q) : CT l d m_X11_needsOf.2.1 m_X11_needsOf.2.2.1 m_X11_needsOf.2.2.2.1 m_X11_needsOf.2.2.2.2 [.inr 0, .inl a1] (LAYM, σ) none (LAYM, q) := by
  obtain ⟨d, rfl⟩ : ∃ e, d = e + 1 := ⟨d - 1, by omega⟩
  have key : Go l m_X11_needsOf (d + 1) LAYM (.inl none) q 0 [some (.inr 0), some (.inl a1), none, none, none, none, none, none, none, none, none] [] σ := by
    unfold F_X11_needsOf at h
    have hL_X11_needsOf_4 : ∀ (x1 : Int) (n : Nat) (a : (Int × Int × Sg)) (y : (Int × Sg)), iter (fun a : (Int × Int × Sg) => L_X11_needsOf_4 x1 a.1 a.2.1 a.2.2) n a = some y → (fun y : (Int × Sg) => Go l m_X11_needsOf (d + 1) LAYM (.inl none) q 46 [some (.inr 0), some (.inl x1), some (.inl y.1), none, none, none, none, none, none, none, none] [] y.2) y → (fun a : (Int × Int × Sg) => Go l m_X11_needsOf (d + 1) LAYM (.inl none) q 4 [some (.inr 0), some (.inl x1), some (.inl a.1), some (.inl a.2.1), none, none, none, none, none, none, none] [] a.2.2) a := by
      intro x1
      refine go_iter (G := fun a : (Int × Int × Sg) => Go l m_X11_needsOf (d + 1) LAYM (.inl none) q 4 [some (.inr 0), some (.inl x1), some (.inl a.1), some (.inl a.2.1), none, none, none, none, none, none, none] [] a.2.2) (K := fun y : (Int × Sg) => Go l m_X11_needsOf (d + 1) LAYM (.inl none) q 46 [some (.inr 0), some (.inl x1), some (.inl y.1), none, none, none, none, none, none, none, none] [] y.2) ?_
      rintro ⟨x2, x3, σ⟩ w h hK
      replace h : L_X11_needsOf_4 x1 x2 x3 σ = some w := h
      show Go l m_X11_needsOf (d + 1) LAYM (.inl none) q 4 [some (.inr 0), some (.inl x1), some (.inl x2), some (.inl x3), none, none, none, none, none, none, none] [] σ
      unfold L_X11_needsOf_4 at h
      refine go_ops ok_X11_needsOf_4_3 (L' := [some (.inr 0), some (.inl x1), some (.inl x2), some (.inl x3), none, none, none, none, none, none, none]) (st' := [.inl (σ 0 21), .inl x3]) (σ1 := σ) rfl ?_
      refine go_icmp_ge dc_X11_needsOf_9 (by rfl) (fun hc => ?_) (fun hc => ?_)
      · replace h := (if_pos hc).symm.trans h
        cases h
        refine go_wk (L' := [some (.inr 0), some (.inl x1), some (.inl x2), none, none, none, none, none, none, none, none]) ⟨rfl, rfl, rfl, trivial⟩ ?_
        exact hK
      · replace h := (if_neg hc).symm.trans h
        refine go_ops ok_X11_needsOf_12_10 (L' := [some (.inr 0), some (.inl x1), some (.inl x2), some (.inl x3), none, none, none, none, none, none, none]) (st' := [.inl (wrap ((wrap (3 * x1)) + x3)), .inr 20, .inl x2, .inr 26]) (σ1 := σ) rfl ?_
        obtain ⟨v1, e2, h⟩ := bind_inv h
        refine go_rd (k := 20) dc_X11_needsOf_26 rfl e2 ?_
        obtain ⟨s3, e4, h⟩ := bind_inv h
        refine go_wr (k := 26) dc_X11_needsOf_27 rfl e4 ?_
        refine go_ops ok_X11_needsOf_28_6 (L' := [some (.inr 0), some (.inl x1), some (.inl x2), some (.inl x3), none, none, none, none, none, none, none]) (st' := [.inl (wrap (x3 + 1)), .inl x2, .inr 50]) (σ1 := s3) rfl ?_
        obtain ⟨s5, e6, h⟩ := bind_inv h
        refine go_wr (k := 50) dc_X11_needsOf_36 rfl e6 ?_
        refine go_ops ok_X11_needsOf_37_2 (L' := [some (.inr 0), some (.inl x1), some (.inl (wrap (x2 + 1))), some (.inl (wrap (x3 + 1))), none, none, none, none, none, none, none]) (st' := []) (σ1 := s5) rfl ?_
        refine go_goto dc_X11_needsOf_43 (by rfl) ?_
        cases h
        exact hK
    have hL_X11_needsOf_46 : ∀ (x1 : Int) (n : Nat) (a : (Int × Sg)) (y : Sg), iter (fun a : (Int × Sg) => L_X11_needsOf_46 x1 a.1 a.2) n a = some y → (fun y : Sg => Go l m_X11_needsOf (d + 1) LAYM (.inl none) q 312 [none, none, none, none, none, none, none, none, none, none, none] [] y) y → (fun a : (Int × Sg) => Go l m_X11_needsOf (d + 1) LAYM (.inl none) q 46 [some (.inr 0), some (.inl x1), some (.inl a.1), none, none, none, none, none, none, none, none] [] a.2) a := by
      intro x1
      refine go_iter (G := fun a : (Int × Sg) => Go l m_X11_needsOf (d + 1) LAYM (.inl none) q 46 [some (.inr 0), some (.inl x1), some (.inl a.1), none, none, none, none, none, none, none, none] [] a.2) (K := fun y : Sg => Go l m_X11_needsOf (d + 1) LAYM (.inl none) q 312 [none, none, none, none, none, none, none, none, none, none, none] [] y) ?_
      rintro ⟨x2, σ⟩ w h hK
      replace h : L_X11_needsOf_46 x1 x2 σ = some w := h
      show Go l m_X11_needsOf (d + 1) LAYM (.inl none) q 46 [some (.inr 0), some (.inl x1), some (.inl x2), none, none, none, none, none, none, none, none] [] σ
      unfold L_X11_needsOf_46 at h
      have hL_X11_needsOf_222 : ∀ (x1 : Int) (x3 : Int) (x4 : Int) (x5 : Int) (x8 : Bool) (x9 : Int) (n : Nat) (a : (Int × Int × Sg)) (y : (Int × Sg)), iter (fun a : (Int × Int × Sg) => L_X11_needsOf_222 x3 x4 x5 x8 x9 a.1 a.2.1 a.2.2) n a = some y → (fun y : (Int × Sg) => Go l m_X11_needsOf (d + 1) LAYM (.inl none) q 309 [some (.inr 0), some (.inl x1), some (.inl y.1), none, none, none, none, none, none, none, none] [] y.2) y → (fun a : (Int × Int × Sg) => Go l m_X11_needsOf (d + 1) LAYM (.inl none) q 222 [some (.inr 0), some (.inl x1), some (.inl a.1), some (.inl x3), some (.inl x4), some (.inl x5), none, none, some (.inl (b2i x8)), some (.inl x9), some (.inl a.2.1)] [] a.2.2) a := by
        intro x1 x3 x4 x5 x8 x9
        refine go_iter (G := fun a : (Int × Int × Sg) => Go l m_X11_needsOf (d + 1) LAYM (.inl none) q 222 [some (.inr 0), some (.inl x1), some (.inl a.1), some (.inl x3), some (.inl x4), some (.inl x5), none, none, some (.inl (b2i x8)), some (.inl x9), some (.inl a.2.1)] [] a.2.2) (K := fun y : (Int × Sg) => Go l m_X11_needsOf (d + 1) LAYM (.inl none) q 309 [some (.inr 0), some (.inl x1), some (.inl y.1), none, none, none, none, none, none, none, none] [] y.2) ?_
        rintro ⟨x2, x10, σ⟩ w h hK
        replace h : L_X11_needsOf_222 x3 x4 x5 x8 x9 x2 x10 σ = some w := h
        show Go l m_X11_needsOf (d + 1) LAYM (.inl none) q 222 [some (.inr 0), some (.inl x1), some (.inl x2), some (.inl x3), some (.inl x4), some (.inl x5), none, none, some (.inl (b2i x8)), some (.inl x9), some (.inl x10)] [] σ
        unfold L_X11_needsOf_222 at h
        have hB_X11_needsOf_303 : ∀ (x2 : Int) (x10 : Int) (σ : Sg), B_X11_needsOf_303 x2 x10 σ = some w → Go l m_X11_needsOf (d + 1) LAYM (.inl none) q 303 [some (.inr 0), some (.inl x1), some (.inl x2), some (.inl x3), some (.inl x4), some (.inl x5), none, none, some (.inl (b2i x8)), some (.inl x9), some (.inl x10)] [] σ := by
          intro x2 x10 σ h
          unfold B_X11_needsOf_303 at h
          refine go_ops ok_X11_needsOf_303_1 (L' := [some (.inr 0), some (.inl x1), some (.inl x2), some (.inl x3), some (.inl x4), some (.inl x5), none, none, some (.inl (b2i x8)), some (.inl x9), some (.inl (wrap (x10 + 1)))]) (st' := []) (σ1 := σ) rfl ?_
          refine go_goto dc_X11_needsOf_306 (by rfl) ?_
          cases h
          exact hK
        have hB_X11_needsOf_299 : ∀ (x2 : Int) (x10 : Int) (y0 : Int) (y1 : Int) (σ : Sg), B_X11_needsOf_299 x2 x10 y0 y1 σ = some w → Go l m_X11_needsOf (d + 1) LAYM (.inl none) q 299 [some (.inr 0), some (.inl x1), some (.inl x2), some (.inl x3), some (.inl x4), some (.inl x5), none, none, some (.inl (b2i x8)), some (.inl x9), some (.inl x10)] [.inl y0, .inl y1, .inr 50] σ := by
          intro x2 x10 y0 y1 σ h
          unfold B_X11_needsOf_299 at h
          obtain ⟨s21, e22, h⟩ := bind_inv h
          refine go_wr (k := 50) dc_X11_needsOf_299 rfl e22 ?_
          refine go_ops ok_X11_needsOf_300_1 (L' := [some (.inr 0), some (.inl x1), some (.inl (wrap (x2 + 1))), some (.inl x3), some (.inl x4), some (.inl x5), none, none, some (.inl (b2i x8)), some (.inl x9), some (.inl x10)]) (st' := []) (σ1 := s21) rfl ?_
          exact hB_X11_needsOf_303 (wrap (x2 + 1)) x10 s21 h
        have hB_X11_needsOf_282 : ∀ (x2 : Int) (x10 : Int) (y0 : Int) (σ : Sg), B_X11_needsOf_282 x2 x4 x10 y0 σ = some w → Go l m_X11_needsOf (d + 1) LAYM (.inl none) q 282 [some (.inr 0), some (.inl x1), some (.inl x2), some (.inl x3), some (.inl x4), some (.inl x5), none, none, some (.inl (b2i x8)), some (.inl x9), some (.inl x10)] [.inl y0, .inr 50] σ := by
          intro x2 x10 y0 σ h
          unfold B_X11_needsOf_282 at h
          refine go_ops ok_X11_needsOf_282_1 (L' := [some (.inr 0), some (.inl x1), some (.inl x2), some (.inl x3), some (.inl x4), some (.inl x5), none, none, some (.inl (b2i x8)), some (.inl x9), some (.inl x10)]) (st' := [.inl x4, .inl y0, .inr 50]) (σ1 := σ) rfl ?_
          refine go_goto dc_X11_needsOf_284 (by rfl) ?_
          exact hB_X11_needsOf_299 x2 x10 x4 y0 σ h
        refine go_ops ok_X11_needsOf_222_2 (L' := [some (.inr 0), some (.inl x1), some (.inl x2), some (.inl x3), some (.inl x4), some (.inl x5), none, none, some (.inl (b2i x8)), some (.inl x9), some (.inl x10)]) (st' := [.inl 3, .inl x10]) (σ1 := σ) rfl ?_
        refine go_icmp_ge dc_X11_needsOf_225 (by rfl) (fun hc => ?_) (fun hc => ?_)
        · replace h := (if_pos hc).symm.trans h
          cases h
          refine go_wk (L' := [some (.inr 0), some (.inl x1), some (.inl x2), none, none, none, none, none, none, none, none]) ⟨rfl, rfl, rfl, trivial⟩ ?_
          exact hK
        · replace h := (if_neg hc).symm.trans h
          refine go_ops ok_X11_needsOf_228_1 (L' := [some (.inr 0), some (.inl x1), some (.inl x2), some (.inl x3), some (.inl x4), some (.inl x5), none, none, some (.inl (b2i x8)), some (.inl x9), some (.inl x10)]) (st' := [.inl (b2i x8)]) (σ1 := σ) rfl ?_
          refine go_ifb_eq dc_X11_needsOf_230 (by rfl) (fun hc => ?_) (fun hc => ?_)
          · replace h := (if_neg hc).symm.trans h
            cases h
            refine go_wk (L' := [some (.inr 0), some (.inl x1), some (.inl x2), none, none, none, none, none, none, none, none]) ⟨rfl, rfl, rfl, trivial⟩ ?_
            exact hK
          · replace h := (if_pos hc).symm.trans h
            refine go_ops ok_X11_needsOf_233_7 (L' := [some (.inr 0), some (.inl x1), some (.inl x2), some (.inl x3), some (.inl x4), some (.inl x5), none, none, some (.inl (b2i x8)), some (.inl x9), some (.inl x10)]) (st' := [.inl (wrap ((wrap (3 * x3)) + x10)), .inr 11]) (σ1 := σ) rfl ?_
            obtain ⟨v15, e16, h⟩ := bind_inv h
            refine go_rd (k := 11) dc_X11_needsOf_243 rfl e16 ?_
            refine go_ops ok_X11_needsOf_244_1 (L' := [some (.inr 0), some (.inl x1), some (.inl x2), some (.inl x3), some (.inl x4), some (.inl x5), none, none, some (.inl (b2i x8)), some (.inl x9), some (.inl x10)]) (st' := [.inl (-1), .inl v15]) (σ1 := σ) rfl ?_
            refine go_icmp_eq dc_X11_needsOf_245 (by rfl) (fun hc => ?_) (fun hc => ?_)
            · replace h := (if_pos hc).symm.trans h
              exact hB_X11_needsOf_303 x2 x10 σ h
            · replace h := (if_neg hc).symm.trans h
              refine go_ops ok_X11_needsOf_248_10 (L' := [some (.inr 0), some (.inl x1), some (.inl x2), some (.inl x3), some (.inl x4), some (.inl x5), none, none, some (.inl (b2i x8)), some (.inl x9), some (.inl x10)]) (st' := [.inl (wrap ((wrap (3 * x3)) + x10)), .inr 11, .inl x2, .inr 26]) (σ1 := σ) rfl ?_
              obtain ⟨v17, e18, h⟩ := bind_inv h
              refine go_rd (k := 11) dc_X11_needsOf_263 rfl e18 ?_
              obtain ⟨s19, e20, h⟩ := bind_inv h
              refine go_wr (k := 26) dc_X11_needsOf_264 rfl e20 ?_
              refine go_ops ok_X11_needsOf_265_5 (L' := [some (.inr 0), some (.inl x1), some (.inl x2), some (.inl x3), some (.inl x4), some (.inl x5), none, none, some (.inl (b2i x8)), some (.inl x9), some (.inl x10)]) (st' := [.inl 1, .inl x5, .inl x2, .inr 50]) (σ1 := s19) rfl ?_
              refine go_icmp_eq dc_X11_needsOf_273 (by rfl) (fun hc => ?_) (fun hc => ?_)
              · replace h := (if_pos hc).symm.trans h
                exact hB_X11_needsOf_282 x2 x10 x2 s19 h
              · replace h := (if_neg hc).symm.trans h
                refine go_ops ok_X11_needsOf_276_2 (L' := [some (.inr 0), some (.inl x1), some (.inl x2), some (.inl x3), some (.inl x4), some (.inl x5), none, none, some (.inl (b2i x8)), some (.inl x9), some (.inl x10)]) (st' := [.inl 4, .inl x5, .inl x2, .inr 50]) (σ1 := s19) rfl ?_
                refine go_icmp_ne dc_X11_needsOf_279 (by rfl) (fun hc => ?_) (fun hc => ?_)
                · replace h := (if_neg hc).symm.trans h
                  refine go_ops ok_X11_needsOf_287_9 (L' := [some (.inr 0), some (.inl x1), some (.inl x2), some (.inl x3), some (.inl x4), some (.inl x5), none, none, some (.inl (b2i x8)), some (.inl x9), some (.inl x10)]) (st' := [.inl (wrap ((wrap ((wrap ((wrap (5 * x4)) + x9)) + x10)) + 1)), .inl x2, .inr 50]) (σ1 := s19) rfl ?_
                  exact hB_X11_needsOf_299 x2 x10 (wrap ((wrap ((wrap ((wrap (5 * x4)) + x9)) + x10)) + 1)) x2 s19 h
                · replace h := (if_pos hc).symm.trans h
                  exact hB_X11_needsOf_282 x2 x10 x2 s19 h
      have hB_X11_needsOf_217 : ∀ (x2 : Int) (x3 : Int) (x4 : Int) (x5 : Int) (x8 : Bool) (y0 : Int) (σ : Sg), B_X11_needsOf_217 x2 x3 x4 x5 x8 y0 σ = some w → Go l m_X11_needsOf (d + 1) LAYM (.inl none) q 217 [some (.inr 0), some (.inl x1), some (.inl x2), some (.inl x3), some (.inl x4), some (.inl x5), none, none, some (.inl (b2i x8)), none, none] [.inl y0] σ := by
        intro x2 x3 x4 x5 x8 y0 σ h
        unfold B_X11_needsOf_217 at h
        refine go_ops ok_X11_needsOf_217_3 (L' := [some (.inr 0), some (.inl x1), some (.inl x2), some (.inl x3), some (.inl x4), some (.inl x5), none, none, some (.inl (b2i x8)), some (.inl y0), some (.inl 0)]) (st' := []) (σ1 := σ) rfl ?_
        obtain ⟨y23, e24, h⟩ := bind_inv h
        refine hL_X11_needsOf_222 x1 x3 x4 x5 x8 y0 4 (x2, 0, σ) y23 e24 ?_
        show Go l m_X11_needsOf (d + 1) LAYM (.inl none) q 309 [some (.inr 0), some (.inl x1), some (.inl y23.1), none, none, none, none, none, none, none, none] [] y23.2
        refine go_goto dc_X11_needsOf_309 (by rfl) ?_
        cases h
        exact hK
      have hB_X11_needsOf_216 : ∀ (x2 : Int) (x3 : Int) (x4 : Int) (x5 : Int) (x8 : Bool) (σ : Sg), B_X11_needsOf_216 x2 x3 x4 x5 x8 σ = some w → Go l m_X11_needsOf (d + 1) LAYM (.inl none) q 216 [some (.inr 0), some (.inl x1), some (.inl x2), some (.inl x3), some (.inl x4), some (.inl x5), none, none, some (.inl (b2i x8)), none, none] [] σ := by
        intro x2 x3 x4 x5 x8 σ h
        unfold B_X11_needsOf_216 at h
        refine go_ops ok_X11_needsOf_216_1 (L' := [some (.inr 0), some (.inl x1), some (.inl x2), some (.inl x3), some (.inl x4), some (.inl x5), none, none, some (.inl (b2i x8)), none, none]) (st' := [.inl 0]) (σ1 := σ) rfl ?_
        exact hB_X11_needsOf_217 x2 x3 x4 x5 x8 0 σ h
      have hB_X11_needsOf_185 : ∀ (x2 : Int) (x3 : Int) (x4 : Int) (x5 : Int) (x7 : Int) (y0 : Bool) (σ : Sg), B_X11_needsOf_185 x2 x3 x4 x5 x7 y0 σ = some w → Go l m_X11_needsOf (d + 1) LAYM (.inl none) q 185 [some (.inr 0), some (.inl x1), some (.inl x2), some (.inl x3), some (.inl x4), some (.inl x5), none, some (.inl x7), none, none, none] [.inl (b2i y0)] σ := by
        intro x2 x3 x4 x5 x7 y0 σ h
        unfold B_X11_needsOf_185 at h
        refine go_ops ok_X11_needsOf_185_3 (L' := [some (.inr 0), some (.inl x1), some (.inl x2), some (.inl x3), some (.inl x4), some (.inl x5), none, some (.inl x7), some (.inl (b2i y0)), none, none]) (st' := [.inl 6, .inl x5]) (σ1 := σ) rfl ?_
        refine go_icmp_ne dc_X11_needsOf_191 (by rfl) (fun hc => ?_) (fun hc => ?_)
        · replace h := (if_neg hc).symm.trans h
          refine go_wk (L' := [some (.inr 0), some (.inl x1), some (.inl x2), some (.inl x3), some (.inl x4), some (.inl x5), none, none, some (.inl (b2i y0)), none, none]) ⟨rfl, rfl, rfl, rfl, rfl, rfl, rfl, trivial⟩ ?_
          exact hB_X11_needsOf_216 x2 x3 x4 x5 y0 σ h
        · replace h := (if_pos hc).symm.trans h
          refine go_ops ok_X11_needsOf_194_3 (L' := [some (.inr 0), some (.inl x1), some (.inl x2), some (.inl x3), some (.inl x4), some (.inl x5), none, some (.inl x7), some (.inl (b2i y0)), none, none]) (st' := [.inl x3, .inr 10]) (σ1 := σ) rfl ?_
          obtain ⟨v25, e26, h⟩ := bind_inv h
          refine go_rd (k := 10) dc_X11_needsOf_199 rfl e26 ?_
          refine go_ops ok_X11_needsOf_200_1 (L' := [some (.inr 0), some (.inl x1), some (.inl x2), some (.inl x3), some (.inl x4), some (.inl x5), none, some (.inl x7), some (.inl (b2i y0)), none, none]) (st' := [.inl 2, .inl v25]) (σ1 := σ) rfl ?_
          refine go_icmp_ne dc_X11_needsOf_201 (by rfl) (fun hc => ?_) (fun hc => ?_)
          · replace h := (if_neg hc).symm.trans h
            refine go_wk (L' := [some (.inr 0), some (.inl x1), some (.inl x2), some (.inl x3), some (.inl x4), some (.inl x5), none, none, some (.inl (b2i y0)), none, none]) ⟨rfl, rfl, rfl, rfl, rfl, rfl, rfl, trivial⟩ ?_
            exact hB_X11_needsOf_216 x2 x3 x4 x5 y0 σ h
          · replace h := (if_pos hc).symm.trans h
            refine go_ops ok_X11_needsOf_204_4 (L' := [some (.inr 0), some (.inl x1), some (.inl x2), some (.inl x3), some (.inl x4), some (.inl x5), none, some (.inl x7), some (.inl (b2i y0)), none, none]) (st' := [.inl x3, .inr 9, .inl x7]) (σ1 := σ) rfl ?_
            obtain ⟨v27, e28, h⟩ := bind_inv h
            refine go_rd (k := 9) dc_X11_needsOf_211 rfl e28 ?_
            refine go_ops ok_X11_needsOf_212_1 (L' := [some (.inr 0), some (.inl x1), some (.inl x2), some (.inl x3), some (.inl x4), some (.inl x5), none, some (.inl x7), some (.inl (b2i y0)), none, none]) (st' := [.inl (wrap (x7 - v27))]) (σ1 := σ) rfl ?_
            refine go_goto dc_X11_needsOf_213 (by rfl) ?_
            refine go_wk (L' := [some (.inr 0), some (.inl x1), some (.inl x2), some (.inl x3), some (.inl x4), some (.inl x5), none, none, some (.inl (b2i y0)), none, none]) ⟨rfl, rfl, rfl, rfl, rfl, rfl, rfl, trivial⟩ ?_
            exact hB_X11_needsOf_217 x2 x3 x4 x5 y0 (wrap (x7 - v27)) σ h
      have hB_X11_needsOf_180 : ∀ (x2 : Int) (x3 : Int) (x4 : Int) (x5 : Int) (x7 : Int) (σ : Sg), B_X11_needsOf_180 x2 x3 x4 x5 x7 σ = some w → Go l m_X11_needsOf (d + 1) LAYM (.inl none) q 180 [some (.inr 0), some (.inl x1), some (.inl x2), some (.inl x3), some (.inl x4), some (.inl x5), none, some (.inl x7), none, none, none] [] σ := by
        intro x2 x3 x4 x5 x7 σ h
        unfold B_X11_needsOf_180 at h
        refine go_ops ok_X11_needsOf_180_1 (L' := [some (.inr 0), some (.inl x1), some (.inl x2), some (.inl x3), some (.inl x4), some (.inl x5), none, some (.inl x7), none, none, none]) (st' := [.inl 1]) (σ1 := σ) rfl ?_
        refine go_goto dc_X11_needsOf_181 (by rfl) ?_
        exact hB_X11_needsOf_185 x2 x3 x4 x5 x7 true σ h
      have hB_X11_needsOf_184 : ∀ (x2 : Int) (x3 : Int) (x4 : Int) (x5 : Int) (x7 : Int) (σ : Sg), B_X11_needsOf_184 x2 x3 x4 x5 x7 σ = some w → Go l m_X11_needsOf (d + 1) LAYM (.inl none) q 184 [some (.inr 0), some (.inl x1), some (.inl x2), some (.inl x3), some (.inl x4), some (.inl x5), none, some (.inl x7), none, none, none] [] σ := by
        intro x2 x3 x4 x5 x7 σ h
        unfold B_X11_needsOf_184 at h
        refine go_ops ok_X11_needsOf_184_1 (L' := [some (.inr 0), some (.inl x1), some (.inl x2), some (.inl x3), some (.inl x4), some (.inl x5), none, some (.inl x7), none, none, none]) (st' := [.inl 0]) (σ1 := σ) rfl ?_
        exact hB_X11_needsOf_185 x2 x3 x4 x5 x7 false σ h
      have hB_X11_needsOf_163 : ∀ (x2 : Int) (x3 : Int) (x4 : Int) (x5 : Int) (x7 : Int) (σ : Sg), B_X11_needsOf_163 x2 x3 x4 x5 x7 σ = some w → Go l m_X11_needsOf (d + 1) LAYM (.inl none) q 163 [some (.inr 0), some (.inl x1), some (.inl x2), some (.inl x3), some (.inl x4), some (.inl x5), none, some (.inl x7), none, none, none] [] σ := by
        intro x2 x3 x4 x5 x7 σ h
        unfold B_X11_needsOf_163 at h
        refine go_ops ok_X11_needsOf_163_2 (L' := [some (.inr 0), some (.inl x1), some (.inl x2), some (.inl x3), some (.inl x4), some (.inl x5), none, some (.inl x7), none, none, none]) (st' := [.inl (-9), .inl x7]) (σ1 := σ) rfl ?_
        refine go_icmp_eq dc_X11_needsOf_167 (by rfl) (fun hc => ?_) (fun hc => ?_)
        · replace h := (if_pos hc).symm.trans h
          exact hB_X11_needsOf_184 x2 x3 x4 x5 x7 σ h
        · replace h := (if_neg hc).symm.trans h
          refine go_ops ok_X11_needsOf_170_3 (L' := [some (.inr 0), some (.inl x1), some (.inl x2), some (.inl x3), some (.inl x4), some (.inl x5), none, some (.inl x7), none, none, none]) (st' := [.inl x7, .inl x3, .inr 0]) (σ1 := σ) rfl ?_
          obtain ⟨q29, e30, h⟩ := bind_inv h
          refine go_V (M1 := m_X11_isRight) (as := [.inl x3, .inl x7]) (st := []) (k := 0) (ci := 11) dc_X11_needsOf_174 ln_11_311 im_X11_isRight (by decide) rfl rfl mk_X11_isRight rfl (Nat.le_of_ble_eq_true rfl) (Nat.le_refl _) (v := (some (.inl (b2i q29)))) (σ1 := σ) (lk_X11_isRight l d (by omega) x3 x7 σ q29 e30) _ rfl ?_
          refine go_ifb_eq dc_X11_needsOf_177 (by rfl) (fun hc => ?_) (fun hc => ?_)
          · replace h := (if_neg hc).symm.trans h
            exact hB_X11_needsOf_184 x2 x3 x4 x5 x7 σ h
          · replace h := (if_pos hc).symm.trans h
            exact hB_X11_needsOf_180 x2 x3 x4 x5 x7 σ h
      have hB_X11_needsOf_138 : ∀ (x2 : Int) (x3 : Int) (x4 : Int) (x5 : Int) (x7 : Int) (σ : Sg), B_X11_needsOf_138 x2 x3 x4 x5 x7 σ = some w → Go l m_X11_needsOf (d + 1) LAYM (.inl none) q 138 [some (.inr 0), some (.inl x1), some (.inl x2), some (.inl x3), some (.inl x4), some (.inl x5), none, some (.inl x7), none, none, none] [] σ := by
        intro x2 x3 x4 x5 x7 σ h
        unfold B_X11_needsOf_138 at h
        refine go_ops ok_X11_needsOf_138_2 (L' := [some (.inr 0), some (.inl x1), some (.inl x2), some (.inl x3), some (.inl x4), some (.inl x5), none, some (.inl x7), none, none, none]) (st' := [.inl 1, .inl x5]) (σ1 := σ) rfl ?_
        refine go_icmp_eq dc_X11_needsOf_141 (by rfl) (fun hc => ?_) (fun hc => ?_)
        · replace h := (if_pos hc).symm.trans h
          exact hB_X11_needsOf_180 x2 x3 x4 x5 x7 σ h
        · replace h := (if_neg hc).symm.trans h
          refine go_ops ok_X11_needsOf_144_2 (L' := [some (.inr 0), some (.inl x1), some (.inl x2), some (.inl x3), some (.inl x4), some (.inl x5), none, some (.inl x7), none, none, none]) (st' := [.inl 4, .inl x5]) (σ1 := σ) rfl ?_
          refine go_icmp_eq dc_X11_needsOf_147 (by rfl) (fun hc => ?_) (fun hc => ?_)
          · replace h := (if_pos hc).symm.trans h
            exact hB_X11_needsOf_180 x2 x3 x4 x5 x7 σ h
          · replace h := (if_neg hc).symm.trans h
            refine go_ops ok_X11_needsOf_150_2 (L' := [some (.inr 0), some (.inl x1), some (.inl x2), some (.inl x3), some (.inl x4), some (.inl x5), none, some (.inl x7), none, none, none]) (st' := [.inl 3, .inl x5]) (σ1 := σ) rfl ?_
            refine go_icmp_eq dc_X11_needsOf_153 (by rfl) (fun hc => ?_) (fun hc => ?_)
            · replace h := (if_pos hc).symm.trans h
              exact hB_X11_needsOf_163 x2 x3 x4 x5 x7 σ h
            · replace h := (if_neg hc).symm.trans h
              refine go_ops ok_X11_needsOf_156_2 (L' := [some (.inr 0), some (.inl x1), some (.inl x2), some (.inl x3), some (.inl x4), some (.inl x5), none, some (.inl x7), none, none, none]) (st' := [.inl 6, .inl x5]) (σ1 := σ) rfl ?_
              refine go_icmp_ne dc_X11_needsOf_160 (by rfl) (fun hc => ?_) (fun hc => ?_)
              · replace h := (if_neg hc).symm.trans h
                exact hB_X11_needsOf_184 x2 x3 x4 x5 x7 σ h
              · replace h := (if_pos hc).symm.trans h
                exact hB_X11_needsOf_163 x2 x3 x4 x5 x7 σ h
      have hB_X11_needsOf_117 : ∀ (x2 : Int) (x3 : Int) (x4 : Int) (x5 : Int) (x6 : Bool) (y0 : Int) (σ : Sg), B_X11_needsOf_117 x1 x2 x3 x4 x5 x6 y0 σ = some w → Go l m_X11_needsOf (d + 1) LAYM (.inl none) q 117 [some (.inr 0), some (.inl x1), some (.inl x2), some (.inl x3), some (.inl x4), some (.inl x5), some (.inl (b2i x6)), none, none, none, none] [.inl y0] σ := by
        intro x2 x3 x4 x5 x6 y0 σ h
        unfold B_X11_needsOf_117 at h
        refine go_ops ok_X11_needsOf_117_2 (L' := [some (.inr 0), some (.inl x1), some (.inl x2), some (.inl x3), some (.inl x4), some (.inl x5), some (.inl (b2i x6)), some (.inl y0), none, none, none]) (st' := [.inl (b2i x6)]) (σ1 := σ) rfl ?_
        refine go_ifb_eq dc_X11_needsOf_121 (by rfl) (fun hc => ?_) (fun hc => ?_)
        · replace h := (if_neg hc).symm.trans h
          refine go_wk (L' := [some (.inr 0), some (.inl x1), some (.inl x2), some (.inl x3), some (.inl x4), some (.inl x5), none, some (.inl y0), none, none, none]) ⟨rfl, rfl, rfl, rfl, rfl, rfl, rfl, trivial⟩ ?_
          exact hB_X11_needsOf_138 x2 x3 x4 x5 y0 σ h
        · replace h := (if_pos hc).symm.trans h
          refine go_ops ok_X11_needsOf_124_2 (L' := [some (.inr 0), some (.inl x1), some (.inl x2), some (.inl x3), some (.inl x4), some (.inl x5), some (.inl (b2i x6)), some (.inl y0), none, none, none]) (st' := [.inl (-9), .inl y0]) (σ1 := σ) rfl ?_
          refine go_icmp_ne dc_X11_needsOf_128 (by rfl) (fun hc => ?_) (fun hc => ?_)
          · replace h := (if_neg hc).symm.trans h
            refine go_wk (L' := [some (.inr 0), some (.inl x1), some (.inl x2), some (.inl x3), some (.inl x4), some (.inl x5), none, some (.inl y0), none, none, none]) ⟨rfl, rfl, rfl, rfl, rfl, rfl, rfl, trivial⟩ ?_
            exact hB_X11_needsOf_138 x2 x3 x4 x5 y0 σ h
          · replace h := (if_pos hc).symm.trans h
            refine go_ops ok_X11_needsOf_131_3 (L' := [some (.inr 0), some (.inl x1), some (.inl x2), some (.inl x3), some (.inl x4), some (.inl x5), some (.inl (b2i x6)), some (.inl y0), none, none, none]) (st' := [.inl x1, .inl x4, .inr 0]) (σ1 := σ) rfl ?_
            obtain ⟨q31, e32, h⟩ := bind_inv h
            refine go_V (M1 := m_X11_need) (as := [.inl x4, .inl x1]) (st := []) (k := 0) (ci := 11) dc_X11_needsOf_135 ln_11_327 im_X11_need (by decide) rfl rfl mk_X11_need rfl (Nat.le_of_ble_eq_true rfl) (Nat.le_refl _) (v := none) (σ1 := q31) (lk_X11_need l d (by omega) x4 x1 σ q31 e32) _ rfl ?_
            refine go_wk (L' := [some (.inr 0), some (.inl x1), some (.inl x2), some (.inl x3), some (.inl x4), some (.inl x5), none, some (.inl y0), none, none, none]) ⟨rfl, rfl, rfl, rfl, rfl, rfl, rfl, trivial⟩ ?_
            exact hB_X11_needsOf_138 x2 x3 x4 x5 y0 q31 h
      have hB_X11_needsOf_100 : ∀ (x2 : Int) (x3 : Int) (x4 : Int) (x5 : Int) (y0 : Bool) (σ : Sg), B_X11_needsOf_100 x1 x2 x3 x4 x5 y0 σ = some w → Go l m_X11_needsOf (d + 1) LAYM (.inl none) q 100 [some (.inr 0), some (.inl x1), some (.inl x2), some (.inl x3), some (.inl x4), some (.inl x5), none, none, none, none, none] [.inl (b2i y0)] σ := by
        intro x2 x3 x4 x5 y0 σ h
        unfold B_X11_needsOf_100 at h
        refine go_ops ok_X11_needsOf_100_2 (L' := [some (.inr 0), some (.inl x1), some (.inl x2), some (.inl x3), some (.inl x4), some (.inl x5), some (.inl (b2i y0)), none, none, none, none]) (st' := [.inl (b2i y0)]) (σ1 := σ) rfl ?_
        refine go_ifb_eq dc_X11_needsOf_104 (by rfl) (fun hc => ?_) (fun hc => ?_)
        · replace h := (if_neg hc).symm.trans h
          refine go_ops ok_X11_needsOf_116_1 (L' := [some (.inr 0), some (.inl x1), some (.inl x2), some (.inl x3), some (.inl x4), some (.inl x5), some (.inl (b2i y0)), none, none, none, none]) (st' := [.inl 0]) (σ1 := σ) rfl ?_
          exact hB_X11_needsOf_117 x2 x3 x4 x5 y0 0 σ h
        · replace h := (if_pos hc).symm.trans h
          refine go_ops ok_X11_needsOf_107_2 (L' := [some (.inr 0), some (.inl x1), some (.inl x2), some (.inl x3), some (.inl x4), some (.inl x5), some (.inl (b2i y0)), none, none, none, none]) (st' := [.inl x4, .inr 0]) (σ1 := σ) rfl ?_
          obtain ⟨q33, e34, h⟩ := bind_inv h
          refine go_V (M1 := m_X11_factAt) (as := [.inl x4]) (st := []) (k := 0) (ci := 11) dc_X11_needsOf_110 ln_11_305 im_X11_factAt (by decide) rfl rfl mk_X11_factAt rfl (Nat.le_of_ble_eq_true rfl) (Nat.le_refl _) (v := (some (.inl q33.1))) (σ1 := q33.2) (lk_X11_factAt l d (by omega) x4 σ q33 e34) _ rfl ?_
          refine go_goto dc_X11_needsOf_113 (by rfl) ?_
          exact hB_X11_needsOf_117 x2 x3 x4 x5 y0 q33.1 q33.2 h
      have hB_X11_needsOf_95 : ∀ (x2 : Int) (x3 : Int) (x4 : Int) (x5 : Int) (σ : Sg), B_X11_needsOf_95 x1 x2 x3 x4 x5 σ = some w → Go l m_X11_needsOf (d + 1) LAYM (.inl none) q 95 [some (.inr 0), some (.inl x1), some (.inl x2), some (.inl x3), some (.inl x4), some (.inl x5), none, none, none, none, none] [] σ := by
        intro x2 x3 x4 x5 σ h
        unfold B_X11_needsOf_95 at h
        refine go_ops ok_X11_needsOf_95_1 (L' := [some (.inr 0), some (.inl x1), some (.inl x2), some (.inl x3), some (.inl x4), some (.inl x5), none, none, none, none, none]) (st' := [.inl 1]) (σ1 := σ) rfl ?_
        refine go_goto dc_X11_needsOf_96 (by rfl) ?_
        exact hB_X11_needsOf_100 x2 x3 x4 x5 true σ h
      refine go_ops ok_X11_needsOf_46_1 (L' := [some (.inr 0), some (.inl x1), some (.inl x2), none, none, none, none, none, none, none, none]) (st' := [.inl x2]) (σ1 := σ) rfl ?_
      refine go_if_le dc_X11_needsOf_47 (by rfl) (fun hc => ?_) (fun hc => ?_)
      · replace h := (if_pos hc).symm.trans h
        cases h
        refine go_wk (L' := [none, none, none, none, none, none, none, none, none, none, none]) trivial ?_
        exact hK
      · replace h := (if_neg hc).symm.trans h
        refine go_ops ok_X11_needsOf_50_4 (L' := [some (.inr 0), some (.inl x1), some (.inl (wrap (x2 + (-1)))), none, none, none, none, none, none, none, none]) (st' := [.inl (wrap (x2 + (-1))), .inr 26]) (σ1 := σ) rfl ?_
        obtain ⟨v9, e10, h⟩ := bind_inv h
        refine go_rd (k := 26) dc_X11_needsOf_58 rfl e10 ?_
        refine go_ops ok_X11_needsOf_59_4 (L' := [some (.inr 0), some (.inl x1), some (.inl (wrap (x2 + (-1)))), some (.inl v9), none, none, none, none, none, none, none]) (st' := [.inl (wrap (x2 + (-1))), .inr 50]) (σ1 := σ) rfl ?_
        obtain ⟨v11, e12, h⟩ := bind_inv h
        refine go_rd (k := 50) dc_X11_needsOf_65 rfl e12 ?_
        refine go_ops ok_X11_needsOf_66_4 (L' := [some (.inr 0), some (.inl x1), some (.inl (wrap (x2 + (-1)))), some (.inl v9), some (.inl v11), none, none, none, none, none, none]) (st' := [.inl v9, .inr 8]) (σ1 := σ) rfl ?_
        obtain ⟨v13, e14, h⟩ := bind_inv h
        refine go_rd (k := 8) dc_X11_needsOf_73 rfl e14 ?_
        refine go_ops ok_X11_needsOf_74_3 (L' := [some (.inr 0), some (.inl x1), some (.inl (wrap (x2 + (-1)))), some (.inl v9), some (.inl v11), some (.inl v13), none, none, none, none, none]) (st' := [.inl 2, .inl v13]) (σ1 := σ) rfl ?_
        refine go_icmp_eq dc_X11_needsOf_79 (by rfl) (fun hc => ?_) (fun hc => ?_)
        · replace h := (if_pos hc).symm.trans h
          exact hB_X11_needsOf_95 (wrap (x2 + (-1))) v9 v11 v13 σ h
        · replace h := (if_neg hc).symm.trans h
          refine go_ops ok_X11_needsOf_82_2 (L' := [some (.inr 0), some (.inl x1), some (.inl (wrap (x2 + (-1)))), some (.inl v9), some (.inl v11), some (.inl v13), none, none, none, none, none]) (st' := [.inl 3, .inl v13]) (σ1 := σ) rfl ?_
          refine go_icmp_eq dc_X11_needsOf_85 (by rfl) (fun hc => ?_) (fun hc => ?_)
          · replace h := (if_pos hc).symm.trans h
            exact hB_X11_needsOf_95 (wrap (x2 + (-1))) v9 v11 v13 σ h
          · replace h := (if_neg hc).symm.trans h
            refine go_ops ok_X11_needsOf_88_2 (L' := [some (.inr 0), some (.inl x1), some (.inl (wrap (x2 + (-1)))), some (.inl v9), some (.inl v11), some (.inl v13), none, none, none, none, none]) (st' := [.inl 6, .inl v13]) (σ1 := σ) rfl ?_
            refine go_icmp_ne dc_X11_needsOf_92 (by rfl) (fun hc => ?_) (fun hc => ?_)
            · replace h := (if_neg hc).symm.trans h
              refine go_ops ok_X11_needsOf_99_1 (L' := [some (.inr 0), some (.inl x1), some (.inl (wrap (x2 + (-1)))), some (.inl v9), some (.inl v11), some (.inl v13), none, none, none, none, none]) (st' := [.inl 0]) (σ1 := σ) rfl ?_
              exact hB_X11_needsOf_100 (wrap (x2 + (-1))) v9 v11 v13 false σ h
            · replace h := (if_pos hc).symm.trans h
              exact hB_X11_needsOf_95 (wrap (x2 + (-1))) v9 v11 v13 σ h
    refine go_ops ok_X11_needsOf_0_4 (L' := [some (.inr 0), some (.inl a1), some (.inl 0), some (.inl 0), none, none, none, none, none, none, none]) (st' := []) (σ1 := σ) rfl ?_
    obtain ⟨y7, e8, h⟩ := bind_inv h
    refine hL_X11_needsOf_4 a1 3000 (0, 0, σ) y7 e8 ?_
    show Go l m_X11_needsOf (d + 1) LAYM (.inl none) q 46 [some (.inr 0), some (.inl a1), some (.inl y7.1), none, none, none, none, none, none, none, none] [] y7.2
    obtain ⟨y35, e36, h⟩ := bind_inv h
    refine hL_X11_needsOf_46 a1 3000 (y7.1, y7.2) y35 e36 ?_
    show Go l m_X11_needsOf (d + 1) LAYM (.inl none) q 312 [none, none, none, none, none, none, none, none, none, none, none] [] y35
    have h9 := Option.some.inj h
    subst h9
    exact go_vret dc_X11_needsOf_312 rfl
  have hf := go_ct (as := [.inr 0, .inl a1]) mk_X11_needsOf (by rfl) (Nat.le_of_ble_eq_true rfl) key
  exact hf
