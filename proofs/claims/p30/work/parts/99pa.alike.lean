/-! two compilers alike -/
theorem dg_alike_1 : decode m_L_alike.2.2.1 1 = .ok (.invokevirtual 167, 3) := by decide +kernel
theorem dg_alike_5 : decode m_L_alike.2.2.1 5 = .ok (.invokevirtual 167, 3) := by decide +kernel
theorem dg_alike_8 : decode m_L_alike.2.2.1 8 = .ok (.if_icmp .ne 134, 3) := by decide +kernel
theorem dg_alike_12 : decode m_L_alike.2.2.1 12 = .ok (.invokevirtual 140, 3) := by decide +kernel
theorem dg_alike_16 : decode m_L_alike.2.2.1 16 = .ok (.invokevirtual 140, 3) := by decide +kernel
theorem dg_alike_19 : decode m_L_alike.2.2.1 19 = .ok (.if_icmp .ne 123, 3) := by decide +kernel
theorem dg_alike_26 : decode m_L_alike.2.2.1 26 = .ok (.irem, 1) := by decide +kernel
theorem dg_alike_27 : decode m_L_alike.2.2.1 27 = .ok (.invokestatic 145, 3) := by decide +kernel
theorem dg_alike_34 : decode m_L_alike.2.2.1 34 = .ok (.irem, 1) := by decide +kernel
theorem dg_alike_35 : decode m_L_alike.2.2.1 35 = .ok (.invokestatic 145, 3) := by decide +kernel
theorem dg_alike_38 : decode m_L_alike.2.2.1 38 = .ok (.if_icmp .ne 104, 3) := by decide +kernel
theorem dg_alike_44 : decode m_L_alike.2.2.1 44 = .ok (.irem, 1) := by decide +kernel
theorem dg_alike_45 : decode m_L_alike.2.2.1 45 = .ok (.invokestatic 143, 3) := by decide +kernel
theorem dg_alike_51 : decode m_L_alike.2.2.1 51 = .ok (.irem, 1) := by decide +kernel
theorem dg_alike_52 : decode m_L_alike.2.2.1 52 = .ok (.invokestatic 143, 3) := by decide +kernel
theorem dg_alike_55 : decode m_L_alike.2.2.1 55 = .ok (.if_icmp .ne 87, 3) := by decide +kernel
theorem dg_alike_59 : decode m_L_alike.2.2.1 59 = .ok (.invokestatic 157, 3) := by decide +kernel
theorem dg_alike_63 : decode m_L_alike.2.2.1 63 = .ok (.invokestatic 157, 3) := by decide +kernel
theorem dg_alike_66 : decode m_L_alike.2.2.1 66 = .ok (.if_icmp .ne 76, 3) := by decide +kernel
theorem dg_alike_72 : decode m_L_alike.2.2.1 72 = .ok (.invokestatic 152, 3) := by decide +kernel
theorem dg_alike_78 : decode m_L_alike.2.2.1 78 = .ok (.invokestatic 152, 3) := by decide +kernel
theorem dg_alike_81 : decode m_L_alike.2.2.1 81 = .ok (.if_icmp .ne 61, 3) := by decide +kernel
theorem dg_alike_88 : decode m_L_alike.2.2.1 88 = .ok (.irem, 1) := by decide +kernel
theorem dg_alike_89 : decode m_L_alike.2.2.1 89 = .ok (.ifCond .ne 7, 3) := by decide +kernel
theorem dg_alike_93 : decode m_L_alike.2.2.1 93 = .ok (.goto 4, 3) := by decide +kernel
theorem dg_alike_97 : decode m_L_alike.2.2.1 97 = .ok (.invokestatic 152, 3) := by decide +kernel
theorem dg_alike_104 : decode m_L_alike.2.2.1 104 = .ok (.irem, 1) := by decide +kernel
theorem dg_alike_105 : decode m_L_alike.2.2.1 105 = .ok (.ifCond .ne 7, 3) := by decide +kernel
theorem dg_alike_109 : decode m_L_alike.2.2.1 109 = .ok (.goto 4, 3) := by decide +kernel
theorem dg_alike_113 : decode m_L_alike.2.2.1 113 = .ok (.invokestatic 152, 3) := by decide +kernel
theorem dg_alike_116 : decode m_L_alike.2.2.1 116 = .ok (.if_icmp .ne 26, 3) := by decide +kernel
theorem dg_alike_123 : decode m_L_alike.2.2.1 123 = .ok (.irem, 1) := by decide +kernel
theorem dg_alike_124 : decode m_L_alike.2.2.1 124 = .ok (.invokestatic 160, 3) := by decide +kernel
theorem dg_alike_131 : decode m_L_alike.2.2.1 131 = .ok (.irem, 1) := by decide +kernel
theorem dg_alike_132 : decode m_L_alike.2.2.1 132 = .ok (.invokestatic 160, 3) := by decide +kernel
theorem dg_alike_135 : decode m_L_alike.2.2.1 135 = .ok (.if_icmp .ne 7, 3) := by decide +kernel
theorem dg_alike_139 : decode m_L_alike.2.2.1 139 = .ok (.goto 4, 3) := by decide +kernel
theorem dg_alike_152 : decode m_L_alike.2.2.1 152 = .ok (.iaload, 1) := by decide +kernel
theorem dg_alike_153 : decode m_L_alike.2.2.1 153 = .ok (.if_icmp .ge 51, 3) := by decide +kernel
theorem dg_alike_158 : decode m_L_alike.2.2.1 158 = .ok (.ifCond .eq 46, 3) := by decide +kernel
theorem dg_alike_164 : decode m_L_alike.2.2.1 164 = .ok (.invokestatic 147, 3) := by decide +kernel
theorem dg_alike_170 : decode m_L_alike.2.2.1 170 = .ok (.invokestatic 147, 3) := by decide +kernel
theorem dg_alike_173 : decode m_L_alike.2.2.1 173 = .ok (.if_icmp .ne 22, 3) := by decide +kernel
theorem dg_alike_179 : decode m_L_alike.2.2.1 179 = .ok (.invokestatic 149, 3) := by decide +kernel
theorem dg_alike_185 : decode m_L_alike.2.2.1 185 = .ok (.invokestatic 149, 3) := by decide +kernel
theorem dg_alike_188 : decode m_L_alike.2.2.1 188 = .ok (.if_icmp .ne 7, 3) := by decide +kernel
theorem dg_alike_192 : decode m_L_alike.2.2.1 192 = .ok (.goto 4, 3) := by decide +kernel
theorem dg_alike_201 : decode m_L_alike.2.2.1 201 = .ok (.goto (-53), 3) := by decide +kernel
theorem dg_alike_206 : decode m_L_alike.2.2.1 206 = .ok (.ireturn, 1) := by decide +kernel
theorem og_alike_0_1 : oks 12 m_L_alike.2.2.1 0 [(.aload_n 0, 1, (0, 0, 0))] = true ∧ plen 0 [(.aload_n 0, 1, (0, 0, 0))] = 1 := by decide +kernel
theorem og_alike_4_1 : oks 12 m_L_alike.2.2.1 4 [(.aload_n 1, 1, (0, 0, 0))] = true ∧ plen 4 [(.aload_n 1, 1, (0, 0, 0))] = 5 := by decide +kernel
theorem og_alike_11_1 : oks 12 m_L_alike.2.2.1 11 [(.aload_n 0, 1, (0, 0, 0))] = true ∧ plen 11 [(.aload_n 0, 1, (0, 0, 0))] = 12 := by decide +kernel
theorem og_alike_15_1 : oks 12 m_L_alike.2.2.1 15 [(.aload_n 1, 1, (0, 0, 0))] = true ∧ plen 15 [(.aload_n 1, 1, (0, 0, 0))] = 16 := by decide +kernel
theorem og_alike_22_3 : oks 12 m_L_alike.2.2.1 22 [(.aload_n 0, 1, (0, 0, 0)), (.iload_n 3, 1, (0, 0, 0)), (.bipush 6, 2, (0, 0, 0))] = true ∧ plen 22 [(.aload_n 0, 1, (0, 0, 0)), (.iload_n 3, 1, (0, 0, 0)), (.bipush 6, 2, (0, 0, 0))] = 26 := by decide +kernel
theorem og_alike_30_3 : oks 12 m_L_alike.2.2.1 30 [(.aload_n 1, 1, (0, 0, 0)), (.iload_n 3, 1, (0, 0, 0)), (.bipush 6, 2, (0, 0, 0))] = true ∧ plen 30 [(.aload_n 1, 1, (0, 0, 0)), (.iload_n 3, 1, (0, 0, 0)), (.bipush 6, 2, (0, 0, 0))] = 34 := by decide +kernel
theorem og_alike_41_3 : oks 12 m_L_alike.2.2.1 41 [(.aload_n 0, 1, (0, 0, 0)), (.iload_n 3, 1, (0, 0, 0)), (.iconst 3, 1, (0, 0, 0))] = true ∧ plen 41 [(.aload_n 0, 1, (0, 0, 0)), (.iload_n 3, 1, (0, 0, 0)), (.iconst 3, 1, (0, 0, 0))] = 44 := by decide +kernel
theorem og_alike_48_3 : oks 12 m_L_alike.2.2.1 48 [(.aload_n 1, 1, (0, 0, 0)), (.iload_n 3, 1, (0, 0, 0)), (.iconst 3, 1, (0, 0, 0))] = true ∧ plen 48 [(.aload_n 1, 1, (0, 0, 0)), (.iload_n 3, 1, (0, 0, 0)), (.iconst 3, 1, (0, 0, 0))] = 51 := by decide +kernel
theorem og_alike_58_1 : oks 12 m_L_alike.2.2.1 58 [(.aload_n 0, 1, (0, 0, 0))] = true ∧ plen 58 [(.aload_n 0, 1, (0, 0, 0))] = 59 := by decide +kernel
theorem og_alike_62_1 : oks 12 m_L_alike.2.2.1 62 [(.aload_n 1, 1, (0, 0, 0))] = true ∧ plen 62 [(.aload_n 1, 1, (0, 0, 0))] = 63 := by decide +kernel
theorem og_alike_69_3 : oks 12 m_L_alike.2.2.1 69 [(.aload_n 0, 1, (0, 0, 0)), (.iconst 2, 1, (0, 0, 0)), (.iconst 1, 1, (0, 0, 0))] = true ∧ plen 69 [(.aload_n 0, 1, (0, 0, 0)), (.iconst 2, 1, (0, 0, 0)), (.iconst 1, 1, (0, 0, 0))] = 72 := by decide +kernel
theorem og_alike_75_3 : oks 12 m_L_alike.2.2.1 75 [(.aload_n 1, 1, (0, 0, 0)), (.iconst 2, 1, (0, 0, 0)), (.iconst 1, 1, (0, 0, 0))] = true ∧ plen 75 [(.aload_n 1, 1, (0, 0, 0)), (.iconst 2, 1, (0, 0, 0)), (.iconst 1, 1, (0, 0, 0))] = 78 := by decide +kernel
theorem og_alike_84_4 : oks 12 m_L_alike.2.2.1 84 [(.aload_n 0, 1, (0, 0, 0)), (.iconst 3, 1, (0, 0, 0)), (.iload_n 3, 1, (0, 0, 0)), (.iconst 2, 1, (0, 0, 0))] = true ∧ plen 84 [(.aload_n 0, 1, (0, 0, 0)), (.iconst 3, 1, (0, 0, 0)), (.iload_n 3, 1, (0, 0, 0)), (.iconst 2, 1, (0, 0, 0))] = 88 := by decide +kernel
theorem og_alike_92_1 : oks 12 m_L_alike.2.2.1 92 [(.iconst 1, 1, (0, 0, 0))] = true ∧ plen 92 [(.iconst 1, 1, (0, 0, 0))] = 93 := by decide +kernel
theorem og_alike_96_1 : oks 12 m_L_alike.2.2.1 96 [(.iconst 0, 1, (0, 0, 0))] = true ∧ plen 96 [(.iconst 0, 1, (0, 0, 0))] = 97 := by decide +kernel
theorem og_alike_100_4 : oks 12 m_L_alike.2.2.1 100 [(.aload_n 1, 1, (0, 0, 0)), (.iconst 3, 1, (0, 0, 0)), (.iload_n 3, 1, (0, 0, 0)), (.iconst 2, 1, (0, 0, 0))] = true ∧ plen 100 [(.aload_n 1, 1, (0, 0, 0)), (.iconst 3, 1, (0, 0, 0)), (.iload_n 3, 1, (0, 0, 0)), (.iconst 2, 1, (0, 0, 0))] = 104 := by decide +kernel
theorem og_alike_108_1 : oks 12 m_L_alike.2.2.1 108 [(.iconst 1, 1, (0, 0, 0))] = true ∧ plen 108 [(.iconst 1, 1, (0, 0, 0))] = 109 := by decide +kernel
theorem og_alike_112_1 : oks 12 m_L_alike.2.2.1 112 [(.iconst 0, 1, (0, 0, 0))] = true ∧ plen 112 [(.iconst 0, 1, (0, 0, 0))] = 113 := by decide +kernel
theorem og_alike_119_3 : oks 12 m_L_alike.2.2.1 119 [(.aload_n 0, 1, (0, 0, 0)), (.iload_n 3, 1, (0, 0, 0)), (.bipush 40, 2, (0, 0, 0))] = true ∧ plen 119 [(.aload_n 0, 1, (0, 0, 0)), (.iload_n 3, 1, (0, 0, 0)), (.bipush 40, 2, (0, 0, 0))] = 123 := by decide +kernel
theorem og_alike_127_3 : oks 12 m_L_alike.2.2.1 127 [(.aload_n 1, 1, (0, 0, 0)), (.iload_n 3, 1, (0, 0, 0)), (.bipush 40, 2, (0, 0, 0))] = true ∧ plen 127 [(.aload_n 1, 1, (0, 0, 0)), (.iload_n 3, 1, (0, 0, 0)), (.bipush 40, 2, (0, 0, 0))] = 131 := by decide +kernel
theorem og_alike_138_1 : oks 12 m_L_alike.2.2.1 138 [(.iconst 1, 1, (0, 0, 0))] = true ∧ plen 138 [(.iconst 1, 1, (0, 0, 0))] = 139 := by decide +kernel
theorem og_alike_143_3 : oks 12 m_L_alike.2.2.1 143 [(.istore 4, 2, (0, 0, 0)), (.iconst 0, 1, (0, 0, 0)), (.istore 5, 2, (0, 0, 0))] = true ∧ plen 143 [(.istore 4, 2, (0, 0, 0)), (.iconst 0, 1, (0, 0, 0)), (.istore 5, 2, (0, 0, 0))] = 148 := by decide +kernel
theorem og_alike_148_3 : oks 12 m_L_alike.2.2.1 148 [(.iload 5, 2, (0, 0, 0)), (.aload_n 2, 1, (0, 0, 0)), (.iconst 2, 1, (0, 0, 0))] = true ∧ plen 148 [(.iload 5, 2, (0, 0, 0)), (.aload_n 2, 1, (0, 0, 0)), (.iconst 2, 1, (0, 0, 0))] = 152 := by decide +kernel
theorem og_alike_156_1 : oks 12 m_L_alike.2.2.1 156 [(.iload 4, 2, (0, 0, 0))] = true ∧ plen 156 [(.iload 4, 2, (0, 0, 0))] = 158 := by decide +kernel
theorem og_alike_161_2 : oks 12 m_L_alike.2.2.1 161 [(.aload_n 0, 1, (0, 0, 0)), (.iload 5, 2, (0, 0, 0))] = true ∧ plen 161 [(.aload_n 0, 1, (0, 0, 0)), (.iload 5, 2, (0, 0, 0))] = 164 := by decide +kernel
theorem og_alike_167_2 : oks 12 m_L_alike.2.2.1 167 [(.aload_n 1, 1, (0, 0, 0)), (.iload 5, 2, (0, 0, 0))] = true ∧ plen 167 [(.aload_n 1, 1, (0, 0, 0)), (.iload 5, 2, (0, 0, 0))] = 170 := by decide +kernel
theorem og_alike_176_2 : oks 12 m_L_alike.2.2.1 176 [(.aload_n 0, 1, (0, 0, 0)), (.iload 5, 2, (0, 0, 0))] = true ∧ plen 176 [(.aload_n 0, 1, (0, 0, 0)), (.iload 5, 2, (0, 0, 0))] = 179 := by decide +kernel
theorem og_alike_182_2 : oks 12 m_L_alike.2.2.1 182 [(.aload_n 1, 1, (0, 0, 0)), (.iload 5, 2, (0, 0, 0))] = true ∧ plen 182 [(.aload_n 1, 1, (0, 0, 0)), (.iload 5, 2, (0, 0, 0))] = 185 := by decide +kernel
theorem og_alike_191_1 : oks 12 m_L_alike.2.2.1 191 [(.iconst 1, 1, (0, 0, 0))] = true ∧ plen 191 [(.iconst 1, 1, (0, 0, 0))] = 192 := by decide +kernel
theorem og_alike_196_2 : oks 12 m_L_alike.2.2.1 196 [(.istore 4, 2, (0, 0, 0)), (.iinc 5 1, 3, (0, 0, 0))] = true ∧ plen 196 [(.istore 4, 2, (0, 0, 0)), (.iinc 5 1, 3, (0, 0, 0))] = 201 := by decide +kernel
theorem og_alike_204_1 : oks 12 m_L_alike.2.2.1 204 [(.iload 4, 2, (0, 0, 0))] = true ∧ plen 204 [(.iload 4, 2, (0, 0, 0))] = 206 := by decide +kernel
/-- what the two tell of the cases from k on -/
def LoopA (n2 : Int) : Nat → Int → Sg → Sg → Sg → Sg → Prop
  | 0, k, a, b, a', b' => n2 ≤ k ∧ a' = a ∧ b' = b
  | D + 1, k, a, b, a', b' => ¬ n2 ≤ k ∧ ∃ (t u : Int) (qa qb ra rb : Sg), wrq [0] (F_X10_taken k a) = some (t, qa) ∧ wrq [0] (F_X10_taken k b) = some (t, qb) ∧ wrqB [0, 2] (F_X10_isUsed k qa) = some (u, ra) ∧ wrqB [0, 2] (F_X10_isUsed k qb) = some (u, rb) ∧ LoopA n2 D (k + 1) ra rb a' b'
set_option maxHeartbeats 4000000 in
theorem al_loop (l : Launch) (hl : l.stackTraces = false) (d : Nat) (hd : 161 ≤ d) (ax ay : List Nat) (an a0 b0 : Nat) (hax : ax[0]? = some a0) (hay : ay[0]? = some b0) (x : Int) (ν a' b' : Sg) (hν : ν 0 2 ≤ 1000) : ∀ (D : Nat) (k : Int) (a b : Sg) (kg : Nat), LoopA (ν 0 2) D k a b a' b' → 0 ≤ k → kg + 4 * D ≤ 60 → Gl l m_L_alike d 60 [(ax, LAYC), (ay, LAYC), FN an] [a0, b0, an] (some 1) [a', b', ν] kg 148 [some (.inr 0), some (.inr 1), some (.inr 2), some (.inl x), some (.inl 1), some (.inl k)] [] [a, b, ν]
  | 0, k, a, b, kg, h, hk, hkg => by
    obtain ⟨h1, rfl, rfl⟩ := h
    refine gl_ops (S := ([], ν)) (S' := ([], ν)) og_alike_148_3 (by decide) (L' := [some (.inr 0), some (.inr 1), some (.inr 2), some (.inl x), some (.inl 1), some (.inl k)]) (st' := [.inl 2, .inr 2, .inl k]) rfl ?_
    refine gl_rdx (jn := 2) (ν := ν) (an := an) (x := ν 0 2) dg_alike_152 rfl rfl rfl (by decide) (by decide) rfl ?_
    refine gl_icmp_ge dg_alike_153 (tgt := 204) (by rfl) (fun _ => ?_) (fun hc => absurd h1 hc)
    refine gl_ops (S := ([], ν)) (S' := ([], ν)) og_alike_204_1 (by decide) (L' := [some (.inr 0), some (.inr 1), some (.inr 2), some (.inl x), some (.inl 1), some (.inl k)]) (st' := [.inl 1]) rfl ?_
    exact gl_zret (by omega) dg_alike_206 rfl (Or.inr rfl)
  | D + 1, k, a, b, kg, h, hk, hkg => by
    obtain ⟨h0, t, u, qa, qb, ra, rb, h1, h2, h3, h4, h5⟩ := h
    refine gl_ops (S := ([], ν)) (S' := ([], ν)) og_alike_148_3 (by decide) (L' := [some (.inr 0), some (.inr 1), some (.inr 2), some (.inl x), some (.inl 1), some (.inl k)]) (st' := [.inl 2, .inr 2, .inl k]) rfl ?_
    refine gl_rdx (jn := 2) (ν := ν) (an := an) (x := ν 0 2) dg_alike_152 rfl rfl rfl (by decide) (by decide) rfl ?_
    refine gl_icmp_ge dg_alike_153 (tgt := 204) (by rfl) (fun hc => absurd hc h0) (fun _ => ?_)
    refine gl_ops (S := ([], ν)) (S' := ([], ν)) og_alike_156_1 (by decide) (L' := [some (.inr 0), some (.inr 1), some (.inr 2), some (.inl x), some (.inl 1), some (.inl k)]) (st' := [.inl 1]) rfl ?_
    refine gl_if_eq dg_alike_158 (tgt := 204) (by rfl) (fun hc => absurd hc (by decide)) (fun _ => ?_)
    refine gl_ops (S := ([], ν)) (S' := ([], ν)) og_alike_161_2 (by decide) (L' := [some (.inr 0), some (.inr 1), some (.inr 2), some (.inl x), some (.inl 1), some (.inl k)]) (st' := [.inl k, .inr 0]) rfl ?_
    refine w3_taken_0 hl hax hay dg_alike_164 (by omega) (by omega) (Nat.le_of_ble_eq_true rfl) h1 ?_ _ rfl
    refine gl_ops (S := ([], ν)) (S' := ([], ν)) og_alike_167_2 (by decide) (L' := [some (.inr 0), some (.inr 1), some (.inr 2), some (.inl x), some (.inl 1), some (.inl k)]) (st' := [.inl k, .inr 1, .inl t]) rfl ?_
    refine w3_taken_1 hl hax hay dg_alike_170 (by omega) (by omega) (Nat.le_of_ble_eq_true rfl) h2 ?_ _ rfl
    refine gl_icmp_ne dg_alike_173 (tgt := 195) (by rfl) (fun hc => absurd rfl hc) (fun _ => ?_)
    refine gl_ops (S := ([], ν)) (S' := ([], ν)) og_alike_176_2 (by decide) (L' := [some (.inr 0), some (.inr 1), some (.inr 2), some (.inl x), some (.inl 1), some (.inl k)]) (st' := [.inl k, .inr 0]) rfl ?_
    refine w3_used_0 hl hax hay dg_alike_179 (by omega) (by omega) (Nat.le_of_ble_eq_true rfl) h3 ?_ _ rfl
    refine gl_ops (S := ([], ν)) (S' := ([], ν)) og_alike_182_2 (by decide) (L' := [some (.inr 0), some (.inr 1), some (.inr 2), some (.inl x), some (.inl 1), some (.inl k)]) (st' := [.inl k, .inr 1, .inl u]) rfl ?_
    refine w3_used_1 hl hax hay dg_alike_185 (by omega) (by omega) (Nat.le_of_ble_eq_true rfl) h4 ?_ _ rfl
    refine gl_icmp_ne dg_alike_188 (tgt := 195) (by rfl) (fun hc => absurd rfl hc) (fun _ => ?_)
    refine gl_ops (S := ([], ν)) (S' := ([], ν)) og_alike_191_1 (by decide) (L' := [some (.inr 0), some (.inr 1), some (.inr 2), some (.inl x), some (.inl 1), some (.inl k)]) (st' := [.inl 1]) rfl ?_
    refine gl_goto dg_alike_192 (tgt := 196) (by rfl) ?_
    refine gl_ops (S := ([], ν)) (S' := ([], ν)) og_alike_196_2 (by decide) (L' := [some (.inr 0), some (.inr 1), some (.inr 2), some (.inl x), some (.inl 1), some (.inl (wrap (k + 1)))]) (st' := []) rfl ?_
    refine gl_goto dg_alike_201 (tgt := 148) (by rfl) ?_
    rw [show wrap (k + 1) = k + 1 from wrap_id (by omega) (by omega)]
    exact al_loop l hl d hd ax ay an a0 b0 hax hay x ν a' b' hν D (k + 1) ra rb _ h5 (by omega) (by omega)
set_option maxHeartbeats 4000000 in
theorem lc_alike (l : Launch) (hl : l.stackTraces = false) (d : Nat) (hd : 161 ≤ d) (ax ay : List Nat) (an a0 b0 : Nat) (hax : ax[0]? = some a0) (hay : ay[0]? = some b0) (x : Int) (σ1 σ2 ν a1 a2 a3 a4 a5 b1 b2 b3 b4 b5 : Sg) (kb kv km ks kt ke : Int) (hν : ν 0 2 ≤ 1000) (hte : F_X10_tests σ1 = F_X10_tests σ2) (hve : F_X10_views σ1 = F_X10_views σ2)
    (hb1 : wrq [0] (F_X10_bound (jrem x 6) σ1) = some (kb, σ1)) (hb2 : wrq [0] (F_X10_bound (jrem x 6) σ2) = some (kb, σ2)) (hv1 : wrq [0] (F_X10_viewAt (jrem x 3) σ1) = some (kv, σ1)) (hv2 : wrq [0] (F_X10_viewAt (jrem x 3) σ2) = some (kv, σ2))
    (hm1 : wrq [2] (F_X10_missing σ1) = some (km, a1)) (hm2 : wrq [2] (F_X10_missing σ2) = some (km, b1)) (hs1 : wrq [0, 2] (F_X10_size 2 true a1) = some (ks, a2)) (hs2 : wrq [0, 2] (F_X10_size 2 true b1) = some (ks, b2))
    (ht1 : wrq [0, 2] (F_X10_size 3 (decide (jrem x 2 = 0)) a2) = some (kt, a3)) (ht2 : wrq [0, 2] (F_X10_size 3 (decide (jrem x 2 = 0)) b2) = some (kt, b3)) (he1 : wrq [2] (F_X10_example (jrem x 40) a3) = some (ke, a4)) (he2 : wrq [2] (F_X10_example (jrem x 40) b3) = some (ke, b4))
    (D9 : Nat) (hD9 : D9 ≤ 8) (hlo : LoopA (ν 0 2) D9 0 a4 b4 a5 b5) : LC l d 60 m_L_alike.2.1 (wsM m_L_alike.2.1 m_L_alike.2.2.1 m_L_alike.2.2.2.1 m_L_alike.2.2.2.2) [.inr 0, .inr 1, .inr 2, .inl x] [a0, b0, an] [(ax, LAYC), (ay, LAYC), FN an] [σ1, σ2, ν] (some 1) [a5, b5, ν] :=
  gl_lc (n := 4) (as := [.inr 0, .inr 1, .inr 2, .inl x]) mok_L_alike rfl (by decide +kernel) (Nat.le_of_ble_eq_true rfl) (by
    show Gl l m_L_alike d 60 [(ax, LAYC), (ay, LAYC), FN an] [a0, b0, an] (some 1) [a5, b5, ν] 0 0 [some (.inr 0), some (.inr 1), some (.inr 2), some (.inl x), none, none] [] [σ1, σ2, ν]
    refine gl_ops (S := ([], ν)) (S' := ([], ν)) og_alike_0_1 (by decide) (L' := [some (.inr 0), some (.inr 1), some (.inr 2), some (.inl x), none, none]) (st' := [.inr 0]) rfl ?_
    refine v3_tests_0 hax hay dg_alike_1 (by omega) (by decide) (Nat.le_of_ble_eq_true rfl) ?_
    refine gl_ops (S := ([], ν)) (S' := ([], ν)) og_alike_4_1 (by decide) (L' := [some (.inr 0), some (.inr 1), some (.inr 2), some (.inl x), none, none]) (st' := [.inr 1, .inl (F_X10_tests σ1)]) rfl ?_
    refine v3_tests_1 hax hay dg_alike_5 (by omega) (by decide) (Nat.le_of_ble_eq_true rfl) ?_
    refine gl_st hte ?_
    refine gl_icmp_ne dg_alike_8 (tgt := 142) (by rfl) (fun hc => absurd rfl hc) (fun _ => ?_)
    refine gl_ops (S := ([], ν)) (S' := ([], ν)) og_alike_11_1 (by decide) (L' := [some (.inr 0), some (.inr 1), some (.inr 2), some (.inl x), none, none]) (st' := [.inr 0]) rfl ?_
    refine v3_views_0 hax hay dg_alike_12 (by omega) (by decide) (Nat.le_of_ble_eq_true rfl) ?_
    refine gl_ops (S := ([], ν)) (S' := ([], ν)) og_alike_15_1 (by decide) (L' := [some (.inr 0), some (.inr 1), some (.inr 2), some (.inl x), none, none]) (st' := [.inr 1, .inl (F_X10_views σ1)]) rfl ?_
    refine v3_views_1 hax hay dg_alike_16 (by omega) (by decide) (Nat.le_of_ble_eq_true rfl) ?_
    refine gl_st hve ?_
    refine gl_icmp_ne dg_alike_19 (tgt := 142) (by rfl) (fun hc => absurd rfl hc) (fun _ => ?_)
    refine gl_ops (S := ([], ν)) (S' := ([], ν)) og_alike_22_3 (by decide) (L' := [some (.inr 0), some (.inr 1), some (.inr 2), some (.inl x), none, none]) (st' := [.inl 6, .inl x, .inr 0]) rfl ?_
    refine gl_rem dg_alike_26 (by decide) ?_
    refine w3_bound_0 hl hax hay dg_alike_27 (by omega) (by decide) (Nat.le_of_ble_eq_true rfl) hb1 ?_ _ rfl
    refine gl_ops (S := ([], ν)) (S' := ([], ν)) og_alike_30_3 (by decide) (L' := [some (.inr 0), some (.inr 1), some (.inr 2), some (.inl x), none, none]) (st' := [.inl 6, .inl x, .inr 1, .inl kb]) rfl ?_
    refine gl_rem dg_alike_34 (by decide) ?_
    refine w3_bound_1 hl hax hay dg_alike_35 (by omega) (by decide) (Nat.le_of_ble_eq_true rfl) hb2 ?_ _ rfl
    refine gl_icmp_ne dg_alike_38 (tgt := 142) (by rfl) (fun hc => absurd rfl hc) (fun _ => ?_)
    refine gl_ops (S := ([], ν)) (S' := ([], ν)) og_alike_41_3 (by decide) (L' := [some (.inr 0), some (.inr 1), some (.inr 2), some (.inl x), none, none]) (st' := [.inl 3, .inl x, .inr 0]) rfl ?_
    refine gl_rem dg_alike_44 (by decide) ?_
    refine w3_viewAt_0 hl hax hay dg_alike_45 (by omega) (by decide) (Nat.le_of_ble_eq_true rfl) hv1 ?_ _ rfl
    refine gl_ops (S := ([], ν)) (S' := ([], ν)) og_alike_48_3 (by decide) (L' := [some (.inr 0), some (.inr 1), some (.inr 2), some (.inl x), none, none]) (st' := [.inl 3, .inl x, .inr 1, .inl kv]) rfl ?_
    refine gl_rem dg_alike_51 (by decide) ?_
    refine w3_viewAt_1 hl hax hay dg_alike_52 (by omega) (by decide) (Nat.le_of_ble_eq_true rfl) hv2 ?_ _ rfl
    refine gl_icmp_ne dg_alike_55 (tgt := 142) (by rfl) (fun hc => absurd rfl hc) (fun _ => ?_)
    refine gl_ops (S := ([], ν)) (S' := ([], ν)) og_alike_58_1 (by decide) (L' := [some (.inr 0), some (.inr 1), some (.inr 2), some (.inl x), none, none]) (st' := [.inr 0]) rfl ?_
    refine w3_missing_0 hl hax hay dg_alike_59 (by omega) (by decide) (Nat.le_of_ble_eq_true rfl) hm1 ?_ _ rfl
    refine gl_ops (S := ([], ν)) (S' := ([], ν)) og_alike_62_1 (by decide) (L' := [some (.inr 0), some (.inr 1), some (.inr 2), some (.inl x), none, none]) (st' := [.inr 1, .inl km]) rfl ?_
    refine w3_missing_1 hl hax hay dg_alike_63 (by omega) (by decide) (Nat.le_of_ble_eq_true rfl) hm2 ?_ _ rfl
    refine gl_icmp_ne dg_alike_66 (tgt := 142) (by rfl) (fun hc => absurd rfl hc) (fun _ => ?_)
    refine gl_ops (S := ([], ν)) (S' := ([], ν)) og_alike_69_3 (by decide) (L' := [some (.inr 0), some (.inr 1), some (.inr 2), some (.inl x), none, none]) (st' := [.inl 1, .inl 2, .inr 0]) rfl ?_
    refine w3_size_0 hl hax hay dg_alike_72 (by omega) (by decide) (Nat.le_of_ble_eq_true rfl) hs1 ?_ _ rfl
    refine gl_ops (S := ([], ν)) (S' := ([], ν)) og_alike_75_3 (by decide) (L' := [some (.inr 0), some (.inr 1), some (.inr 2), some (.inl x), none, none]) (st' := [.inl 1, .inl 2, .inr 1, .inl ks]) rfl ?_
    refine w3_size_1 hl hax hay dg_alike_78 (by omega) (by decide) (Nat.le_of_ble_eq_true rfl) hs2 ?_ _ rfl
    refine gl_icmp_ne dg_alike_81 (tgt := 142) (by rfl) (fun hc => absurd rfl hc) (fun _ => ?_)
    refine gl_ops (S := ([], ν)) (S' := ([], ν)) og_alike_84_4 (by decide) (L' := [some (.inr 0), some (.inr 1), some (.inr 2), some (.inl x), none, none]) (st' := [.inl 2, .inl x, .inl 3, .inr 0]) rfl ?_
    refine gl_rem dg_alike_88 (by decide) ?_
    suffices hJ1 : Gl l m_L_alike d 60 [(ax, LAYC), (ay, LAYC), FN an] [a0, b0, an] (some 1) [a5, b5, ν] 8 97 [some (.inr 0), some (.inr 1), some (.inr 2), some (.inl x), none, none] [.inl (b2i (decide ((jrem x 2) = 0))), .inl 3, .inr 0] [a2, b2, ν] by
      refine gl_if_ne dg_alike_89 (tgt := 96) (by rfl) (fun hc2 => ?_) (fun hc2 => ?_)
      · refine gl_ops (S := ([], ν)) (S' := ([], ν)) og_alike_96_1 (by decide) (L' := [some (.inr 0), some (.inr 1), some (.inr 2), some (.inl x), none, none]) (st' := [.inl 0, .inl 3, .inr 0]) rfl ?_
        exact gl_st (by rw [decide_eq_false hc2]; rfl) hJ1
      · refine gl_ops (S := ([], ν)) (S' := ([], ν)) og_alike_92_1 (by decide) (L' := [some (.inr 0), some (.inr 1), some (.inr 2), some (.inl x), none, none]) (st' := [.inl 1, .inl 3, .inr 0]) rfl ?_
        refine gl_goto dg_alike_93 (tgt := 97) (by rfl) ?_
        exact gl_st (by rw [decide_eq_true hc2]; rfl) hJ1
    refine w3_size_0 hl hax hay dg_alike_97 (by omega) (by decide) (Nat.le_of_ble_eq_true rfl) ht1 ?_ _ rfl
    refine gl_ops (S := ([], ν)) (S' := ([], ν)) og_alike_100_4 (by decide) (L' := [some (.inr 0), some (.inr 1), some (.inr 2), some (.inl x), none, none]) (st' := [.inl 2, .inl x, .inl 3, .inr 1, .inl kt]) rfl ?_
    refine gl_rem dg_alike_104 (by decide) ?_
    suffices hJ3 : Gl l m_L_alike d 60 [(ax, LAYC), (ay, LAYC), FN an] [a0, b0, an] (some 1) [a5, b5, ν] 9 113 [some (.inr 0), some (.inr 1), some (.inr 2), some (.inl x), none, none] [.inl (b2i (decide ((jrem x 2) = 0))), .inl 3, .inr 1, .inl kt] [a3, b2, ν] by
      refine gl_if_ne dg_alike_105 (tgt := 112) (by rfl) (fun hc4 => ?_) (fun hc4 => ?_)
      · refine gl_ops (S := ([], ν)) (S' := ([], ν)) og_alike_112_1 (by decide) (L' := [some (.inr 0), some (.inr 1), some (.inr 2), some (.inl x), none, none]) (st' := [.inl 0, .inl 3, .inr 1, .inl kt]) rfl ?_
        exact gl_st (by rw [decide_eq_false hc4]; rfl) hJ3
      · refine gl_ops (S := ([], ν)) (S' := ([], ν)) og_alike_108_1 (by decide) (L' := [some (.inr 0), some (.inr 1), some (.inr 2), some (.inl x), none, none]) (st' := [.inl 1, .inl 3, .inr 1, .inl kt]) rfl ?_
        refine gl_goto dg_alike_109 (tgt := 113) (by rfl) ?_
        exact gl_st (by rw [decide_eq_true hc4]; rfl) hJ3
    refine w3_size_1 hl hax hay dg_alike_113 (by omega) (by decide) (Nat.le_of_ble_eq_true rfl) ht2 ?_ _ rfl
    refine gl_icmp_ne dg_alike_116 (tgt := 142) (by rfl) (fun hc => absurd rfl hc) (fun _ => ?_)
    refine gl_ops (S := ([], ν)) (S' := ([], ν)) og_alike_119_3 (by decide) (L' := [some (.inr 0), some (.inr 1), some (.inr 2), some (.inl x), none, none]) (st' := [.inl 40, .inl x, .inr 0]) rfl ?_
    refine gl_rem dg_alike_123 (by decide) ?_
    refine w3_example_0 hl hax hay dg_alike_124 (by omega) (by decide) (Nat.le_of_ble_eq_true rfl) he1 ?_ _ rfl
    refine gl_ops (S := ([], ν)) (S' := ([], ν)) og_alike_127_3 (by decide) (L' := [some (.inr 0), some (.inr 1), some (.inr 2), some (.inl x), none, none]) (st' := [.inl 40, .inl x, .inr 1, .inl ke]) rfl ?_
    refine gl_rem dg_alike_131 (by decide) ?_
    refine w3_example_1 hl hax hay dg_alike_132 (by omega) (by decide) (Nat.le_of_ble_eq_true rfl) he2 ?_ _ rfl
    refine gl_icmp_ne dg_alike_135 (tgt := 142) (by rfl) (fun hc => absurd rfl hc) (fun _ => ?_)
    refine gl_ops (S := ([], ν)) (S' := ([], ν)) og_alike_138_1 (by decide) (L' := [some (.inr 0), some (.inr 1), some (.inr 2), some (.inl x), none, none]) (st' := [.inl 1]) rfl ?_
    refine gl_goto dg_alike_139 (tgt := 143) (by rfl) ?_
    refine gl_ops (S := ([], ν)) (S' := ([], ν)) og_alike_143_3 (by decide) (L' := [some (.inr 0), some (.inr 1), some (.inr 2), some (.inl x), some (.inl 1), some (.inl 0)]) (st' := []) rfl ?_
    exact al_loop l hl d hd ax ay an a0 b0 hax hay x ν a5 b5 hν D9 0 a4 b4 12 hlo (by omega) (by omega))
