/-! read off: X11_isSame .. X11_isUsed -/
theorem dc_X11_isSame_5 : decode m_X11_isSame.2.2.1 5 = .ok (.iaload, 1) := by decide +kernel
theorem dc_X11_isSame_11 : decode m_X11_isSame.2.2.1 11 = .ok (.iaload, 1) := by decide +kernel
theorem dc_X11_isSame_12 : decode m_X11_isSame.2.2.1 12 = .ok (.if_icmp .ne 22, 3) := by decide +kernel
theorem dc_X11_isSame_20 : decode m_X11_isSame.2.2.1 20 = .ok (.iaload, 1) := by decide +kernel
theorem dc_X11_isSame_26 : decode m_X11_isSame.2.2.1 26 = .ok (.iaload, 1) := by decide +kernel
theorem dc_X11_isSame_27 : decode m_X11_isSame.2.2.1 27 = .ok (.if_icmp .ne 7, 3) := by decide +kernel
theorem dc_X11_isSame_31 : decode m_X11_isSame.2.2.1 31 = .ok (.goto 4, 3) := by decide +kernel
theorem dc_X11_isSame_37 : decode m_X11_isSame.2.2.1 37 = .ok (.ifCond .eq 57, 3) := by decide +kernel
theorem dc_X11_isSame_45 : decode m_X11_isSame.2.2.1 45 = .ok (.iaload, 1) := by decide +kernel
theorem dc_X11_isSame_47 : decode m_X11_isSame.2.2.1 47 = .ok (.if_icmp .eq 18, 3) := by decide +kernel
theorem dc_X11_isSame_55 : decode m_X11_isSame.2.2.1 55 = .ok (.iaload, 1) := by decide +kernel
theorem dc_X11_isSame_61 : decode m_X11_isSame.2.2.1 61 = .ok (.iaload, 1) := by decide +kernel
theorem dc_X11_isSame_62 : decode m_X11_isSame.2.2.1 62 = .ok (.if_icmp .ne 32, 3) := by decide +kernel
theorem dc_X11_isSame_70 : decode m_X11_isSame.2.2.1 70 = .ok (.iaload, 1) := by decide +kernel
theorem dc_X11_isSame_72 : decode m_X11_isSame.2.2.1 72 = .ok (.if_icmp .lt 18, 3) := by decide +kernel
theorem dc_X11_isSame_80 : decode m_X11_isSame.2.2.1 80 = .ok (.iaload, 1) := by decide +kernel
theorem dc_X11_isSame_86 : decode m_X11_isSame.2.2.1 86 = .ok (.iaload, 1) := by decide +kernel
theorem dc_X11_isSame_87 : decode m_X11_isSame.2.2.1 87 = .ok (.if_icmp .ne 7, 3) := by decide +kernel
theorem dc_X11_isSame_91 : decode m_X11_isSame.2.2.1 91 = .ok (.goto 4, 3) := by decide +kernel
theorem dc_X11_isSame_106 : decode m_X11_isSame.2.2.1 106 = .ok (.iaload, 1) := by decide +kernel
theorem dc_X11_isSame_107 : decode m_X11_isSame.2.2.1 107 = .ok (.if_icmp .ge 50, 3) := by decide +kernel
theorem dc_X11_isSame_111 : decode m_X11_isSame.2.2.1 111 = .ok (.ifCond .eq 46, 3) := by decide +kernel
theorem dc_X11_isSame_123 : decode m_X11_isSame.2.2.1 123 = .ok (.iaload, 1) := by decide +kernel
theorem dc_X11_isSame_127 : decode m_X11_isSame.2.2.1 127 = .ok (.iaload, 1) := by decide +kernel
theorem dc_X11_isSame_137 : decode m_X11_isSame.2.2.1 137 = .ok (.iaload, 1) := by decide +kernel
theorem dc_X11_isSame_141 : decode m_X11_isSame.2.2.1 141 = .ok (.iaload, 1) := by decide +kernel
theorem dc_X11_isSame_142 : decode m_X11_isSame.2.2.1 142 = .ok (.if_icmp .ne 7, 3) := by decide +kernel
theorem dc_X11_isSame_146 : decode m_X11_isSame.2.2.1 146 = .ok (.goto 4, 3) := by decide +kernel
theorem dc_X11_isSame_154 : decode m_X11_isSame.2.2.1 154 = .ok (.goto (-55), 3) := by decide +kernel
theorem dc_X11_isSame_158 : decode m_X11_isSame.2.2.1 158 = .ok (.ireturn, 1) := by decide +kernel
theorem ok_X11_isSame_0_3 : oks m_X11_isSame.1 m_X11_isSame.2.2.1 0 [(.aload_n 0, 1, (0, 0, 0)), (.getfield 131, 3, (11, 58, 0)), (.iload_n 1, 1, (0, 0, 0))] = true ∧ plen 0 [(.aload_n 0, 1, (0, 0, 0)), (.getfield 131, 3, (11, 58, 0)), (.iload_n 1, 1, (0, 0, 0))] = 5 := by decide +kernel
theorem ok_X11_isSame_6_3 : oks m_X11_isSame.1 m_X11_isSame.2.2.1 6 [(.aload_n 0, 1, (0, 0, 0)), (.getfield 131, 3, (11, 58, 0)), (.iload_n 2, 1, (0, 0, 0))] = true ∧ plen 6 [(.aload_n 0, 1, (0, 0, 0)), (.getfield 131, 3, (11, 58, 0)), (.iload_n 2, 1, (0, 0, 0))] = 11 := by decide +kernel
theorem ok_X11_isSame_15_3 : oks m_X11_isSame.1 m_X11_isSame.2.2.1 15 [(.aload_n 0, 1, (0, 0, 0)), (.getfield 143, 3, (11, 62, 0)), (.iload_n 1, 1, (0, 0, 0))] = true ∧ plen 15 [(.aload_n 0, 1, (0, 0, 0)), (.getfield 143, 3, (11, 62, 0)), (.iload_n 1, 1, (0, 0, 0))] = 20 := by decide +kernel
theorem ok_X11_isSame_21_3 : oks m_X11_isSame.1 m_X11_isSame.2.2.1 21 [(.aload_n 0, 1, (0, 0, 0)), (.getfield 143, 3, (11, 62, 0)), (.iload_n 2, 1, (0, 0, 0))] = true ∧ plen 21 [(.aload_n 0, 1, (0, 0, 0)), (.getfield 143, 3, (11, 62, 0)), (.iload_n 2, 1, (0, 0, 0))] = 26 := by decide +kernel
theorem ok_X11_isSame_30_1 : oks m_X11_isSame.1 m_X11_isSame.2.2.1 30 [(.iconst 1, 1, (0, 0, 0))] = true ∧ plen 30 [(.iconst 1, 1, (0, 0, 0))] = 31 := by decide +kernel
theorem ok_X11_isSame_34_1 : oks m_X11_isSame.1 m_X11_isSame.2.2.1 34 [(.iconst 0, 1, (0, 0, 0))] = true ∧ plen 34 [(.iconst 0, 1, (0, 0, 0))] = 35 := by decide +kernel
theorem ok_X11_isSame_35_2 : oks m_X11_isSame.1 m_X11_isSame.2.2.1 35 [(.istore_n 3, 1, (0, 0, 0)), (.iload_n 3, 1, (0, 0, 0))] = true ∧ plen 35 [(.istore_n 3, 1, (0, 0, 0)), (.iload_n 3, 1, (0, 0, 0))] = 37 := by decide +kernel
theorem ok_X11_isSame_40_3 : oks m_X11_isSame.1 m_X11_isSame.2.2.1 40 [(.aload_n 0, 1, (0, 0, 0)), (.getfield 131, 3, (11, 58, 0)), (.iload_n 1, 1, (0, 0, 0))] = true ∧ plen 40 [(.aload_n 0, 1, (0, 0, 0)), (.getfield 131, 3, (11, 58, 0)), (.iload_n 1, 1, (0, 0, 0))] = 45 := by decide +kernel
theorem ok_X11_isSame_46_1 : oks m_X11_isSame.1 m_X11_isSame.2.2.1 46 [(.iconst 2, 1, (0, 0, 0))] = true ∧ plen 46 [(.iconst 2, 1, (0, 0, 0))] = 47 := by decide +kernel
theorem ok_X11_isSame_50_3 : oks m_X11_isSame.1 m_X11_isSame.2.2.1 50 [(.aload_n 0, 1, (0, 0, 0)), (.getfield 134, 3, (11, 59, 0)), (.iload_n 1, 1, (0, 0, 0))] = true ∧ plen 50 [(.aload_n 0, 1, (0, 0, 0)), (.getfield 134, 3, (11, 59, 0)), (.iload_n 1, 1, (0, 0, 0))] = 55 := by decide +kernel
theorem ok_X11_isSame_56_3 : oks m_X11_isSame.1 m_X11_isSame.2.2.1 56 [(.aload_n 0, 1, (0, 0, 0)), (.getfield 134, 3, (11, 59, 0)), (.iload_n 2, 1, (0, 0, 0))] = true ∧ plen 56 [(.aload_n 0, 1, (0, 0, 0)), (.getfield 134, 3, (11, 59, 0)), (.iload_n 2, 1, (0, 0, 0))] = 61 := by decide +kernel
theorem ok_X11_isSame_65_3 : oks m_X11_isSame.1 m_X11_isSame.2.2.1 65 [(.aload_n 0, 1, (0, 0, 0)), (.getfield 131, 3, (11, 58, 0)), (.iload_n 1, 1, (0, 0, 0))] = true ∧ plen 65 [(.aload_n 0, 1, (0, 0, 0)), (.getfield 131, 3, (11, 58, 0)), (.iload_n 1, 1, (0, 0, 0))] = 70 := by decide +kernel
theorem ok_X11_isSame_71_1 : oks m_X11_isSame.1 m_X11_isSame.2.2.1 71 [(.iconst 4, 1, (0, 0, 0))] = true ∧ plen 71 [(.iconst 4, 1, (0, 0, 0))] = 72 := by decide +kernel
theorem ok_X11_isSame_75_3 : oks m_X11_isSame.1 m_X11_isSame.2.2.1 75 [(.aload_n 0, 1, (0, 0, 0)), (.getfield 137, 3, (11, 60, 0)), (.iload_n 1, 1, (0, 0, 0))] = true ∧ plen 75 [(.aload_n 0, 1, (0, 0, 0)), (.getfield 137, 3, (11, 60, 0)), (.iload_n 1, 1, (0, 0, 0))] = 80 := by decide +kernel
theorem ok_X11_isSame_81_3 : oks m_X11_isSame.1 m_X11_isSame.2.2.1 81 [(.aload_n 0, 1, (0, 0, 0)), (.getfield 137, 3, (11, 60, 0)), (.iload_n 2, 1, (0, 0, 0))] = true ∧ plen 81 [(.aload_n 0, 1, (0, 0, 0)), (.getfield 137, 3, (11, 60, 0)), (.iload_n 2, 1, (0, 0, 0))] = 86 := by decide +kernel
theorem ok_X11_isSame_90_1 : oks m_X11_isSame.1 m_X11_isSame.2.2.1 90 [(.iconst 1, 1, (0, 0, 0))] = true ∧ plen 90 [(.iconst 1, 1, (0, 0, 0))] = 91 := by decide +kernel
theorem ok_X11_isSame_94_1 : oks m_X11_isSame.1 m_X11_isSame.2.2.1 94 [(.iconst 0, 1, (0, 0, 0))] = true ∧ plen 94 [(.iconst 0, 1, (0, 0, 0))] = 95 := by decide +kernel
theorem ok_X11_isSame_95_3 : oks m_X11_isSame.1 m_X11_isSame.2.2.1 95 [(.istore_n 3, 1, (0, 0, 0)), (.iconst 0, 1, (0, 0, 0)), (.istore 4, 2, (0, 0, 0))] = true ∧ plen 95 [(.istore_n 3, 1, (0, 0, 0)), (.iconst 0, 1, (0, 0, 0)), (.istore 4, 2, (0, 0, 0))] = 99 := by decide +kernel
theorem ok_X11_isSame_99_4 : oks m_X11_isSame.1 m_X11_isSame.2.2.1 99 [(.iload 4, 2, (0, 0, 0)), (.aload_n 0, 1, (0, 0, 0)), (.getfield 143, 3, (11, 62, 0)), (.iload_n 1, 1, (0, 0, 0))] = true ∧ plen 99 [(.iload 4, 2, (0, 0, 0)), (.aload_n 0, 1, (0, 0, 0)), (.getfield 143, 3, (11, 62, 0)), (.iload_n 1, 1, (0, 0, 0))] = 106 := by decide +kernel
theorem ok_X11_isSame_110_1 : oks m_X11_isSame.1 m_X11_isSame.2.2.1 110 [(.iload_n 3, 1, (0, 0, 0))] = true ∧ plen 110 [(.iload_n 3, 1, (0, 0, 0))] = 111 := by decide +kernel
theorem ok_X11_isSame_114_5 : oks m_X11_isSame.1 m_X11_isSame.2.2.1 114 [(.aload_n 0, 1, (0, 0, 0)), (.getfield 146, 3, (11, 63, 0)), (.aload_n 0, 1, (0, 0, 0)), (.getfield 140, 3, (11, 61, 0)), (.iload_n 1, 1, (0, 0, 0))] = true ∧ plen 114 [(.aload_n 0, 1, (0, 0, 0)), (.getfield 146, 3, (11, 63, 0)), (.aload_n 0, 1, (0, 0, 0)), (.getfield 140, 3, (11, 61, 0)), (.iload_n 1, 1, (0, 0, 0))] = 123 := by decide +kernel
theorem ok_X11_isSame_124_2 : oks m_X11_isSame.1 m_X11_isSame.2.2.1 124 [(.iload 4, 2, (0, 0, 0)), (.iadd, 1, (0, 0, 0))] = true ∧ plen 124 [(.iload 4, 2, (0, 0, 0)), (.iadd, 1, (0, 0, 0))] = 127 := by decide +kernel
theorem ok_X11_isSame_128_5 : oks m_X11_isSame.1 m_X11_isSame.2.2.1 128 [(.aload_n 0, 1, (0, 0, 0)), (.getfield 146, 3, (11, 63, 0)), (.aload_n 0, 1, (0, 0, 0)), (.getfield 140, 3, (11, 61, 0)), (.iload_n 2, 1, (0, 0, 0))] = true ∧ plen 128 [(.aload_n 0, 1, (0, 0, 0)), (.getfield 146, 3, (11, 63, 0)), (.aload_n 0, 1, (0, 0, 0)), (.getfield 140, 3, (11, 61, 0)), (.iload_n 2, 1, (0, 0, 0))] = 137 := by decide +kernel
theorem ok_X11_isSame_138_2 : oks m_X11_isSame.1 m_X11_isSame.2.2.1 138 [(.iload 4, 2, (0, 0, 0)), (.iadd, 1, (0, 0, 0))] = true ∧ plen 138 [(.iload 4, 2, (0, 0, 0)), (.iadd, 1, (0, 0, 0))] = 141 := by decide +kernel
theorem ok_X11_isSame_145_1 : oks m_X11_isSame.1 m_X11_isSame.2.2.1 145 [(.iconst 1, 1, (0, 0, 0))] = true ∧ plen 145 [(.iconst 1, 1, (0, 0, 0))] = 146 := by decide +kernel
theorem ok_X11_isSame_149_1 : oks m_X11_isSame.1 m_X11_isSame.2.2.1 149 [(.iconst 0, 1, (0, 0, 0))] = true ∧ plen 149 [(.iconst 0, 1, (0, 0, 0))] = 150 := by decide +kernel
theorem ok_X11_isSame_150_2 : oks m_X11_isSame.1 m_X11_isSame.2.2.1 150 [(.istore_n 3, 1, (0, 0, 0)), (.iinc 4 1, 3, (0, 0, 0))] = true ∧ plen 150 [(.istore_n 3, 1, (0, 0, 0)), (.iinc 4 1, 3, (0, 0, 0))] = 154 := by decide +kernel
theorem ok_X11_isSame_157_1 : oks m_X11_isSame.1 m_X11_isSame.2.2.1 157 [(.iload_n 3, 1, (0, 0, 0))] = true ∧ plen 157 [(.iload_n 3, 1, (0, 0, 0))] = 158 := by decide +kernel
def B_X11_isSame_150 (x4 : Int) (y0 : Bool) (σ : Sg) : Option ((Bool × Int) ⊕ Bool) :=
some (.inl (y0, wrap (x4 + 1)))
def L_X11_isSame_99 (x1 : Int) (x2 : Int) (σ : Sg) (x3 : Bool) (x4 : Int) : Option ((Bool × Int) ⊕ Bool) :=
(rdn 512 σ 45 x1).bind fun v5 =>
if v5 ≤ x4 then
some (.inr x3)
else
if x3 = true then
(rdn 512 σ 44 x1).bind fun v7 =>
(rdn 512 σ 46 (wrap (v7 + x4))).bind fun v9 =>
(rdn 512 σ 44 x2).bind fun v11 =>
(rdn 512 σ 46 (wrap (v11 + x4))).bind fun v13 =>
if v9 = v13 then
B_X11_isSame_150 x4 true σ
else
B_X11_isSame_150 x4 false σ
else
some (.inr x3)
def B_X11_isSame_95 (x1 : Int) (x2 : Int) (y0 : Bool) (σ : Sg) : Option Bool :=
(iter (fun a : (Bool × Int) => L_X11_isSame_99 x1 x2 σ a.1 a.2) 3000 (y0, 0)).bind fun y15 =>
some y15
def B_X11_isSame_94 (x1 : Int) (x2 : Int) (σ : Sg) : Option Bool :=
B_X11_isSame_95 x1 x2 false σ
def B_X11_isSame_90 (x1 : Int) (x2 : Int) (σ : Sg) : Option Bool :=
B_X11_isSame_95 x1 x2 true σ
def B_X11_isSame_65 (x1 : Int) (x2 : Int) (σ : Sg) : Option Bool :=
(rdn 512 σ 41 x1).bind fun v19 =>
if v19 < 4 then
B_X11_isSame_90 x1 x2 σ
else
(rdn 512 σ 43 x1).bind fun v21 =>
(rdn 512 σ 43 x2).bind fun v23 =>
if v21 = v23 then
B_X11_isSame_90 x1 x2 σ
else
B_X11_isSame_94 x1 x2 σ
def B_X11_isSame_35 (x1 : Int) (x2 : Int) (y0 : Bool) (σ : Sg) : Option Bool :=
if y0 = true then
(rdn 512 σ 41 x1).bind fun v17 =>
if v17 = 2 then
B_X11_isSame_65 x1 x2 σ
else
(rdn 512 σ 42 x1).bind fun v25 =>
(rdn 512 σ 42 x2).bind fun v27 =>
if v25 = v27 then
B_X11_isSame_65 x1 x2 σ
else
B_X11_isSame_94 x1 x2 σ
else
B_X11_isSame_94 x1 x2 σ
def B_X11_isSame_34 (x1 : Int) (x2 : Int) (σ : Sg) : Option Bool :=
B_X11_isSame_35 x1 x2 false σ
def F_X11_isSame (a1 : Int) (a2 : Int) (σ : Sg) : Option Bool :=
(rdn 512 σ 41 a1).bind fun v1 =>
(rdn 512 σ 41 a2).bind fun v3 =>
if v1 = v3 then
(rdn 512 σ 45 a1).bind fun v29 =>
(rdn 512 σ 45 a2).bind fun v31 =>
if v29 = v31 then
B_X11_isSame_35 a1 a2 true σ
else
B_X11_isSame_34 a1 a2 σ
else
B_X11_isSame_34 a1 a2 σ
theorem lk_X11_isSame (l : Launch) (d : Nat) (hd : 0 ≤ d) (a1 : Int) (a2 : Int) (σ : Sg) (q : Bool) (h : F_X11_isSame a1 a2 σ = some q) : CT l d m_X11_isSame.2.1 m_X11_isSame.2.2.1 m_X11_isSame.2.2.2.1 m_X11_isSame.2.2.2.2 [.inr 0, .inl a1, .inl a2] (LAYM, σ) (some (.inl (b2i q))) (LAYM, σ) := by
  skip
  have key : Go l m_X11_isSame d LAYM (.inl (some (.inl (b2i q)))) σ 0 [some (.inr 0), some (.inl a1), some (.inl a2), none, none] [] σ := by
    unfold F_X11_isSame at h
    have hL_X11_isSame_99 : ∀ (x1 : Int) (x2 : Int) (σ : Sg) (n : Nat) (a : (Bool × Int)) (y : Bool), iter (fun a : (Bool × Int) => L_X11_isSame_99 x1 x2 σ a.1 a.2) n a = some y → (fun y : Bool => Go l m_X11_isSame d LAYM (.inl (some (.inl (b2i q)))) σ 157 [none, none, none, some (.inl (b2i y)), none] [] σ) y → (fun a : (Bool × Int) => Go l m_X11_isSame d LAYM (.inl (some (.inl (b2i q)))) σ 99 [some (.inr 0), some (.inl x1), some (.inl x2), some (.inl (b2i a.1)), some (.inl a.2)] [] σ) a := by
      intro x1 x2 σ
      refine go_iter (G := fun a : (Bool × Int) => Go l m_X11_isSame d LAYM (.inl (some (.inl (b2i q)))) σ 99 [some (.inr 0), some (.inl x1), some (.inl x2), some (.inl (b2i a.1)), some (.inl a.2)] [] σ) (K := fun y : Bool => Go l m_X11_isSame d LAYM (.inl (some (.inl (b2i q)))) σ 157 [none, none, none, some (.inl (b2i y)), none] [] σ) ?_
      rintro ⟨x3, x4⟩ w h hK
      replace h : L_X11_isSame_99 x1 x2 σ x3 x4 = some w := h
      show Go l m_X11_isSame d LAYM (.inl (some (.inl (b2i q)))) σ 99 [some (.inr 0), some (.inl x1), some (.inl x2), some (.inl (b2i x3)), some (.inl x4)] [] σ
      unfold L_X11_isSame_99 at h
      have hB_X11_isSame_150 : ∀ (x4 : Int) (y0 : Bool), B_X11_isSame_150 x4 y0 σ = some w → Go l m_X11_isSame d LAYM (.inl (some (.inl (b2i q)))) σ 150 [some (.inr 0), some (.inl x1), some (.inl x2), none, some (.inl x4)] [.inl (b2i y0)] σ := by
        intro x4 y0 h
        unfold B_X11_isSame_150 at h
        refine go_ops ok_X11_isSame_150_2 (L' := [some (.inr 0), some (.inl x1), some (.inl x2), some (.inl (b2i y0)), some (.inl (wrap (x4 + 1)))]) (st' := []) (σ1 := σ) rfl ?_
        refine go_goto dc_X11_isSame_154 (by rfl) ?_
        cases h
        exact hK
      refine go_ops ok_X11_isSame_99_4 (L' := [some (.inr 0), some (.inl x1), some (.inl x2), some (.inl (b2i x3)), some (.inl x4)]) (st' := [.inl x1, .inr 45, .inl x4]) (σ1 := σ) rfl ?_
      obtain ⟨v5, e6, h⟩ := bind_inv h
      refine go_rd (k := 45) dc_X11_isSame_106 rfl e6 ?_
      refine go_icmp_ge dc_X11_isSame_107 (by rfl) (fun hc => ?_) (fun hc => ?_)
      · replace h := (if_pos hc).symm.trans h
        cases h
        refine go_wk (L' := [none, none, none, some (.inl (b2i x3)), none]) ⟨rfl, trivial⟩ ?_
        exact hK
      · replace h := (if_neg hc).symm.trans h
        refine go_ops ok_X11_isSame_110_1 (L' := [some (.inr 0), some (.inl x1), some (.inl x2), some (.inl (b2i x3)), some (.inl x4)]) (st' := [.inl (b2i x3)]) (σ1 := σ) rfl ?_
        refine go_ifb_eq dc_X11_isSame_111 (by rfl) (fun hc => ?_) (fun hc => ?_)
        · replace h := (if_neg hc).symm.trans h
          cases h
          refine go_wk (L' := [none, none, none, some (.inl (b2i x3)), none]) ⟨rfl, trivial⟩ ?_
          exact hK
        · replace h := (if_pos hc).symm.trans h
          refine go_ops ok_X11_isSame_114_5 (L' := [some (.inr 0), some (.inl x1), some (.inl x2), some (.inl (b2i x3)), some (.inl x4)]) (st' := [.inl x1, .inr 44, .inr 46]) (σ1 := σ) rfl ?_
          obtain ⟨v7, e8, h⟩ := bind_inv h
          refine go_rd (k := 44) dc_X11_isSame_123 rfl e8 ?_
          refine go_ops ok_X11_isSame_124_2 (L' := [some (.inr 0), some (.inl x1), some (.inl x2), some (.inl (b2i x3)), some (.inl x4)]) (st' := [.inl (wrap (v7 + x4)), .inr 46]) (σ1 := σ) rfl ?_
          obtain ⟨v9, e10, h⟩ := bind_inv h
          refine go_rd (k := 46) dc_X11_isSame_127 rfl e10 ?_
          refine go_ops ok_X11_isSame_128_5 (L' := [some (.inr 0), some (.inl x1), some (.inl x2), some (.inl (b2i x3)), some (.inl x4)]) (st' := [.inl x2, .inr 44, .inr 46, .inl v9]) (σ1 := σ) rfl ?_
          obtain ⟨v11, e12, h⟩ := bind_inv h
          refine go_rd (k := 44) dc_X11_isSame_137 rfl e12 ?_
          refine go_ops ok_X11_isSame_138_2 (L' := [some (.inr 0), some (.inl x1), some (.inl x2), some (.inl (b2i x3)), some (.inl x4)]) (st' := [.inl (wrap (v11 + x4)), .inr 46, .inl v9]) (σ1 := σ) rfl ?_
          obtain ⟨v13, e14, h⟩ := bind_inv h
          refine go_rd (k := 46) dc_X11_isSame_141 rfl e14 ?_
          refine go_icmp_ne dc_X11_isSame_142 (by rfl) (fun hc => ?_) (fun hc => ?_)
          · replace h := (if_neg hc).symm.trans h
            refine go_ops ok_X11_isSame_149_1 (L' := [some (.inr 0), some (.inl x1), some (.inl x2), some (.inl (b2i x3)), some (.inl x4)]) (st' := [.inl 0]) (σ1 := σ) rfl ?_
            refine go_wk (L' := [some (.inr 0), some (.inl x1), some (.inl x2), none, some (.inl x4)]) ⟨rfl, rfl, rfl, rfl, trivial⟩ ?_
            exact hB_X11_isSame_150 x4 false h
          · replace h := (if_pos hc).symm.trans h
            refine go_ops ok_X11_isSame_145_1 (L' := [some (.inr 0), some (.inl x1), some (.inl x2), some (.inl (b2i x3)), some (.inl x4)]) (st' := [.inl 1]) (σ1 := σ) rfl ?_
            refine go_goto dc_X11_isSame_146 (by rfl) ?_
            refine go_wk (L' := [some (.inr 0), some (.inl x1), some (.inl x2), none, some (.inl x4)]) ⟨rfl, rfl, rfl, rfl, trivial⟩ ?_
            exact hB_X11_isSame_150 x4 true h
    have hB_X11_isSame_95 : ∀ (x1 : Int) (x2 : Int) (y0 : Bool) (σ : Sg), B_X11_isSame_95 x1 x2 y0 σ = some q → Go l m_X11_isSame d LAYM (.inl (some (.inl (b2i q)))) σ 95 [some (.inr 0), some (.inl x1), some (.inl x2), none, none] [.inl (b2i y0)] σ := by
      intro x1 x2 y0 σ h
      unfold B_X11_isSame_95 at h
      refine go_ops ok_X11_isSame_95_3 (L' := [some (.inr 0), some (.inl x1), some (.inl x2), some (.inl (b2i y0)), some (.inl 0)]) (st' := []) (σ1 := σ) rfl ?_
      obtain ⟨y15, e16, h⟩ := bind_inv h
      refine hL_X11_isSame_99 x1 x2 σ 3000 (y0, 0) y15 e16 ?_
      show Go l m_X11_isSame d LAYM (.inl (some (.inl (b2i q)))) σ 157 [none, none, none, some (.inl (b2i y15)), none] [] σ
      refine go_ops ok_X11_isSame_157_1 (L' := [none, none, none, some (.inl (b2i y15)), none]) (st' := [.inl (b2i y15)]) (σ1 := σ) rfl ?_
      have h9 := Option.some.inj h
      subst h9
      exact go_zret (x := y15) dc_X11_isSame_158 rfl
    have hB_X11_isSame_94 : ∀ (x1 : Int) (x2 : Int) (σ : Sg), B_X11_isSame_94 x1 x2 σ = some q → Go l m_X11_isSame d LAYM (.inl (some (.inl (b2i q)))) σ 94 [some (.inr 0), some (.inl x1), some (.inl x2), none, none] [] σ := by
      intro x1 x2 σ h
      unfold B_X11_isSame_94 at h
      refine go_ops ok_X11_isSame_94_1 (L' := [some (.inr 0), some (.inl x1), some (.inl x2), none, none]) (st' := [.inl 0]) (σ1 := σ) rfl ?_
      exact hB_X11_isSame_95 x1 x2 false σ h
    have hB_X11_isSame_90 : ∀ (x1 : Int) (x2 : Int) (σ : Sg), B_X11_isSame_90 x1 x2 σ = some q → Go l m_X11_isSame d LAYM (.inl (some (.inl (b2i q)))) σ 90 [some (.inr 0), some (.inl x1), some (.inl x2), none, none] [] σ := by
      intro x1 x2 σ h
      unfold B_X11_isSame_90 at h
      refine go_ops ok_X11_isSame_90_1 (L' := [some (.inr 0), some (.inl x1), some (.inl x2), none, none]) (st' := [.inl 1]) (σ1 := σ) rfl ?_
      refine go_goto dc_X11_isSame_91 (by rfl) ?_
      exact hB_X11_isSame_95 x1 x2 true σ h
    have hB_X11_isSame_65 : ∀ (x1 : Int) (x2 : Int) (σ : Sg), B_X11_isSame_65 x1 x2 σ = some q → Go l m_X11_isSame d LAYM (.inl (some (.inl (b2i q)))) σ 65 [some (.inr 0), some (.inl x1), some (.inl x2), none, none] [] σ := by
      intro x1 x2 σ h
      unfold B_X11_isSame_65 at h
      refine go_ops ok_X11_isSame_65_3 (L' := [some (.inr 0), some (.inl x1), some (.inl x2), none, none]) (st' := [.inl x1, .inr 41]) (σ1 := σ) rfl ?_
      obtain ⟨v19, e20, h⟩ := bind_inv h
      refine go_rd (k := 41) dc_X11_isSame_70 rfl e20 ?_
      refine go_ops ok_X11_isSame_71_1 (L' := [some (.inr 0), some (.inl x1), some (.inl x2), none, none]) (st' := [.inl 4, .inl v19]) (σ1 := σ) rfl ?_
      refine go_icmp_lt dc_X11_isSame_72 (by rfl) (fun hc => ?_) (fun hc => ?_)
      · replace h := (if_pos hc).symm.trans h
        exact hB_X11_isSame_90 x1 x2 σ h
      · replace h := (if_neg hc).symm.trans h
        refine go_ops ok_X11_isSame_75_3 (L' := [some (.inr 0), some (.inl x1), some (.inl x2), none, none]) (st' := [.inl x1, .inr 43]) (σ1 := σ) rfl ?_
        obtain ⟨v21, e22, h⟩ := bind_inv h
        refine go_rd (k := 43) dc_X11_isSame_80 rfl e22 ?_
        refine go_ops ok_X11_isSame_81_3 (L' := [some (.inr 0), some (.inl x1), some (.inl x2), none, none]) (st' := [.inl x2, .inr 43, .inl v21]) (σ1 := σ) rfl ?_
        obtain ⟨v23, e24, h⟩ := bind_inv h
        refine go_rd (k := 43) dc_X11_isSame_86 rfl e24 ?_
        refine go_icmp_ne dc_X11_isSame_87 (by rfl) (fun hc => ?_) (fun hc => ?_)
        · replace h := (if_neg hc).symm.trans h
          exact hB_X11_isSame_94 x1 x2 σ h
        · replace h := (if_pos hc).symm.trans h
          exact hB_X11_isSame_90 x1 x2 σ h
    have hB_X11_isSame_35 : ∀ (x1 : Int) (x2 : Int) (y0 : Bool) (σ : Sg), B_X11_isSame_35 x1 x2 y0 σ = some q → Go l m_X11_isSame d LAYM (.inl (some (.inl (b2i q)))) σ 35 [some (.inr 0), some (.inl x1), some (.inl x2), none, none] [.inl (b2i y0)] σ := by
      intro x1 x2 y0 σ h
      unfold B_X11_isSame_35 at h
      refine go_ops ok_X11_isSame_35_2 (L' := [some (.inr 0), some (.inl x1), some (.inl x2), some (.inl (b2i y0)), none]) (st' := [.inl (b2i y0)]) (σ1 := σ) rfl ?_
      refine go_ifb_eq dc_X11_isSame_37 (by rfl) (fun hc => ?_) (fun hc => ?_)
      · replace h := (if_neg hc).symm.trans h
        refine go_wk (L' := [some (.inr 0), some (.inl x1), some (.inl x2), none, none]) ⟨rfl, rfl, rfl, trivial⟩ ?_
        exact hB_X11_isSame_94 x1 x2 σ h
      · replace h := (if_pos hc).symm.trans h
        refine go_ops ok_X11_isSame_40_3 (L' := [some (.inr 0), some (.inl x1), some (.inl x2), some (.inl (b2i y0)), none]) (st' := [.inl x1, .inr 41]) (σ1 := σ) rfl ?_
        obtain ⟨v17, e18, h⟩ := bind_inv h
        refine go_rd (k := 41) dc_X11_isSame_45 rfl e18 ?_
        refine go_ops ok_X11_isSame_46_1 (L' := [some (.inr 0), some (.inl x1), some (.inl x2), some (.inl (b2i y0)), none]) (st' := [.inl 2, .inl v17]) (σ1 := σ) rfl ?_
        refine go_icmp_eq dc_X11_isSame_47 (by rfl) (fun hc => ?_) (fun hc => ?_)
        · replace h := (if_pos hc).symm.trans h
          refine go_wk (L' := [some (.inr 0), some (.inl x1), some (.inl x2), none, none]) ⟨rfl, rfl, rfl, trivial⟩ ?_
          exact hB_X11_isSame_65 x1 x2 σ h
        · replace h := (if_neg hc).symm.trans h
          refine go_ops ok_X11_isSame_50_3 (L' := [some (.inr 0), some (.inl x1), some (.inl x2), some (.inl (b2i y0)), none]) (st' := [.inl x1, .inr 42]) (σ1 := σ) rfl ?_
          obtain ⟨v25, e26, h⟩ := bind_inv h
          refine go_rd (k := 42) dc_X11_isSame_55 rfl e26 ?_
          refine go_ops ok_X11_isSame_56_3 (L' := [some (.inr 0), some (.inl x1), some (.inl x2), some (.inl (b2i y0)), none]) (st' := [.inl x2, .inr 42, .inl v25]) (σ1 := σ) rfl ?_
          obtain ⟨v27, e28, h⟩ := bind_inv h
          refine go_rd (k := 42) dc_X11_isSame_61 rfl e28 ?_
          refine go_icmp_ne dc_X11_isSame_62 (by rfl) (fun hc => ?_) (fun hc => ?_)
          · replace h := (if_neg hc).symm.trans h
            refine go_wk (L' := [some (.inr 0), some (.inl x1), some (.inl x2), none, none]) ⟨rfl, rfl, rfl, trivial⟩ ?_
            exact hB_X11_isSame_94 x1 x2 σ h
          · replace h := (if_pos hc).symm.trans h
            refine go_wk (L' := [some (.inr 0), some (.inl x1), some (.inl x2), none, none]) ⟨rfl, rfl, rfl, trivial⟩ ?_
            exact hB_X11_isSame_65 x1 x2 σ h
    have hB_X11_isSame_34 : ∀ (x1 : Int) (x2 : Int) (σ : Sg), B_X11_isSame_34 x1 x2 σ = some q → Go l m_X11_isSame d LAYM (.inl (some (.inl (b2i q)))) σ 34 [some (.inr 0), some (.inl x1), some (.inl x2), none, none] [] σ := by
      intro x1 x2 σ h
      unfold B_X11_isSame_34 at h
      refine go_ops ok_X11_isSame_34_1 (L' := [some (.inr 0), some (.inl x1), some (.inl x2), none, none]) (st' := [.inl 0]) (σ1 := σ) rfl ?_
      exact hB_X11_isSame_35 x1 x2 false σ h
    refine go_ops ok_X11_isSame_0_3 (L' := [some (.inr 0), some (.inl a1), some (.inl a2), none, none]) (st' := [.inl a1, .inr 41]) (σ1 := σ) rfl ?_
    obtain ⟨v1, e2, h⟩ := bind_inv h
    refine go_rd (k := 41) dc_X11_isSame_5 rfl e2 ?_
    refine go_ops ok_X11_isSame_6_3 (L' := [some (.inr 0), some (.inl a1), some (.inl a2), none, none]) (st' := [.inl a2, .inr 41, .inl v1]) (σ1 := σ) rfl ?_
    obtain ⟨v3, e4, h⟩ := bind_inv h
    refine go_rd (k := 41) dc_X11_isSame_11 rfl e4 ?_
    refine go_icmp_ne dc_X11_isSame_12 (by rfl) (fun hc => ?_) (fun hc => ?_)
    · replace h := (if_neg hc).symm.trans h
      exact hB_X11_isSame_34 a1 a2 σ h
    · replace h := (if_pos hc).symm.trans h
      refine go_ops ok_X11_isSame_15_3 (L' := [some (.inr 0), some (.inl a1), some (.inl a2), none, none]) (st' := [.inl a1, .inr 45]) (σ1 := σ) rfl ?_
      obtain ⟨v29, e30, h⟩ := bind_inv h
      refine go_rd (k := 45) dc_X11_isSame_20 rfl e30 ?_
      refine go_ops ok_X11_isSame_21_3 (L' := [some (.inr 0), some (.inl a1), some (.inl a2), none, none]) (st' := [.inl a2, .inr 45, .inl v29]) (σ1 := σ) rfl ?_
      obtain ⟨v31, e32, h⟩ := bind_inv h
      refine go_rd (k := 45) dc_X11_isSame_26 rfl e32 ?_
      refine go_icmp_ne dc_X11_isSame_27 (by rfl) (fun hc => ?_) (fun hc => ?_)
      · replace h := (if_neg hc).symm.trans h
        exact hB_X11_isSame_34 a1 a2 σ h
      · replace h := (if_pos hc).symm.trans h
        refine go_ops ok_X11_isSame_30_1 (L' := [some (.inr 0), some (.inl a1), some (.inl a2), none, none]) (st' := [.inl 1]) (σ1 := σ) rfl ?_
        refine go_goto dc_X11_isSame_31 (by rfl) ?_
        exact hB_X11_isSame_35 a1 a2 true σ h
  have hf := go_ct (as := [.inr 0, .inl a1, .inl a2]) mk_X11_isSame (by rfl) (Nat.le_of_ble_eq_true rfl) key
  exact hf
theorem dc_X11_isOwn_5 : decode m_X11_isOwn.2.2.1 5 = .ok (.iaload, 1) := by decide +kernel
theorem dc_X11_isOwn_7 : decode m_X11_isOwn.2.2.1 7 = .ok (.if_icmp .ne 16, 3) := by decide +kernel
theorem dc_X11_isOwn_15 : decode m_X11_isOwn.2.2.1 15 = .ok (.iaload, 1) := by decide +kernel
theorem dc_X11_isOwn_16 : decode m_X11_isOwn.2.2.1 16 = .ok (.ifCond .le 7, 3) := by decide +kernel
theorem dc_X11_isOwn_20 : decode m_X11_isOwn.2.2.1 20 = .ok (.goto 4, 3) := by decide +kernel
theorem dc_X11_isOwn_33 : decode m_X11_isOwn.2.2.1 33 = .ok (.iaload, 1) := by decide +kernel
theorem dc_X11_isOwn_34 : decode m_X11_isOwn.2.2.1 34 = .ok (.if_icmp .ge 46, 3) := by decide +kernel
theorem dc_X11_isOwn_38 : decode m_X11_isOwn.2.2.1 38 = .ok (.ifCond .eq 42, 3) := by decide +kernel
theorem dc_X11_isOwn_50 : decode m_X11_isOwn.2.2.1 50 = .ok (.iaload, 1) := by decide +kernel
theorem dc_X11_isOwn_53 : decode m_X11_isOwn.2.2.1 53 = .ok (.iaload, 1) := by decide +kernel
theorem dc_X11_isOwn_63 : decode m_X11_isOwn.2.2.1 63 = .ok (.iaload, 1) := by decide +kernel
theorem dc_X11_isOwn_64 : decode m_X11_isOwn.2.2.1 64 = .ok (.iaload, 1) := by decide +kernel
theorem dc_X11_isOwn_65 : decode m_X11_isOwn.2.2.1 65 = .ok (.if_icmp .ne 7, 3) := by decide +kernel
theorem dc_X11_isOwn_69 : decode m_X11_isOwn.2.2.1 69 = .ok (.goto 4, 3) := by decide +kernel
theorem dc_X11_isOwn_77 : decode m_X11_isOwn.2.2.1 77 = .ok (.goto (-50), 3) := by decide +kernel
theorem dc_X11_isOwn_81 : decode m_X11_isOwn.2.2.1 81 = .ok (.ifCond .ne 7, 3) := by decide +kernel
theorem dc_X11_isOwn_85 : decode m_X11_isOwn.2.2.1 85 = .ok (.goto 4, 3) := by decide +kernel
theorem dc_X11_isOwn_89 : decode m_X11_isOwn.2.2.1 89 = .ok (.ireturn, 1) := by decide +kernel
theorem ok_X11_isOwn_0_3 : oks m_X11_isOwn.1 m_X11_isOwn.2.2.1 0 [(.aload_n 0, 1, (0, 0, 0)), (.getfield 131, 3, (11, 58, 0)), (.iload_n 1, 1, (0, 0, 0))] = true ∧ plen 0 [(.aload_n 0, 1, (0, 0, 0)), (.getfield 131, 3, (11, 58, 0)), (.iload_n 1, 1, (0, 0, 0))] = 5 := by decide +kernel
theorem ok_X11_isOwn_6_1 : oks m_X11_isOwn.1 m_X11_isOwn.2.2.1 6 [(.iconst 5, 1, (0, 0, 0))] = true ∧ plen 6 [(.iconst 5, 1, (0, 0, 0))] = 7 := by decide +kernel
theorem ok_X11_isOwn_10_3 : oks m_X11_isOwn.1 m_X11_isOwn.2.2.1 10 [(.aload_n 0, 1, (0, 0, 0)), (.getfield 143, 3, (11, 62, 0)), (.iload_n 1, 1, (0, 0, 0))] = true ∧ plen 10 [(.aload_n 0, 1, (0, 0, 0)), (.getfield 143, 3, (11, 62, 0)), (.iload_n 1, 1, (0, 0, 0))] = 15 := by decide +kernel
theorem ok_X11_isOwn_19_1 : oks m_X11_isOwn.1 m_X11_isOwn.2.2.1 19 [(.iconst 1, 1, (0, 0, 0))] = true ∧ plen 19 [(.iconst 1, 1, (0, 0, 0))] = 20 := by decide +kernel
theorem ok_X11_isOwn_23_1 : oks m_X11_isOwn.1 m_X11_isOwn.2.2.1 23 [(.iconst 0, 1, (0, 0, 0))] = true ∧ plen 23 [(.iconst 0, 1, (0, 0, 0))] = 24 := by decide +kernel
theorem ok_X11_isOwn_24_3 : oks m_X11_isOwn.1 m_X11_isOwn.2.2.1 24 [(.istore_n 2, 1, (0, 0, 0)), (.iconst 1, 1, (0, 0, 0)), (.istore_n 3, 1, (0, 0, 0))] = true ∧ plen 24 [(.istore_n 2, 1, (0, 0, 0)), (.iconst 1, 1, (0, 0, 0)), (.istore_n 3, 1, (0, 0, 0))] = 27 := by decide +kernel
theorem ok_X11_isOwn_27_4 : oks m_X11_isOwn.1 m_X11_isOwn.2.2.1 27 [(.iload_n 3, 1, (0, 0, 0)), (.aload_n 0, 1, (0, 0, 0)), (.getfield 143, 3, (11, 62, 0)), (.iload_n 1, 1, (0, 0, 0))] = true ∧ plen 27 [(.iload_n 3, 1, (0, 0, 0)), (.aload_n 0, 1, (0, 0, 0)), (.getfield 143, 3, (11, 62, 0)), (.iload_n 1, 1, (0, 0, 0))] = 33 := by decide +kernel
theorem ok_X11_isOwn_37_1 : oks m_X11_isOwn.1 m_X11_isOwn.2.2.1 37 [(.iload_n 2, 1, (0, 0, 0))] = true ∧ plen 37 [(.iload_n 2, 1, (0, 0, 0))] = 38 := by decide +kernel
theorem ok_X11_isOwn_41_5 : oks m_X11_isOwn.1 m_X11_isOwn.2.2.1 41 [(.aload_n 0, 1, (0, 0, 0)), (.getfield 146, 3, (11, 63, 0)), (.aload_n 0, 1, (0, 0, 0)), (.getfield 140, 3, (11, 61, 0)), (.iload_n 1, 1, (0, 0, 0))] = true ∧ plen 41 [(.aload_n 0, 1, (0, 0, 0)), (.getfield 146, 3, (11, 63, 0)), (.aload_n 0, 1, (0, 0, 0)), (.getfield 140, 3, (11, 61, 0)), (.iload_n 1, 1, (0, 0, 0))] = 50 := by decide +kernel
theorem ok_X11_isOwn_51_2 : oks m_X11_isOwn.1 m_X11_isOwn.2.2.1 51 [(.iload_n 3, 1, (0, 0, 0)), (.iadd, 1, (0, 0, 0))] = true ∧ plen 51 [(.iload_n 3, 1, (0, 0, 0)), (.iadd, 1, (0, 0, 0))] = 53 := by decide +kernel
theorem ok_X11_isOwn_54_5 : oks m_X11_isOwn.1 m_X11_isOwn.2.2.1 54 [(.aload_n 0, 1, (0, 0, 0)), (.getfield 146, 3, (11, 63, 0)), (.aload_n 0, 1, (0, 0, 0)), (.getfield 140, 3, (11, 61, 0)), (.iload_n 1, 1, (0, 0, 0))] = true ∧ plen 54 [(.aload_n 0, 1, (0, 0, 0)), (.getfield 146, 3, (11, 63, 0)), (.aload_n 0, 1, (0, 0, 0)), (.getfield 140, 3, (11, 61, 0)), (.iload_n 1, 1, (0, 0, 0))] = 63 := by decide +kernel
theorem ok_X11_isOwn_68_1 : oks m_X11_isOwn.1 m_X11_isOwn.2.2.1 68 [(.iconst 1, 1, (0, 0, 0))] = true ∧ plen 68 [(.iconst 1, 1, (0, 0, 0))] = 69 := by decide +kernel
theorem ok_X11_isOwn_72_1 : oks m_X11_isOwn.1 m_X11_isOwn.2.2.1 72 [(.iconst 0, 1, (0, 0, 0))] = true ∧ plen 72 [(.iconst 0, 1, (0, 0, 0))] = 73 := by decide +kernel
theorem ok_X11_isOwn_73_2 : oks m_X11_isOwn.1 m_X11_isOwn.2.2.1 73 [(.istore_n 2, 1, (0, 0, 0)), (.iinc 3 1, 3, (0, 0, 0))] = true ∧ plen 73 [(.istore_n 2, 1, (0, 0, 0)), (.iinc 3 1, 3, (0, 0, 0))] = 77 := by decide +kernel
theorem ok_X11_isOwn_80_1 : oks m_X11_isOwn.1 m_X11_isOwn.2.2.1 80 [(.iload_n 2, 1, (0, 0, 0))] = true ∧ plen 80 [(.iload_n 2, 1, (0, 0, 0))] = 81 := by decide +kernel
theorem ok_X11_isOwn_84_1 : oks m_X11_isOwn.1 m_X11_isOwn.2.2.1 84 [(.iconst 1, 1, (0, 0, 0))] = true ∧ plen 84 [(.iconst 1, 1, (0, 0, 0))] = 85 := by decide +kernel
theorem ok_X11_isOwn_88_1 : oks m_X11_isOwn.1 m_X11_isOwn.2.2.1 88 [(.iconst 0, 1, (0, 0, 0))] = true ∧ plen 88 [(.iconst 0, 1, (0, 0, 0))] = 89 := by decide +kernel
def B_X11_isOwn_73 (x3 : Int) (y0 : Bool) (σ : Sg) : Option ((Bool × Int) ⊕ Bool) :=
some (.inl (y0, wrap (x3 + 1)))
def L_X11_isOwn_27 (x1 : Int) (σ : Sg) (x2 : Bool) (x3 : Int) : Option ((Bool × Int) ⊕ Bool) :=
(rdn 512 σ 45 x1).bind fun v3 =>
if v3 ≤ x3 then
some (.inr x2)
else
if x2 = true then
(rdn 512 σ 44 x1).bind fun v5 =>
(rdn 512 σ 46 (wrap (v5 + x3))).bind fun v7 =>
(rdn 512 σ 44 x1).bind fun v9 =>
(rdn 512 σ 46 v9).bind fun v11 =>
if v7 = v11 then
B_X11_isOwn_73 x3 true σ
else
B_X11_isOwn_73 x3 false σ
else
some (.inr x2)
def B_X11_isOwn_24 (x1 : Int) (y0 : Bool) (σ : Sg) : Option Bool :=
(iter (fun a : (Bool × Int) => L_X11_isOwn_27 x1 σ a.1 a.2) 3000 (y0, 1)).bind fun y13 =>
if y13 = true then
some false
else
some true
def B_X11_isOwn_23 (x1 : Int) (σ : Sg) : Option Bool :=
B_X11_isOwn_24 x1 false σ
def F_X11_isOwn (a1 : Int) (σ : Sg) : Option Bool :=
(rdn 512 σ 41 a1).bind fun v1 =>
if v1 = 5 then
(rdn 512 σ 45 a1).bind fun v15 =>
if v15 ≤ 0 then
B_X11_isOwn_23 a1 σ
else
B_X11_isOwn_24 a1 true σ
else
B_X11_isOwn_23 a1 σ
theorem lk_X11_isOwn (l : Launch) (d : Nat) (hd : 0 ≤ d) (a1 : Int) (σ : Sg) (q : Bool) (h : F_X11_isOwn a1 σ = some q) : CT l d m_X11_isOwn.2.1 m_X11_isOwn.2.2.1 m_X11_isOwn.2.2.2.1 m_X11_isOwn.2.2.2.2 [.inr 0, .inl a1] (LAYM, σ) (some (.inl (b2i q))) (LAYM, σ) := by
  skip
  have key : Go l m_X11_isOwn d LAYM (.inl (some (.inl (b2i q)))) σ 0 [some (.inr 0), some (.inl a1), none, none] [] σ := by
    unfold F_X11_isOwn at h
    have hL_X11_isOwn_27 : ∀ (x1 : Int) (σ : Sg) (n : Nat) (a : (Bool × Int)) (y : Bool), iter (fun a : (Bool × Int) => L_X11_isOwn_27 x1 σ a.1 a.2) n a = some y → (fun y : Bool => Go l m_X11_isOwn d LAYM (.inl (some (.inl (b2i q)))) σ 80 [none, none, some (.inl (b2i y)), none] [] σ) y → (fun a : (Bool × Int) => Go l m_X11_isOwn d LAYM (.inl (some (.inl (b2i q)))) σ 27 [some (.inr 0), some (.inl x1), some (.inl (b2i a.1)), some (.inl a.2)] [] σ) a := by
      intro x1 σ
      refine go_iter (G := fun a : (Bool × Int) => Go l m_X11_isOwn d LAYM (.inl (some (.inl (b2i q)))) σ 27 [some (.inr 0), some (.inl x1), some (.inl (b2i a.1)), some (.inl a.2)] [] σ) (K := fun y : Bool => Go l m_X11_isOwn d LAYM (.inl (some (.inl (b2i q)))) σ 80 [none, none, some (.inl (b2i y)), none] [] σ) ?_
      rintro ⟨x2, x3⟩ w h hK
      replace h : L_X11_isOwn_27 x1 σ x2 x3 = some w := h
      show Go l m_X11_isOwn d LAYM (.inl (some (.inl (b2i q)))) σ 27 [some (.inr 0), some (.inl x1), some (.inl (b2i x2)), some (.inl x3)] [] σ
      unfold L_X11_isOwn_27 at h
      have hB_X11_isOwn_73 : ∀ (x3 : Int) (y0 : Bool), B_X11_isOwn_73 x3 y0 σ = some w → Go l m_X11_isOwn d LAYM (.inl (some (.inl (b2i q)))) σ 73 [some (.inr 0), some (.inl x1), none, some (.inl x3)] [.inl (b2i y0)] σ := by
        intro x3 y0 h
        unfold B_X11_isOwn_73 at h
        refine go_ops ok_X11_isOwn_73_2 (L' := [some (.inr 0), some (.inl x1), some (.inl (b2i y0)), some (.inl (wrap (x3 + 1)))]) (st' := []) (σ1 := σ) rfl ?_
        refine go_goto dc_X11_isOwn_77 (by rfl) ?_
        cases h
        exact hK
      refine go_ops ok_X11_isOwn_27_4 (L' := [some (.inr 0), some (.inl x1), some (.inl (b2i x2)), some (.inl x3)]) (st' := [.inl x1, .inr 45, .inl x3]) (σ1 := σ) rfl ?_
      obtain ⟨v3, e4, h⟩ := bind_inv h
      refine go_rd (k := 45) dc_X11_isOwn_33 rfl e4 ?_
      refine go_icmp_ge dc_X11_isOwn_34 (by rfl) (fun hc => ?_) (fun hc => ?_)
      · replace h := (if_pos hc).symm.trans h
        cases h
        refine go_wk (L' := [none, none, some (.inl (b2i x2)), none]) ⟨rfl, trivial⟩ ?_
        exact hK
      · replace h := (if_neg hc).symm.trans h
        refine go_ops ok_X11_isOwn_37_1 (L' := [some (.inr 0), some (.inl x1), some (.inl (b2i x2)), some (.inl x3)]) (st' := [.inl (b2i x2)]) (σ1 := σ) rfl ?_
        refine go_ifb_eq dc_X11_isOwn_38 (by rfl) (fun hc => ?_) (fun hc => ?_)
        · replace h := (if_neg hc).symm.trans h
          cases h
          refine go_wk (L' := [none, none, some (.inl (b2i x2)), none]) ⟨rfl, trivial⟩ ?_
          exact hK
        · replace h := (if_pos hc).symm.trans h
          refine go_ops ok_X11_isOwn_41_5 (L' := [some (.inr 0), some (.inl x1), some (.inl (b2i x2)), some (.inl x3)]) (st' := [.inl x1, .inr 44, .inr 46]) (σ1 := σ) rfl ?_
          obtain ⟨v5, e6, h⟩ := bind_inv h
          refine go_rd (k := 44) dc_X11_isOwn_50 rfl e6 ?_
          refine go_ops ok_X11_isOwn_51_2 (L' := [some (.inr 0), some (.inl x1), some (.inl (b2i x2)), some (.inl x3)]) (st' := [.inl (wrap (v5 + x3)), .inr 46]) (σ1 := σ) rfl ?_
          obtain ⟨v7, e8, h⟩ := bind_inv h
          refine go_rd (k := 46) dc_X11_isOwn_53 rfl e8 ?_
          refine go_ops ok_X11_isOwn_54_5 (L' := [some (.inr 0), some (.inl x1), some (.inl (b2i x2)), some (.inl x3)]) (st' := [.inl x1, .inr 44, .inr 46, .inl v7]) (σ1 := σ) rfl ?_
          obtain ⟨v9, e10, h⟩ := bind_inv h
          refine go_rd (k := 44) dc_X11_isOwn_63 rfl e10 ?_
          obtain ⟨v11, e12, h⟩ := bind_inv h
          refine go_rd (k := 46) dc_X11_isOwn_64 rfl e12 ?_
          refine go_icmp_ne dc_X11_isOwn_65 (by rfl) (fun hc => ?_) (fun hc => ?_)
          · replace h := (if_neg hc).symm.trans h
            refine go_ops ok_X11_isOwn_72_1 (L' := [some (.inr 0), some (.inl x1), some (.inl (b2i x2)), some (.inl x3)]) (st' := [.inl 0]) (σ1 := σ) rfl ?_
            refine go_wk (L' := [some (.inr 0), some (.inl x1), none, some (.inl x3)]) ⟨rfl, rfl, rfl, trivial⟩ ?_
            exact hB_X11_isOwn_73 x3 false h
          · replace h := (if_pos hc).symm.trans h
            refine go_ops ok_X11_isOwn_68_1 (L' := [some (.inr 0), some (.inl x1), some (.inl (b2i x2)), some (.inl x3)]) (st' := [.inl 1]) (σ1 := σ) rfl ?_
            refine go_goto dc_X11_isOwn_69 (by rfl) ?_
            refine go_wk (L' := [some (.inr 0), some (.inl x1), none, some (.inl x3)]) ⟨rfl, rfl, rfl, trivial⟩ ?_
            exact hB_X11_isOwn_73 x3 true h
    have hB_X11_isOwn_24 : ∀ (x1 : Int) (y0 : Bool) (σ : Sg), B_X11_isOwn_24 x1 y0 σ = some q → Go l m_X11_isOwn d LAYM (.inl (some (.inl (b2i q)))) σ 24 [some (.inr 0), some (.inl x1), none, none] [.inl (b2i y0)] σ := by
      intro x1 y0 σ h
      unfold B_X11_isOwn_24 at h
      refine go_ops ok_X11_isOwn_24_3 (L' := [some (.inr 0), some (.inl x1), some (.inl (b2i y0)), some (.inl 1)]) (st' := []) (σ1 := σ) rfl ?_
      obtain ⟨y13, e14, h⟩ := bind_inv h
      refine hL_X11_isOwn_27 x1 σ 3000 (y0, 1) y13 e14 ?_
      show Go l m_X11_isOwn d LAYM (.inl (some (.inl (b2i q)))) σ 80 [none, none, some (.inl (b2i y13)), none] [] σ
      refine go_ops ok_X11_isOwn_80_1 (L' := [none, none, some (.inl (b2i y13)), none]) (st' := [.inl (b2i y13)]) (σ1 := σ) rfl ?_
      refine go_ifb_ne dc_X11_isOwn_81 (by rfl) (fun hc => ?_) (fun hc => ?_)
      · replace h := (if_pos hc).symm.trans h
        refine go_ops ok_X11_isOwn_88_1 (L' := [none, none, some (.inl (b2i y13)), none]) (st' := [.inl 0]) (σ1 := σ) rfl ?_
        have h9 := Option.some.inj h
        subst h9
        exact go_zret (x := false) dc_X11_isOwn_89 rfl
      · replace h := (if_neg hc).symm.trans h
        refine go_ops ok_X11_isOwn_84_1 (L' := [none, none, some (.inl (b2i y13)), none]) (st' := [.inl 1]) (σ1 := σ) rfl ?_
        refine go_goto dc_X11_isOwn_85 (by rfl) ?_
        have h9 := Option.some.inj h
        subst h9
        exact go_zret (x := true) dc_X11_isOwn_89 rfl
    have hB_X11_isOwn_23 : ∀ (x1 : Int) (σ : Sg), B_X11_isOwn_23 x1 σ = some q → Go l m_X11_isOwn d LAYM (.inl (some (.inl (b2i q)))) σ 23 [some (.inr 0), some (.inl x1), none, none] [] σ := by
      intro x1 σ h
      unfold B_X11_isOwn_23 at h
      refine go_ops ok_X11_isOwn_23_1 (L' := [some (.inr 0), some (.inl x1), none, none]) (st' := [.inl 0]) (σ1 := σ) rfl ?_
      exact hB_X11_isOwn_24 x1 false σ h
    refine go_ops ok_X11_isOwn_0_3 (L' := [some (.inr 0), some (.inl a1), none, none]) (st' := [.inl a1, .inr 41]) (σ1 := σ) rfl ?_
    obtain ⟨v1, e2, h⟩ := bind_inv h
    refine go_rd (k := 41) dc_X11_isOwn_5 rfl e2 ?_
    refine go_ops ok_X11_isOwn_6_1 (L' := [some (.inr 0), some (.inl a1), none, none]) (st' := [.inl 5, .inl v1]) (σ1 := σ) rfl ?_
    refine go_icmp_ne dc_X11_isOwn_7 (by rfl) (fun hc => ?_) (fun hc => ?_)
    · replace h := (if_neg hc).symm.trans h
      exact hB_X11_isOwn_23 a1 σ h
    · replace h := (if_pos hc).symm.trans h
      refine go_ops ok_X11_isOwn_10_3 (L' := [some (.inr 0), some (.inl a1), none, none]) (st' := [.inl a1, .inr 45]) (σ1 := σ) rfl ?_
      obtain ⟨v15, e16, h⟩ := bind_inv h
      refine go_rd (k := 45) dc_X11_isOwn_15 rfl e16 ?_
      refine go_if_le dc_X11_isOwn_16 (by rfl) (fun hc => ?_) (fun hc => ?_)
      · replace h := (if_pos hc).symm.trans h
        exact hB_X11_isOwn_23 a1 σ h
      · replace h := (if_neg hc).symm.trans h
        refine go_ops ok_X11_isOwn_19_1 (L' := [some (.inr 0), some (.inl a1), none, none]) (st' := [.inl 1]) (σ1 := σ) rfl ?_
        refine go_goto dc_X11_isOwn_20 (by rfl) ?_
        exact hB_X11_isOwn_24 a1 true σ h
  have hf := go_ct (as := [.inr 0, .inl a1]) mk_X11_isOwn (by rfl) (Nat.le_of_ble_eq_true rfl) key
  exact hf
theorem dc_X11_sharedSize_10 : decode m_X11_sharedSize.2.2.1 10 = .ok (.ifCond .lt 213, 3) := by decide +kernel
theorem dc_X11_sharedSize_18 : decode m_X11_sharedSize.2.2.1 18 = .ok (.iaload, 1) := by decide +kernel
theorem dc_X11_sharedSize_20 : decode m_X11_sharedSize.2.2.1 20 = .ok (.if_icmp .ne 16, 3) := by decide +kernel
theorem dc_X11_sharedSize_28 : decode m_X11_sharedSize.2.2.1 28 = .ok (.iaload, 1) := by decide +kernel
theorem dc_X11_sharedSize_29 : decode m_X11_sharedSize.2.2.1 29 = .ok (.ifCond .le 7, 3) := by decide +kernel
theorem dc_X11_sharedSize_33 : decode m_X11_sharedSize.2.2.1 33 = .ok (.goto 4, 3) := by decide +kernel
theorem dc_X11_sharedSize_48 : decode m_X11_sharedSize.2.2.1 48 = .ok (.iaload, 1) := by decide +kernel
theorem dc_X11_sharedSize_49 : decode m_X11_sharedSize.2.2.1 49 = .ok (.if_icmp .ge 47, 3) := by decide +kernel
theorem dc_X11_sharedSize_53 : decode m_X11_sharedSize.2.2.1 53 = .ok (.ifCond .eq 43, 3) := by decide +kernel
theorem dc_X11_sharedSize_65 : decode m_X11_sharedSize.2.2.1 65 = .ok (.iaload, 1) := by decide +kernel
theorem dc_X11_sharedSize_69 : decode m_X11_sharedSize.2.2.1 69 = .ok (.iaload, 1) := by decide +kernel
theorem dc_X11_sharedSize_79 : decode m_X11_sharedSize.2.2.1 79 = .ok (.iaload, 1) := by decide +kernel
theorem dc_X11_sharedSize_80 : decode m_X11_sharedSize.2.2.1 80 = .ok (.iaload, 1) := by decide +kernel
theorem dc_X11_sharedSize_81 : decode m_X11_sharedSize.2.2.1 81 = .ok (.if_icmp .ne 7, 3) := by decide +kernel
theorem dc_X11_sharedSize_85 : decode m_X11_sharedSize.2.2.1 85 = .ok (.goto 4, 3) := by decide +kernel
theorem dc_X11_sharedSize_93 : decode m_X11_sharedSize.2.2.1 93 = .ok (.goto (-52), 3) := by decide +kernel
theorem dc_X11_sharedSize_102 : decode m_X11_sharedSize.2.2.1 102 = .ok (.ifCond .eq 17, 3) := by decide +kernel
theorem dc_X11_sharedSize_114 : decode m_X11_sharedSize.2.2.1 114 = .ok (.iaload, 1) := by decide +kernel
theorem dc_X11_sharedSize_115 : decode m_X11_sharedSize.2.2.1 115 = .ok (.iaload, 1) := by decide +kernel
theorem dc_X11_sharedSize_116 : decode m_X11_sharedSize.2.2.1 116 = .ok (.goto 4, 3) := by decide +kernel
theorem dc_X11_sharedSize_120 : decode m_X11_sharedSize.2.2.1 120 = .ok (.iastore, 1) := by decide +kernel
theorem dc_X11_sharedSize_132 : decode m_X11_sharedSize.2.2.1 132 = .ok (.if_icmp .le 65, 3) := by decide +kernel
theorem dc_X11_sharedSize_140 : decode m_X11_sharedSize.2.2.1 140 = .ok (.iaload, 1) := by decide +kernel
theorem dc_X11_sharedSize_142 : decode m_X11_sharedSize.2.2.1 142 = .ok (.if_icmp .ne 55, 3) := by decide +kernel
theorem dc_X11_sharedSize_156 : decode m_X11_sharedSize.2.2.1 156 = .ok (.iaload, 1) := by decide +kernel
theorem dc_X11_sharedSize_157 : decode m_X11_sharedSize.2.2.1 157 = .ok (.ifCond .lt 32, 3) := by decide +kernel
theorem dc_X11_sharedSize_163 : decode m_X11_sharedSize.2.2.1 163 = .ok (.invokevirtual 374, 3) := by decide +kernel
theorem dc_X11_sharedSize_166 : decode m_X11_sharedSize.2.2.1 166 = .ok (.ifCond .eq 23, 3) := by decide +kernel
theorem dc_X11_sharedSize_173 : decode m_X11_sharedSize.2.2.1 173 = .ok (.invokevirtual 377, 3) := by decide +kernel
theorem dc_X11_sharedSize_176 : decode m_X11_sharedSize.2.2.1 176 = .ok (.ifCond .eq 13, 3) := by decide +kernel
theorem dc_X11_sharedSize_185 : decode m_X11_sharedSize.2.2.1 185 = .ok (.iaload, 1) := by decide +kernel
theorem dc_X11_sharedSize_186 : decode m_X11_sharedSize.2.2.1 186 = .ok (.goto 4, 3) := by decide +kernel
theorem dc_X11_sharedSize_190 : decode m_X11_sharedSize.2.2.1 190 = .ok (.iastore, 1) := by decide +kernel
theorem dc_X11_sharedSize_194 : decode m_X11_sharedSize.2.2.1 194 = .ok (.goto (-65), 3) := by decide +kernel
theorem dc_X11_sharedSize_202 : decode m_X11_sharedSize.2.2.1 202 = .ok (.iaload, 1) := by decide +kernel
theorem dc_X11_sharedSize_204 : decode m_X11_sharedSize.2.2.1 204 = .ok (.if_icmp .ne 13, 3) := by decide +kernel
theorem dc_X11_sharedSize_213 : decode m_X11_sharedSize.2.2.1 213 = .ok (.iastore, 1) := by decide +kernel
theorem dc_X11_sharedSize_220 : decode m_X11_sharedSize.2.2.1 220 = .ok (.goto (-211), 3) := by decide +kernel
theorem dc_X11_sharedSize_224 : decode m_X11_sharedSize.2.2.1 224 = .ok (.ireturn, 1) := by decide +kernel
theorem ok_X11_sharedSize_0_7 : oks m_X11_sharedSize.1 m_X11_sharedSize.2.2.1 0 [(.iconst 0, 1, (0, 0, 0)), (.istore_n 1, 1, (0, 0, 0)), (.aload_n 0, 1, (0, 0, 0)), (.getfield 321, 3, (11, 56, 0)), (.iconst 1, 1, (0, 0, 0)), (.isub, 1, (0, 0, 0)), (.istore_n 2, 1, (0, 0, 0))] = true ∧ plen 0 [(.iconst 0, 1, (0, 0, 0)), (.istore_n 1, 1, (0, 0, 0)), (.aload_n 0, 1, (0, 0, 0)), (.getfield 321, 3, (11, 56, 0)), (.iconst 1, 1, (0, 0, 0)), (.isub, 1, (0, 0, 0)), (.istore_n 2, 1, (0, 0, 0))] = 9 := by decide +kernel
theorem ok_X11_sharedSize_9_1 : oks m_X11_sharedSize.1 m_X11_sharedSize.2.2.1 9 [(.iload_n 2, 1, (0, 0, 0))] = true ∧ plen 9 [(.iload_n 2, 1, (0, 0, 0))] = 10 := by decide +kernel
theorem ok_X11_sharedSize_13_3 : oks m_X11_sharedSize.1 m_X11_sharedSize.2.2.1 13 [(.aload_n 0, 1, (0, 0, 0)), (.getfield 131, 3, (11, 58, 0)), (.iload_n 2, 1, (0, 0, 0))] = true ∧ plen 13 [(.aload_n 0, 1, (0, 0, 0)), (.getfield 131, 3, (11, 58, 0)), (.iload_n 2, 1, (0, 0, 0))] = 18 := by decide +kernel
theorem ok_X11_sharedSize_19_1 : oks m_X11_sharedSize.1 m_X11_sharedSize.2.2.1 19 [(.iconst 5, 1, (0, 0, 0))] = true ∧ plen 19 [(.iconst 5, 1, (0, 0, 0))] = 20 := by decide +kernel
theorem ok_X11_sharedSize_23_3 : oks m_X11_sharedSize.1 m_X11_sharedSize.2.2.1 23 [(.aload_n 0, 1, (0, 0, 0)), (.getfield 143, 3, (11, 62, 0)), (.iload_n 2, 1, (0, 0, 0))] = true ∧ plen 23 [(.aload_n 0, 1, (0, 0, 0)), (.getfield 143, 3, (11, 62, 0)), (.iload_n 2, 1, (0, 0, 0))] = 28 := by decide +kernel
theorem ok_X11_sharedSize_32_1 : oks m_X11_sharedSize.1 m_X11_sharedSize.2.2.1 32 [(.iconst 1, 1, (0, 0, 0))] = true ∧ plen 32 [(.iconst 1, 1, (0, 0, 0))] = 33 := by decide +kernel
theorem ok_X11_sharedSize_36_1 : oks m_X11_sharedSize.1 m_X11_sharedSize.2.2.1 36 [(.iconst 0, 1, (0, 0, 0))] = true ∧ plen 36 [(.iconst 0, 1, (0, 0, 0))] = 37 := by decide +kernel
theorem ok_X11_sharedSize_37_3 : oks m_X11_sharedSize.1 m_X11_sharedSize.2.2.1 37 [(.istore_n 3, 1, (0, 0, 0)), (.iconst 1, 1, (0, 0, 0)), (.istore 4, 2, (0, 0, 0))] = true ∧ plen 37 [(.istore_n 3, 1, (0, 0, 0)), (.iconst 1, 1, (0, 0, 0)), (.istore 4, 2, (0, 0, 0))] = 41 := by decide +kernel
theorem ok_X11_sharedSize_41_4 : oks m_X11_sharedSize.1 m_X11_sharedSize.2.2.1 41 [(.iload 4, 2, (0, 0, 0)), (.aload_n 0, 1, (0, 0, 0)), (.getfield 143, 3, (11, 62, 0)), (.iload_n 2, 1, (0, 0, 0))] = true ∧ plen 41 [(.iload 4, 2, (0, 0, 0)), (.aload_n 0, 1, (0, 0, 0)), (.getfield 143, 3, (11, 62, 0)), (.iload_n 2, 1, (0, 0, 0))] = 48 := by decide +kernel
theorem ok_X11_sharedSize_52_1 : oks m_X11_sharedSize.1 m_X11_sharedSize.2.2.1 52 [(.iload_n 3, 1, (0, 0, 0))] = true ∧ plen 52 [(.iload_n 3, 1, (0, 0, 0))] = 53 := by decide +kernel
theorem ok_X11_sharedSize_56_5 : oks m_X11_sharedSize.1 m_X11_sharedSize.2.2.1 56 [(.aload_n 0, 1, (0, 0, 0)), (.getfield 146, 3, (11, 63, 0)), (.aload_n 0, 1, (0, 0, 0)), (.getfield 140, 3, (11, 61, 0)), (.iload_n 2, 1, (0, 0, 0))] = true ∧ plen 56 [(.aload_n 0, 1, (0, 0, 0)), (.getfield 146, 3, (11, 63, 0)), (.aload_n 0, 1, (0, 0, 0)), (.getfield 140, 3, (11, 61, 0)), (.iload_n 2, 1, (0, 0, 0))] = 65 := by decide +kernel
theorem ok_X11_sharedSize_66_2 : oks m_X11_sharedSize.1 m_X11_sharedSize.2.2.1 66 [(.iload 4, 2, (0, 0, 0)), (.iadd, 1, (0, 0, 0))] = true ∧ plen 66 [(.iload 4, 2, (0, 0, 0)), (.iadd, 1, (0, 0, 0))] = 69 := by decide +kernel
theorem ok_X11_sharedSize_70_5 : oks m_X11_sharedSize.1 m_X11_sharedSize.2.2.1 70 [(.aload_n 0, 1, (0, 0, 0)), (.getfield 146, 3, (11, 63, 0)), (.aload_n 0, 1, (0, 0, 0)), (.getfield 140, 3, (11, 61, 0)), (.iload_n 2, 1, (0, 0, 0))] = true ∧ plen 70 [(.aload_n 0, 1, (0, 0, 0)), (.getfield 146, 3, (11, 63, 0)), (.aload_n 0, 1, (0, 0, 0)), (.getfield 140, 3, (11, 61, 0)), (.iload_n 2, 1, (0, 0, 0))] = 79 := by decide +kernel
theorem ok_X11_sharedSize_84_1 : oks m_X11_sharedSize.1 m_X11_sharedSize.2.2.1 84 [(.iconst 1, 1, (0, 0, 0))] = true ∧ plen 84 [(.iconst 1, 1, (0, 0, 0))] = 85 := by decide +kernel
theorem ok_X11_sharedSize_88_1 : oks m_X11_sharedSize.1 m_X11_sharedSize.2.2.1 88 [(.iconst 0, 1, (0, 0, 0))] = true ∧ plen 88 [(.iconst 0, 1, (0, 0, 0))] = 89 := by decide +kernel
theorem ok_X11_sharedSize_89_2 : oks m_X11_sharedSize.1 m_X11_sharedSize.2.2.1 89 [(.istore_n 3, 1, (0, 0, 0)), (.iinc 4 1, 3, (0, 0, 0))] = true ∧ plen 89 [(.istore_n 3, 1, (0, 0, 0)), (.iinc 4 1, 3, (0, 0, 0))] = 93 := by decide +kernel
theorem ok_X11_sharedSize_96_4 : oks m_X11_sharedSize.1 m_X11_sharedSize.2.2.1 96 [(.aload_n 0, 1, (0, 0, 0)), (.getfield 146, 3, (11, 63, 0)), (.iload_n 2, 1, (0, 0, 0)), (.iload_n 3, 1, (0, 0, 0))] = true ∧ plen 96 [(.aload_n 0, 1, (0, 0, 0)), (.getfield 146, 3, (11, 63, 0)), (.iload_n 2, 1, (0, 0, 0)), (.iload_n 3, 1, (0, 0, 0))] = 102 := by decide +kernel
theorem ok_X11_sharedSize_105_5 : oks m_X11_sharedSize.1 m_X11_sharedSize.2.2.1 105 [(.aload_n 0, 1, (0, 0, 0)), (.getfield 146, 3, (11, 63, 0)), (.aload_n 0, 1, (0, 0, 0)), (.getfield 140, 3, (11, 61, 0)), (.iload_n 2, 1, (0, 0, 0))] = true ∧ plen 105 [(.aload_n 0, 1, (0, 0, 0)), (.getfield 146, 3, (11, 63, 0)), (.aload_n 0, 1, (0, 0, 0)), (.getfield 140, 3, (11, 61, 0)), (.iload_n 2, 1, (0, 0, 0))] = 114 := by decide +kernel
theorem ok_X11_sharedSize_119_1 : oks m_X11_sharedSize.1 m_X11_sharedSize.2.2.1 119 [(.iconst (-1), 1, (0, 0, 0))] = true ∧ plen 119 [(.iconst (-1), 1, (0, 0, 0))] = 120 := by decide +kernel
theorem ok_X11_sharedSize_121_5 : oks m_X11_sharedSize.1 m_X11_sharedSize.2.2.1 121 [(.aload_n 0, 1, (0, 0, 0)), (.getfield 321, 3, (11, 56, 0)), (.iconst 1, 1, (0, 0, 0)), (.isub, 1, (0, 0, 0)), (.istore 4, 2, (0, 0, 0))] = true ∧ plen 121 [(.aload_n 0, 1, (0, 0, 0)), (.getfield 321, 3, (11, 56, 0)), (.iconst 1, 1, (0, 0, 0)), (.isub, 1, (0, 0, 0)), (.istore 4, 2, (0, 0, 0))] = 129 := by decide +kernel
theorem ok_X11_sharedSize_129_2 : oks m_X11_sharedSize.1 m_X11_sharedSize.2.2.1 129 [(.iload 4, 2, (0, 0, 0)), (.iload_n 2, 1, (0, 0, 0))] = true ∧ plen 129 [(.iload 4, 2, (0, 0, 0)), (.iload_n 2, 1, (0, 0, 0))] = 132 := by decide +kernel
theorem ok_X11_sharedSize_135_3 : oks m_X11_sharedSize.1 m_X11_sharedSize.2.2.1 135 [(.aload_n 0, 1, (0, 0, 0)), (.getfield 146, 3, (11, 63, 0)), (.iload_n 2, 1, (0, 0, 0))] = true ∧ plen 135 [(.aload_n 0, 1, (0, 0, 0)), (.getfield 146, 3, (11, 63, 0)), (.iload_n 2, 1, (0, 0, 0))] = 140 := by decide +kernel
theorem ok_X11_sharedSize_141_1 : oks m_X11_sharedSize.1 m_X11_sharedSize.2.2.1 141 [(.iconst (-1), 1, (0, 0, 0))] = true ∧ plen 141 [(.iconst (-1), 1, (0, 0, 0))] = 142 := by decide +kernel
theorem ok_X11_sharedSize_145_6 : oks m_X11_sharedSize.1 m_X11_sharedSize.2.2.1 145 [(.aload_n 0, 1, (0, 0, 0)), (.getfield 146, 3, (11, 63, 0)), (.iload_n 2, 1, (0, 0, 0)), (.aload_n 0, 1, (0, 0, 0)), (.getfield 146, 3, (11, 63, 0)), (.iload 4, 2, (0, 0, 0))] = true ∧ plen 145 [(.aload_n 0, 1, (0, 0, 0)), (.getfield 146, 3, (11, 63, 0)), (.iload_n 2, 1, (0, 0, 0)), (.aload_n 0, 1, (0, 0, 0)), (.getfield 146, 3, (11, 63, 0)), (.iload 4, 2, (0, 0, 0))] = 156 := by decide +kernel
theorem ok_X11_sharedSize_160_2 : oks m_X11_sharedSize.1 m_X11_sharedSize.2.2.1 160 [(.aload_n 0, 1, (0, 0, 0)), (.iload 4, 2, (0, 0, 0))] = true ∧ plen 160 [(.aload_n 0, 1, (0, 0, 0)), (.iload 4, 2, (0, 0, 0))] = 163 := by decide +kernel
theorem ok_X11_sharedSize_169_3 : oks m_X11_sharedSize.1 m_X11_sharedSize.2.2.1 169 [(.aload_n 0, 1, (0, 0, 0)), (.iload 4, 2, (0, 0, 0)), (.iload_n 2, 1, (0, 0, 0))] = true ∧ plen 169 [(.aload_n 0, 1, (0, 0, 0)), (.iload 4, 2, (0, 0, 0)), (.iload_n 2, 1, (0, 0, 0))] = 173 := by decide +kernel
theorem ok_X11_sharedSize_179_3 : oks m_X11_sharedSize.1 m_X11_sharedSize.2.2.1 179 [(.aload_n 0, 1, (0, 0, 0)), (.getfield 146, 3, (11, 63, 0)), (.iload 4, 2, (0, 0, 0))] = true ∧ plen 179 [(.aload_n 0, 1, (0, 0, 0)), (.getfield 146, 3, (11, 63, 0)), (.iload 4, 2, (0, 0, 0))] = 185 := by decide +kernel
theorem ok_X11_sharedSize_189_1 : oks m_X11_sharedSize.1 m_X11_sharedSize.2.2.1 189 [(.iconst (-1), 1, (0, 0, 0))] = true ∧ plen 189 [(.iconst (-1), 1, (0, 0, 0))] = 190 := by decide +kernel
theorem ok_X11_sharedSize_191_1 : oks m_X11_sharedSize.1 m_X11_sharedSize.2.2.1 191 [(.iinc 4 (-1), 3, (0, 0, 0))] = true ∧ plen 191 [(.iinc 4 (-1), 3, (0, 0, 0))] = 194 := by decide +kernel
theorem ok_X11_sharedSize_197_3 : oks m_X11_sharedSize.1 m_X11_sharedSize.2.2.1 197 [(.aload_n 0, 1, (0, 0, 0)), (.getfield 146, 3, (11, 63, 0)), (.iload_n 2, 1, (0, 0, 0))] = true ∧ plen 197 [(.aload_n 0, 1, (0, 0, 0)), (.getfield 146, 3, (11, 63, 0)), (.iload_n 2, 1, (0, 0, 0))] = 202 := by decide +kernel
theorem ok_X11_sharedSize_203_1 : oks m_X11_sharedSize.1 m_X11_sharedSize.2.2.1 203 [(.iconst (-1), 1, (0, 0, 0))] = true ∧ plen 203 [(.iconst (-1), 1, (0, 0, 0))] = 204 := by decide +kernel
theorem ok_X11_sharedSize_207_4 : oks m_X11_sharedSize.1 m_X11_sharedSize.2.2.1 207 [(.aload_n 0, 1, (0, 0, 0)), (.getfield 146, 3, (11, 63, 0)), (.iload_n 2, 1, (0, 0, 0)), (.iload_n 1, 1, (0, 0, 0))] = true ∧ plen 207 [(.aload_n 0, 1, (0, 0, 0)), (.getfield 146, 3, (11, 63, 0)), (.iload_n 2, 1, (0, 0, 0)), (.iload_n 1, 1, (0, 0, 0))] = 213 := by decide +kernel
theorem ok_X11_sharedSize_214_1 : oks m_X11_sharedSize.1 m_X11_sharedSize.2.2.1 214 [(.iinc 1 1, 3, (0, 0, 0))] = true ∧ plen 214 [(.iinc 1 1, 3, (0, 0, 0))] = 217 := by decide +kernel
theorem ok_X11_sharedSize_217_1 : oks m_X11_sharedSize.1 m_X11_sharedSize.2.2.1 217 [(.iinc 2 (-1), 3, (0, 0, 0))] = true ∧ plen 217 [(.iinc 2 (-1), 3, (0, 0, 0))] = 220 := by decide +kernel
theorem ok_X11_sharedSize_223_1 : oks m_X11_sharedSize.1 m_X11_sharedSize.2.2.1 223 [(.iload_n 1, 1, (0, 0, 0))] = true ∧ plen 223 [(.iload_n 1, 1, (0, 0, 0))] = 224 := by decide +kernel
def B_X11_sharedSize_89 (x4 : Int) (y0 : Bool) (σ : Sg) : Option ((Bool × Int) ⊕ Bool) :=
some (.inl (y0, wrap (x4 + 1)))
def L_X11_sharedSize_41 (x2 : Int) (σ : Sg) (x3 : Bool) (x4 : Int) : Option ((Bool × Int) ⊕ Bool) :=
(rdn 512 σ 45 x2).bind fun v5 =>
if v5 ≤ x4 then
some (.inr x3)
else
if x3 = true then
(rdn 512 σ 44 x2).bind fun v7 =>
(rdn 512 σ 46 (wrap (v7 + x4))).bind fun v9 =>
(rdn 512 σ 44 x2).bind fun v11 =>
(rdn 512 σ 46 v11).bind fun v13 =>
if v9 = v13 then
B_X11_sharedSize_89 x4 true σ
else
B_X11_sharedSize_89 x4 false σ
else
some (.inr x3)
def B_X11_sharedSize_190 (x4 : Int) (y0 : Int) (y1 : Int) (σ : Sg) : Option ((Int × Sg) ⊕ Sg) :=
(wrn 512 σ 46 y1 y0).bind fun s25 =>
some (.inl (wrap (x4 + (-1)), s25))
def B_X11_sharedSize_189 (x4 : Int) (y0 : Int) (σ : Sg) : Option ((Int × Sg) ⊕ Sg) :=
B_X11_sharedSize_190 x4 (-1) y0 σ
def L_X11_sharedSize_129 (x2 : Int) (x4 : Int) (σ : Sg) : Option ((Int × Sg) ⊕ Sg) :=
if x4 ≤ x2 then
some (.inr σ)
else
(rdn 512 σ 46 x2).bind fun v21 =>
if v21 = (-1) then
(rdn 512 σ 46 x4).bind fun v23 =>
if v23 < 0 then
B_X11_sharedSize_189 x4 x2 σ
else
(F_X11_isOwn x4 σ).bind fun q27 =>
if q27 = true then
(F_X11_isSame x4 x2 σ).bind fun q29 =>
if q29 = true then
(rdn 512 σ 46 x4).bind fun v31 =>
B_X11_sharedSize_190 x4 v31 x2 σ
else
B_X11_sharedSize_189 x4 x2 σ
else
B_X11_sharedSize_189 x4 x2 σ
else
some (.inr σ)
def B_X11_sharedSize_217 (x1 : Int) (x2 : Int) (σ : Sg) : Option ((Int × Int × Sg) ⊕ (Int × Sg)) :=
some (.inl (x1, wrap (x2 + (-1)), σ))
def B_X11_sharedSize_120 (x1 : Int) (x2 : Int) (y0 : Int) (y1 : Int) (σ : Sg) : Option ((Int × Int × Sg) ⊕ (Int × Sg)) :=
(wrn 512 σ 46 y1 y0).bind fun s17 =>
bnd (wrap ((s17 0 56) - 1)) fun v19 =>
(iter (fun a : (Int × Sg) => L_X11_sharedSize_129 x2 a.1 a.2) 3000 (v19, s17)).bind fun y33 =>
(rdn 512 y33 46 x2).bind fun v35 =>
if v35 = (-1) then
(wrn 512 y33 46 x2 x1).bind fun s37 =>
B_X11_sharedSize_217 (wrap (x1 + 1)) x2 s37
else
B_X11_sharedSize_217 x1 x2 y33
def B_X11_sharedSize_37 (x1 : Int) (x2 : Int) (y0 : Bool) (σ : Sg) : Option ((Int × Int × Sg) ⊕ (Int × Sg)) :=
(iter (fun a : (Bool × Int) => L_X11_sharedSize_41 x2 σ a.1 a.2) 3000 (y0, 1)).bind fun y15 =>
if y15 = true then
(rdn 512 σ 44 x2).bind fun v39 =>
(rdn 512 σ 46 v39).bind fun v41 =>
B_X11_sharedSize_120 x1 x2 v41 x2 σ
else
B_X11_sharedSize_120 x1 x2 (-1) x2 σ
def B_X11_sharedSize_36 (x1 : Int) (x2 : Int) (σ : Sg) : Option ((Int × Int × Sg) ⊕ (Int × Sg)) :=
B_X11_sharedSize_37 x1 x2 false σ
def L_X11_sharedSize_9 (x1 : Int) (x2 : Int) (σ : Sg) : Option ((Int × Int × Sg) ⊕ (Int × Sg)) :=
if x2 < 0 then
some (.inr (x1, σ))
else
(rdn 512 σ 41 x2).bind fun v3 =>
if v3 = 5 then
(rdn 512 σ 45 x2).bind fun v43 =>
if v43 ≤ 0 then
B_X11_sharedSize_36 x1 x2 σ
else
B_X11_sharedSize_37 x1 x2 true σ
else
B_X11_sharedSize_36 x1 x2 σ
def F_X11_sharedSize (σ : Sg) : Option (Int × Sg) :=
bnd (wrap ((σ 0 56) - 1)) fun v1 =>
(iter (fun a : (Int × Int × Sg) => L_X11_sharedSize_9 a.1 a.2.1 a.2.2) 3000 (0, v1, σ)).bind fun y45 =>
some (y45.1, y45.2)
theorem lk_X11_sharedSize (l : Launch) (d : Nat) (hd : 1 ≤ d) (σ : Sg) (q : (Int × Sg)) (h : F_X11_sharedSize σ = some q) : CT l d m_X11_sharedSize.2.1 m_X11_sharedSize.2.2.1 m_X11_sharedSize.2.2.2.1 m_X11_sharedSize.2.2.2.2 [.inr 0] (LAYM, σ) (some (.inl q.1)) (LAYM, q.2) := by
  obtain ⟨d, rfl⟩ : ∃ e, d = e + 1 := ⟨d - 1, by omega⟩
  have key : Go l m_X11_sharedSize (d + 1) LAYM (.inl (some (.inl q.1))) q.2 0 [some (.inr 0), none, none, none, none] [] σ := by
    unfold F_X11_sharedSize at h
    have hL_X11_sharedSize_9 : ∀ (n : Nat) (a : (Int × Int × Sg)) (y : (Int × Sg)), iter (fun a : (Int × Int × Sg) => L_X11_sharedSize_9 a.1 a.2.1 a.2.2) n a = some y → (fun y : (Int × Sg) => Go l m_X11_sharedSize (d + 1) LAYM (.inl (some (.inl q.1))) q.2 223 [none, some (.inl y.1), none, none, none] [] y.2) y → (fun a : (Int × Int × Sg) => Go l m_X11_sharedSize (d + 1) LAYM (.inl (some (.inl q.1))) q.2 9 [some (.inr 0), some (.inl a.1), some (.inl a.2.1), none, none] [] a.2.2) a := by
      skip
      refine go_iter (G := fun a : (Int × Int × Sg) => Go l m_X11_sharedSize (d + 1) LAYM (.inl (some (.inl q.1))) q.2 9 [some (.inr 0), some (.inl a.1), some (.inl a.2.1), none, none] [] a.2.2) (K := fun y : (Int × Sg) => Go l m_X11_sharedSize (d + 1) LAYM (.inl (some (.inl q.1))) q.2 223 [none, some (.inl y.1), none, none, none] [] y.2) ?_
      rintro ⟨x1, x2, σ⟩ w h hK
      replace h : L_X11_sharedSize_9 x1 x2 σ = some w := h
      show Go l m_X11_sharedSize (d + 1) LAYM (.inl (some (.inl q.1))) q.2 9 [some (.inr 0), some (.inl x1), some (.inl x2), none, none] [] σ
      unfold L_X11_sharedSize_9 at h
      have hL_X11_sharedSize_41 : ∀ (x1 : Int) (x2 : Int) (σ : Sg) (n : Nat) (a : (Bool × Int)) (y : Bool), iter (fun a : (Bool × Int) => L_X11_sharedSize_41 x2 σ a.1 a.2) n a = some y → (fun y : Bool => Go l m_X11_sharedSize (d + 1) LAYM (.inl (some (.inl q.1))) q.2 96 [some (.inr 0), some (.inl x1), some (.inl x2), some (.inl (b2i y)), none] [] σ) y → (fun a : (Bool × Int) => Go l m_X11_sharedSize (d + 1) LAYM (.inl (some (.inl q.1))) q.2 41 [some (.inr 0), some (.inl x1), some (.inl x2), some (.inl (b2i a.1)), some (.inl a.2)] [] σ) a := by
        intro x1 x2 σ
        refine go_iter (G := fun a : (Bool × Int) => Go l m_X11_sharedSize (d + 1) LAYM (.inl (some (.inl q.1))) q.2 41 [some (.inr 0), some (.inl x1), some (.inl x2), some (.inl (b2i a.1)), some (.inl a.2)] [] σ) (K := fun y : Bool => Go l m_X11_sharedSize (d + 1) LAYM (.inl (some (.inl q.1))) q.2 96 [some (.inr 0), some (.inl x1), some (.inl x2), some (.inl (b2i y)), none] [] σ) ?_
        rintro ⟨x3, x4⟩ w h hK
        replace h : L_X11_sharedSize_41 x2 σ x3 x4 = some w := h
        show Go l m_X11_sharedSize (d + 1) LAYM (.inl (some (.inl q.1))) q.2 41 [some (.inr 0), some (.inl x1), some (.inl x2), some (.inl (b2i x3)), some (.inl x4)] [] σ
        unfold L_X11_sharedSize_41 at h
        have hB_X11_sharedSize_89 : ∀ (x4 : Int) (y0 : Bool), B_X11_sharedSize_89 x4 y0 σ = some w → Go l m_X11_sharedSize (d + 1) LAYM (.inl (some (.inl q.1))) q.2 89 [some (.inr 0), some (.inl x1), some (.inl x2), none, some (.inl x4)] [.inl (b2i y0)] σ := by
          intro x4 y0 h
          unfold B_X11_sharedSize_89 at h
          refine go_ops ok_X11_sharedSize_89_2 (L' := [some (.inr 0), some (.inl x1), some (.inl x2), some (.inl (b2i y0)), some (.inl (wrap (x4 + 1)))]) (st' := []) (σ1 := σ) rfl ?_
          refine go_goto dc_X11_sharedSize_93 (by rfl) ?_
          cases h
          exact hK
        refine go_ops ok_X11_sharedSize_41_4 (L' := [some (.inr 0), some (.inl x1), some (.inl x2), some (.inl (b2i x3)), some (.inl x4)]) (st' := [.inl x2, .inr 45, .inl x4]) (σ1 := σ) rfl ?_
        obtain ⟨v5, e6, h⟩ := bind_inv h
        refine go_rd (k := 45) dc_X11_sharedSize_48 rfl e6 ?_
        refine go_icmp_ge dc_X11_sharedSize_49 (by rfl) (fun hc => ?_) (fun hc => ?_)
        · replace h := (if_pos hc).symm.trans h
          cases h
          refine go_wk (L' := [some (.inr 0), some (.inl x1), some (.inl x2), some (.inl (b2i x3)), none]) ⟨rfl, rfl, rfl, rfl, trivial⟩ ?_
          exact hK
        · replace h := (if_neg hc).symm.trans h
          refine go_ops ok_X11_sharedSize_52_1 (L' := [some (.inr 0), some (.inl x1), some (.inl x2), some (.inl (b2i x3)), some (.inl x4)]) (st' := [.inl (b2i x3)]) (σ1 := σ) rfl ?_
          refine go_ifb_eq dc_X11_sharedSize_53 (by rfl) (fun hc => ?_) (fun hc => ?_)
          · replace h := (if_neg hc).symm.trans h
            cases h
            refine go_wk (L' := [some (.inr 0), some (.inl x1), some (.inl x2), some (.inl (b2i x3)), none]) ⟨rfl, rfl, rfl, rfl, trivial⟩ ?_
            exact hK
          · replace h := (if_pos hc).symm.trans h
            refine go_ops ok_X11_sharedSize_56_5 (L' := [some (.inr 0), some (.inl x1), some (.inl x2), some (.inl (b2i x3)), some (.inl x4)]) (st' := [.inl x2, .inr 44, .inr 46]) (σ1 := σ) rfl ?_
            obtain ⟨v7, e8, h⟩ := bind_inv h
            refine go_rd (k := 44) dc_X11_sharedSize_65 rfl e8 ?_
            refine go_ops ok_X11_sharedSize_66_2 (L' := [some (.inr 0), some (.inl x1), some (.inl x2), some (.inl (b2i x3)), some (.inl x4)]) (st' := [.inl (wrap (v7 + x4)), .inr 46]) (σ1 := σ) rfl ?_
            obtain ⟨v9, e10, h⟩ := bind_inv h
            refine go_rd (k := 46) dc_X11_sharedSize_69 rfl e10 ?_
            refine go_ops ok_X11_sharedSize_70_5 (L' := [some (.inr 0), some (.inl x1), some (.inl x2), some (.inl (b2i x3)), some (.inl x4)]) (st' := [.inl x2, .inr 44, .inr 46, .inl v9]) (σ1 := σ) rfl ?_
            obtain ⟨v11, e12, h⟩ := bind_inv h
            refine go_rd (k := 44) dc_X11_sharedSize_79 rfl e12 ?_
            obtain ⟨v13, e14, h⟩ := bind_inv h
            refine go_rd (k := 46) dc_X11_sharedSize_80 rfl e14 ?_
            refine go_icmp_ne dc_X11_sharedSize_81 (by rfl) (fun hc => ?_) (fun hc => ?_)
            · replace h := (if_neg hc).symm.trans h
              refine go_ops ok_X11_sharedSize_88_1 (L' := [some (.inr 0), some (.inl x1), some (.inl x2), some (.inl (b2i x3)), some (.inl x4)]) (st' := [.inl 0]) (σ1 := σ) rfl ?_
              refine go_wk (L' := [some (.inr 0), some (.inl x1), some (.inl x2), none, some (.inl x4)]) ⟨rfl, rfl, rfl, rfl, trivial⟩ ?_
              exact hB_X11_sharedSize_89 x4 false h
            · replace h := (if_pos hc).symm.trans h
              refine go_ops ok_X11_sharedSize_84_1 (L' := [some (.inr 0), some (.inl x1), some (.inl x2), some (.inl (b2i x3)), some (.inl x4)]) (st' := [.inl 1]) (σ1 := σ) rfl ?_
              refine go_goto dc_X11_sharedSize_85 (by rfl) ?_
              refine go_wk (L' := [some (.inr 0), some (.inl x1), some (.inl x2), none, some (.inl x4)]) ⟨rfl, rfl, rfl, rfl, trivial⟩ ?_
              exact hB_X11_sharedSize_89 x4 true h
      have hL_X11_sharedSize_129 : ∀ (x1 : Int) (x2 : Int) (n : Nat) (a : (Int × Sg)) (y : Sg), iter (fun a : (Int × Sg) => L_X11_sharedSize_129 x2 a.1 a.2) n a = some y → (fun y : Sg => Go l m_X11_sharedSize (d + 1) LAYM (.inl (some (.inl q.1))) q.2 197 [some (.inr 0), some (.inl x1), some (.inl x2), none, none] [] y) y → (fun a : (Int × Sg) => Go l m_X11_sharedSize (d + 1) LAYM (.inl (some (.inl q.1))) q.2 129 [some (.inr 0), some (.inl x1), some (.inl x2), none, some (.inl a.1)] [] a.2) a := by
        intro x1 x2
        refine go_iter (G := fun a : (Int × Sg) => Go l m_X11_sharedSize (d + 1) LAYM (.inl (some (.inl q.1))) q.2 129 [some (.inr 0), some (.inl x1), some (.inl x2), none, some (.inl a.1)] [] a.2) (K := fun y : Sg => Go l m_X11_sharedSize (d + 1) LAYM (.inl (some (.inl q.1))) q.2 197 [some (.inr 0), some (.inl x1), some (.inl x2), none, none] [] y) ?_
        rintro ⟨x4, σ⟩ w h hK
        replace h : L_X11_sharedSize_129 x2 x4 σ = some w := h
        show Go l m_X11_sharedSize (d + 1) LAYM (.inl (some (.inl q.1))) q.2 129 [some (.inr 0), some (.inl x1), some (.inl x2), none, some (.inl x4)] [] σ
        unfold L_X11_sharedSize_129 at h
        have hB_X11_sharedSize_190 : ∀ (x4 : Int) (y0 : Int) (y1 : Int) (σ : Sg), B_X11_sharedSize_190 x4 y0 y1 σ = some w → Go l m_X11_sharedSize (d + 1) LAYM (.inl (some (.inl q.1))) q.2 190 [some (.inr 0), some (.inl x1), some (.inl x2), none, some (.inl x4)] [.inl y0, .inl y1, .inr 46] σ := by
          intro x4 y0 y1 σ h
          unfold B_X11_sharedSize_190 at h
          obtain ⟨s25, e26, h⟩ := bind_inv h
          refine go_wr (k := 46) dc_X11_sharedSize_190 rfl e26 ?_
          refine go_ops ok_X11_sharedSize_191_1 (L' := [some (.inr 0), some (.inl x1), some (.inl x2), none, some (.inl (wrap (x4 + (-1))))]) (st' := []) (σ1 := s25) rfl ?_
          refine go_goto dc_X11_sharedSize_194 (by rfl) ?_
          cases h
          exact hK
        have hB_X11_sharedSize_189 : ∀ (x4 : Int) (y0 : Int) (σ : Sg), B_X11_sharedSize_189 x4 y0 σ = some w → Go l m_X11_sharedSize (d + 1) LAYM (.inl (some (.inl q.1))) q.2 189 [some (.inr 0), some (.inl x1), some (.inl x2), none, some (.inl x4)] [.inl y0, .inr 46] σ := by
          intro x4 y0 σ h
          unfold B_X11_sharedSize_189 at h
          refine go_ops ok_X11_sharedSize_189_1 (L' := [some (.inr 0), some (.inl x1), some (.inl x2), none, some (.inl x4)]) (st' := [.inl (-1), .inl y0, .inr 46]) (σ1 := σ) rfl ?_
          exact hB_X11_sharedSize_190 x4 (-1) y0 σ h
        refine go_ops ok_X11_sharedSize_129_2 (L' := [some (.inr 0), some (.inl x1), some (.inl x2), none, some (.inl x4)]) (st' := [.inl x2, .inl x4]) (σ1 := σ) rfl ?_
        refine go_icmp_le dc_X11_sharedSize_132 (by rfl) (fun hc => ?_) (fun hc => ?_)
        · replace h := (if_pos hc).symm.trans h
          cases h
          refine go_wk (L' := [some (.inr 0), some (.inl x1), some (.inl x2), none, none]) ⟨rfl, rfl, rfl, trivial⟩ ?_
          exact hK
        · replace h := (if_neg hc).symm.trans h
          refine go_ops ok_X11_sharedSize_135_3 (L' := [some (.inr 0), some (.inl x1), some (.inl x2), none, some (.inl x4)]) (st' := [.inl x2, .inr 46]) (σ1 := σ) rfl ?_
          obtain ⟨v21, e22, h⟩ := bind_inv h
          refine go_rd (k := 46) dc_X11_sharedSize_140 rfl e22 ?_
          refine go_ops ok_X11_sharedSize_141_1 (L' := [some (.inr 0), some (.inl x1), some (.inl x2), none, some (.inl x4)]) (st' := [.inl (-1), .inl v21]) (σ1 := σ) rfl ?_
          refine go_icmp_ne dc_X11_sharedSize_142 (by rfl) (fun hc => ?_) (fun hc => ?_)
          · replace h := (if_neg hc).symm.trans h
            cases h
            refine go_wk (L' := [some (.inr 0), some (.inl x1), some (.inl x2), none, none]) ⟨rfl, rfl, rfl, trivial⟩ ?_
            exact hK
          · replace h := (if_pos hc).symm.trans h
            refine go_ops ok_X11_sharedSize_145_6 (L' := [some (.inr 0), some (.inl x1), some (.inl x2), none, some (.inl x4)]) (st' := [.inl x4, .inr 46, .inl x2, .inr 46]) (σ1 := σ) rfl ?_
            obtain ⟨v23, e24, h⟩ := bind_inv h
            refine go_rd (k := 46) dc_X11_sharedSize_156 rfl e24 ?_
            refine go_if_lt dc_X11_sharedSize_157 (by rfl) (fun hc => ?_) (fun hc => ?_)
            · replace h := (if_pos hc).symm.trans h
              exact hB_X11_sharedSize_189 x4 x2 σ h
            · replace h := (if_neg hc).symm.trans h
              refine go_ops ok_X11_sharedSize_160_2 (L' := [some (.inr 0), some (.inl x1), some (.inl x2), none, some (.inl x4)]) (st' := [.inl x4, .inr 0, .inl x2, .inr 46]) (σ1 := σ) rfl ?_
              obtain ⟨q27, e28, h⟩ := bind_inv h
              refine go_V (M1 := m_X11_isOwn) (as := [.inl x4]) (st := [.inl x2, .inr 46]) (k := 0) (ci := 11) dc_X11_sharedSize_163 ln_11_374 im_X11_isOwn (by decide) rfl rfl mk_X11_isOwn rfl (Nat.le_of_ble_eq_true rfl) (Nat.le_refl _) (v := (some (.inl (b2i q27)))) (σ1 := σ) (lk_X11_isOwn l d (by omega) x4 σ q27 e28) _ rfl ?_
              refine go_ifb_eq dc_X11_sharedSize_166 (by rfl) (fun hc => ?_) (fun hc => ?_)
              · replace h := (if_neg hc).symm.trans h
                exact hB_X11_sharedSize_189 x4 x2 σ h
              · replace h := (if_pos hc).symm.trans h
                refine go_ops ok_X11_sharedSize_169_3 (L' := [some (.inr 0), some (.inl x1), some (.inl x2), none, some (.inl x4)]) (st' := [.inl x2, .inl x4, .inr 0, .inl x2, .inr 46]) (σ1 := σ) rfl ?_
                obtain ⟨q29, e30, h⟩ := bind_inv h
                refine go_V (M1 := m_X11_isSame) (as := [.inl x4, .inl x2]) (st := [.inl x2, .inr 46]) (k := 0) (ci := 11) dc_X11_sharedSize_173 ln_11_377 im_X11_isSame (by decide) rfl rfl mk_X11_isSame rfl (Nat.le_of_ble_eq_true rfl) (Nat.le_refl _) (v := (some (.inl (b2i q29)))) (σ1 := σ) (lk_X11_isSame l d (by omega) x4 x2 σ q29 e30) _ rfl ?_
                refine go_ifb_eq dc_X11_sharedSize_176 (by rfl) (fun hc => ?_) (fun hc => ?_)
                · replace h := (if_neg hc).symm.trans h
                  exact hB_X11_sharedSize_189 x4 x2 σ h
                · replace h := (if_pos hc).symm.trans h
                  refine go_ops ok_X11_sharedSize_179_3 (L' := [some (.inr 0), some (.inl x1), some (.inl x2), none, some (.inl x4)]) (st' := [.inl x4, .inr 46, .inl x2, .inr 46]) (σ1 := σ) rfl ?_
                  obtain ⟨v31, e32, h⟩ := bind_inv h
                  refine go_rd (k := 46) dc_X11_sharedSize_185 rfl e32 ?_
                  refine go_goto dc_X11_sharedSize_186 (by rfl) ?_
                  exact hB_X11_sharedSize_190 x4 v31 x2 σ h
      have hB_X11_sharedSize_217 : ∀ (x1 : Int) (x2 : Int) (σ : Sg), B_X11_sharedSize_217 x1 x2 σ = some w → Go l m_X11_sharedSize (d + 1) LAYM (.inl (some (.inl q.1))) q.2 217 [some (.inr 0), some (.inl x1), some (.inl x2), none, none] [] σ := by
        intro x1 x2 σ h
        unfold B_X11_sharedSize_217 at h
        refine go_ops ok_X11_sharedSize_217_1 (L' := [some (.inr 0), some (.inl x1), some (.inl (wrap (x2 + (-1)))), none, none]) (st' := []) (σ1 := σ) rfl ?_
        refine go_goto dc_X11_sharedSize_220 (by rfl) ?_
        cases h
        exact hK
      have hB_X11_sharedSize_120 : ∀ (x1 : Int) (x2 : Int) (y0 : Int) (y1 : Int) (σ : Sg), B_X11_sharedSize_120 x1 x2 y0 y1 σ = some w → Go l m_X11_sharedSize (d + 1) LAYM (.inl (some (.inl q.1))) q.2 120 [some (.inr 0), some (.inl x1), some (.inl x2), none, none] [.inl y0, .inl y1, .inr 46] σ := by
        intro x1 x2 y0 y1 σ h
        unfold B_X11_sharedSize_120 at h
        obtain ⟨s17, e18, h⟩ := bind_inv h
        refine go_wr (k := 46) dc_X11_sharedSize_120 rfl e18 ?_
        obtain ⟨v19, e20, h⟩ := bnd_inv h
        refine go_ops ok_X11_sharedSize_121_5 (L' := [some (.inr 0), some (.inl x1), some (.inl x2), none, some (.inl v19)]) (st' := []) (σ1 := s17) (by subst e20; rfl) ?_
        obtain ⟨y33, e34, h⟩ := bind_inv h
        refine hL_X11_sharedSize_129 x1 x2 3000 (v19, s17) y33 e34 ?_
        show Go l m_X11_sharedSize (d + 1) LAYM (.inl (some (.inl q.1))) q.2 197 [some (.inr 0), some (.inl x1), some (.inl x2), none, none] [] y33
        refine go_ops ok_X11_sharedSize_197_3 (L' := [some (.inr 0), some (.inl x1), some (.inl x2), none, none]) (st' := [.inl x2, .inr 46]) (σ1 := y33) rfl ?_
        obtain ⟨v35, e36, h⟩ := bind_inv h
        refine go_rd (k := 46) dc_X11_sharedSize_202 rfl e36 ?_
        refine go_ops ok_X11_sharedSize_203_1 (L' := [some (.inr 0), some (.inl x1), some (.inl x2), none, none]) (st' := [.inl (-1), .inl v35]) (σ1 := y33) rfl ?_
        refine go_icmp_ne dc_X11_sharedSize_204 (by rfl) (fun hc => ?_) (fun hc => ?_)
        · replace h := (if_neg hc).symm.trans h
          exact hB_X11_sharedSize_217 x1 x2 y33 h
        · replace h := (if_pos hc).symm.trans h
          refine go_ops ok_X11_sharedSize_207_4 (L' := [some (.inr 0), some (.inl x1), some (.inl x2), none, none]) (st' := [.inl x1, .inl x2, .inr 46]) (σ1 := y33) rfl ?_
          obtain ⟨s37, e38, h⟩ := bind_inv h
          refine go_wr (k := 46) dc_X11_sharedSize_213 rfl e38 ?_
          refine go_ops ok_X11_sharedSize_214_1 (L' := [some (.inr 0), some (.inl (wrap (x1 + 1))), some (.inl x2), none, none]) (st' := []) (σ1 := s37) rfl ?_
          exact hB_X11_sharedSize_217 (wrap (x1 + 1)) x2 s37 h
      have hB_X11_sharedSize_37 : ∀ (x1 : Int) (x2 : Int) (y0 : Bool) (σ : Sg), B_X11_sharedSize_37 x1 x2 y0 σ = some w → Go l m_X11_sharedSize (d + 1) LAYM (.inl (some (.inl q.1))) q.2 37 [some (.inr 0), some (.inl x1), some (.inl x2), none, none] [.inl (b2i y0)] σ := by
        intro x1 x2 y0 σ h
        unfold B_X11_sharedSize_37 at h
        refine go_ops ok_X11_sharedSize_37_3 (L' := [some (.inr 0), some (.inl x1), some (.inl x2), some (.inl (b2i y0)), some (.inl 1)]) (st' := []) (σ1 := σ) rfl ?_
        obtain ⟨y15, e16, h⟩ := bind_inv h
        refine hL_X11_sharedSize_41 x1 x2 σ 3000 (y0, 1) y15 e16 ?_
        show Go l m_X11_sharedSize (d + 1) LAYM (.inl (some (.inl q.1))) q.2 96 [some (.inr 0), some (.inl x1), some (.inl x2), some (.inl (b2i y15)), none] [] σ
        refine go_ops ok_X11_sharedSize_96_4 (L' := [some (.inr 0), some (.inl x1), some (.inl x2), some (.inl (b2i y15)), none]) (st' := [.inl (b2i y15), .inl x2, .inr 46]) (σ1 := σ) rfl ?_
        refine go_ifb_eq dc_X11_sharedSize_102 (by rfl) (fun hc => ?_) (fun hc => ?_)
        · replace h := (if_neg hc).symm.trans h
          refine go_ops ok_X11_sharedSize_119_1 (L' := [some (.inr 0), some (.inl x1), some (.inl x2), some (.inl (b2i y15)), none]) (st' := [.inl (-1), .inl x2, .inr 46]) (σ1 := σ) rfl ?_
          refine go_wk (L' := [some (.inr 0), some (.inl x1), some (.inl x2), none, none]) ⟨rfl, rfl, rfl, trivial⟩ ?_
          exact hB_X11_sharedSize_120 x1 x2 (-1) x2 σ h
        · replace h := (if_pos hc).symm.trans h
          refine go_ops ok_X11_sharedSize_105_5 (L' := [some (.inr 0), some (.inl x1), some (.inl x2), some (.inl (b2i y15)), none]) (st' := [.inl x2, .inr 44, .inr 46, .inl x2, .inr 46]) (σ1 := σ) rfl ?_
          obtain ⟨v39, e40, h⟩ := bind_inv h
          refine go_rd (k := 44) dc_X11_sharedSize_114 rfl e40 ?_
          obtain ⟨v41, e42, h⟩ := bind_inv h
          refine go_rd (k := 46) dc_X11_sharedSize_115 rfl e42 ?_
          refine go_goto dc_X11_sharedSize_116 (by rfl) ?_
          refine go_wk (L' := [some (.inr 0), some (.inl x1), some (.inl x2), none, none]) ⟨rfl, rfl, rfl, trivial⟩ ?_
          exact hB_X11_sharedSize_120 x1 x2 v41 x2 σ h
      have hB_X11_sharedSize_36 : ∀ (x1 : Int) (x2 : Int) (σ : Sg), B_X11_sharedSize_36 x1 x2 σ = some w → Go l m_X11_sharedSize (d + 1) LAYM (.inl (some (.inl q.1))) q.2 36 [some (.inr 0), some (.inl x1), some (.inl x2), none, none] [] σ := by
        intro x1 x2 σ h
        unfold B_X11_sharedSize_36 at h
        refine go_ops ok_X11_sharedSize_36_1 (L' := [some (.inr 0), some (.inl x1), some (.inl x2), none, none]) (st' := [.inl 0]) (σ1 := σ) rfl ?_
        exact hB_X11_sharedSize_37 x1 x2 false σ h
      refine go_ops ok_X11_sharedSize_9_1 (L' := [some (.inr 0), some (.inl x1), some (.inl x2), none, none]) (st' := [.inl x2]) (σ1 := σ) rfl ?_
      refine go_if_lt dc_X11_sharedSize_10 (by rfl) (fun hc => ?_) (fun hc => ?_)
      · replace h := (if_pos hc).symm.trans h
        cases h
        refine go_wk (L' := [none, some (.inl x1), none, none, none]) ⟨rfl, trivial⟩ ?_
        exact hK
      · replace h := (if_neg hc).symm.trans h
        refine go_ops ok_X11_sharedSize_13_3 (L' := [some (.inr 0), some (.inl x1), some (.inl x2), none, none]) (st' := [.inl x2, .inr 41]) (σ1 := σ) rfl ?_
        obtain ⟨v3, e4, h⟩ := bind_inv h
        refine go_rd (k := 41) dc_X11_sharedSize_18 rfl e4 ?_
        refine go_ops ok_X11_sharedSize_19_1 (L' := [some (.inr 0), some (.inl x1), some (.inl x2), none, none]) (st' := [.inl 5, .inl v3]) (σ1 := σ) rfl ?_
        refine go_icmp_ne dc_X11_sharedSize_20 (by rfl) (fun hc => ?_) (fun hc => ?_)
        · replace h := (if_neg hc).symm.trans h
          exact hB_X11_sharedSize_36 x1 x2 σ h
        · replace h := (if_pos hc).symm.trans h
          refine go_ops ok_X11_sharedSize_23_3 (L' := [some (.inr 0), some (.inl x1), some (.inl x2), none, none]) (st' := [.inl x2, .inr 45]) (σ1 := σ) rfl ?_
          obtain ⟨v43, e44, h⟩ := bind_inv h
          refine go_rd (k := 45) dc_X11_sharedSize_28 rfl e44 ?_
          refine go_if_le dc_X11_sharedSize_29 (by rfl) (fun hc => ?_) (fun hc => ?_)
          · replace h := (if_pos hc).symm.trans h
            exact hB_X11_sharedSize_36 x1 x2 σ h
          · replace h := (if_neg hc).symm.trans h
            refine go_ops ok_X11_sharedSize_32_1 (L' := [some (.inr 0), some (.inl x1), some (.inl x2), none, none]) (st' := [.inl 1]) (σ1 := σ) rfl ?_
            refine go_goto dc_X11_sharedSize_33 (by rfl) ?_
            exact hB_X11_sharedSize_37 x1 x2 true σ h
    obtain ⟨v1, e2, h⟩ := bnd_inv h
    refine go_ops ok_X11_sharedSize_0_7 (L' := [some (.inr 0), some (.inl 0), some (.inl v1), none, none]) (st' := []) (σ1 := σ) (by subst e2; rfl) ?_
    obtain ⟨y45, e46, h⟩ := bind_inv h
    refine hL_X11_sharedSize_9  3000 (0, v1, σ) y45 e46 ?_
    show Go l m_X11_sharedSize (d + 1) LAYM (.inl (some (.inl q.1))) q.2 223 [none, some (.inl y45.1), none, none, none] [] y45.2
    refine go_ops ok_X11_sharedSize_223_1 (L' := [none, some (.inl y45.1), none, none, none]) (st' := [.inl y45.1]) (σ1 := y45.2) rfl ?_
    have h9 := Option.some.inj h
    subst h9
    exact go_iret dc_X11_sharedSize_224 rfl
  have hf := go_ct (as := [.inr 0]) mk_X11_sharedSize (by rfl) (Nat.le_of_ble_eq_true rfl) key
  exact hf
theorem dc_X11_size_4 : decode m_X11_size.2.2.1 4 = .ok (.invokestatic 171, 3) := by decide +kernel
theorem dc_X11_size_7 : decode m_X11_size.2.2.1 7 = .ok (.ifCond .ne 7, 3) := by decide +kernel
theorem dc_X11_size_11 : decode m_X11_size.2.2.1 11 = .ok (.goto 15, 3) := by decide +kernel
theorem dc_X11_size_18 : decode m_X11_size.2.2.1 18 = .ok (.ifCond .ne 7, 3) := by decide +kernel
theorem dc_X11_size_22 : decode m_X11_size.2.2.1 22 = .ok (.goto 4, 3) := by decide +kernel
theorem dc_X11_size_26 : decode m_X11_size.2.2.1 26 = .ok (.invokevirtual 183, 3) := by decide +kernel
theorem dc_X11_size_29 : decode m_X11_size.2.2.1 29 = .ok (.ifCond .eq 5, 3) := by decide +kernel
theorem dc_X11_size_33 : decode m_X11_size.2.2.1 33 = .ok (.ireturn, 1) := by decide +kernel
theorem dc_X11_size_36 : decode m_X11_size.2.2.1 36 = .ok (.invokevirtual 364, 3) := by decide +kernel
theorem dc_X11_size_43 : decode m_X11_size.2.2.1 43 = .ok (.ifCond .eq 8, 3) := by decide +kernel
theorem dc_X11_size_48 : decode m_X11_size.2.2.1 48 = .ok (.goto 18, 3) := by decide +kernel
theorem dc_X11_size_52 : decode m_X11_size.2.2.1 52 = .ok (.ifCond .eq 10, 3) := by decide +kernel
theorem dc_X11_size_56 : decode m_X11_size.2.2.1 56 = .ok (.invokevirtual 380, 3) := by decide +kernel
theorem dc_X11_size_59 : decode m_X11_size.2.2.1 59 = .ok (.goto 7, 3) := by decide +kernel
theorem dc_X11_size_66 : decode m_X11_size.2.2.1 66 = .ok (.ireturn, 1) := by decide +kernel
theorem ok_X11_size_0_4 : oks m_X11_size.1 m_X11_size.2.2.1 0 [(.aload_n 0, 1, (0, 0, 0)), (.iload_n 1, 1, (0, 0, 0)), (.iconst 2, 1, (0, 0, 0)), (.iconst 3, 1, (0, 0, 0))] = true ∧ plen 0 [(.aload_n 0, 1, (0, 0, 0)), (.iload_n 1, 1, (0, 0, 0)), (.iconst 2, 1, (0, 0, 0)), (.iconst 3, 1, (0, 0, 0))] = 4 := by decide +kernel
theorem ok_X11_size_10_1 : oks m_X11_size.1 m_X11_size.2.2.1 10 [(.iconst 1, 1, (0, 0, 0))] = true ∧ plen 10 [(.iconst 1, 1, (0, 0, 0))] = 11 := by decide +kernel
theorem ok_X11_size_14_2 : oks m_X11_size.1 m_X11_size.2.2.1 14 [(.aload_n 0, 1, (0, 0, 0)), (.getfield 231, 3, (11, 21, 0))] = true ∧ plen 14 [(.aload_n 0, 1, (0, 0, 0)), (.getfield 231, 3, (11, 21, 0))] = 18 := by decide +kernel
theorem ok_X11_size_21_1 : oks m_X11_size.1 m_X11_size.2.2.1 21 [(.iconst 2, 1, (0, 0, 0))] = true ∧ plen 21 [(.iconst 2, 1, (0, 0, 0))] = 22 := by decide +kernel
theorem ok_X11_size_25_1 : oks m_X11_size.1 m_X11_size.2.2.1 25 [(.iconst 0, 1, (0, 0, 0))] = true ∧ plen 25 [(.iconst 0, 1, (0, 0, 0))] = 26 := by decide +kernel
theorem ok_X11_size_32_1 : oks m_X11_size.1 m_X11_size.2.2.1 32 [(.iconst 0, 1, (0, 0, 0))] = true ∧ plen 32 [(.iconst 0, 1, (0, 0, 0))] = 33 := by decide +kernel
theorem ok_X11_size_34_2 : oks m_X11_size.1 m_X11_size.2.2.1 34 [(.aload_n 0, 1, (0, 0, 0)), (.iload_n 1, 1, (0, 0, 0))] = true ∧ plen 34 [(.aload_n 0, 1, (0, 0, 0)), (.iload_n 1, 1, (0, 0, 0))] = 36 := by decide +kernel
theorem ok_X11_size_39_2 : oks m_X11_size.1 m_X11_size.2.2.1 39 [(.aload_n 0, 1, (0, 0, 0)), (.getfield 348, 3, (11, 55, 0))] = true ∧ plen 39 [(.aload_n 0, 1, (0, 0, 0)), (.getfield 348, 3, (11, 55, 0))] = 43 := by decide +kernel
theorem ok_X11_size_46_1 : oks m_X11_size.1 m_X11_size.2.2.1 46 [(.bipush (-3), 2, (0, 0, 0))] = true ∧ plen 46 [(.bipush (-3), 2, (0, 0, 0))] = 48 := by decide +kernel
theorem ok_X11_size_51_1 : oks m_X11_size.1 m_X11_size.2.2.1 51 [(.iload_n 2, 1, (0, 0, 0))] = true ∧ plen 51 [(.iload_n 2, 1, (0, 0, 0))] = 52 := by decide +kernel
theorem ok_X11_size_55_1 : oks m_X11_size.1 m_X11_size.2.2.1 55 [(.aload_n 0, 1, (0, 0, 0))] = true ∧ plen 55 [(.aload_n 0, 1, (0, 0, 0))] = 56 := by decide +kernel
theorem ok_X11_size_62_2 : oks m_X11_size.1 m_X11_size.2.2.1 62 [(.aload_n 0, 1, (0, 0, 0)), (.getfield 321, 3, (11, 56, 0))] = true ∧ plen 62 [(.aload_n 0, 1, (0, 0, 0)), (.getfield 321, 3, (11, 56, 0))] = 66 := by decide +kernel
def B_X11_size_26 (x1 : Int) (x2 : Bool) (y0 : Int) (σ : Sg) : Option (Int × Sg) :=
bnd (F_X11_refused y0 σ) fun q1 =>
if q1.1 = true then
some (0, q1.2)
else
(F_X11_build x1 q1.2).bind fun q3 =>
if (q3 0 55) = 0 then
if x2 = true then
(F_X11_sharedSize q3).bind fun q5 =>
some (q5.1, q5.2)
else
some (q3 0 56, q3)
else
some ((-3), q3)
def F_X11_size (a1 : Int) (a2 : Bool) (σ : Sg) : Option (Int × Sg) :=
if (F_X11_in a1 2 3) = true then
if (σ 0 21) = 0 then
B_X11_size_26 a1 a2 2 σ
else
B_X11_size_26 a1 a2 0 σ
else
B_X11_size_26 a1 a2 1 σ
theorem lk_X11_size (l : Launch) (d : Nat) (hd : 9 ≤ d) (a1 : Int) (a2 : Bool) (σ : Sg) (q : (Int × Sg)) (h : F_X11_size a1 a2 σ = some q) : CT l d m_X11_size.2.1 m_X11_size.2.2.1 m_X11_size.2.2.2.1 m_X11_size.2.2.2.2 [.inr 0, .inl a1, .inl (b2i a2)] (LAYM, σ) (some (.inl q.1)) (LAYM, q.2) := by
  obtain ⟨d, rfl⟩ : ∃ e, d = e + 1 := ⟨d - 1, by omega⟩
  have key : Go l m_X11_size (d + 1) LAYM (.inl (some (.inl q.1))) q.2 0 [some (.inr 0), some (.inl a1), some (.inl (b2i a2))] [] σ := by
    unfold F_X11_size at h
    have hB_X11_size_26 : ∀ (x1 : Int) (x2 : Bool) (y0 : Int) (σ : Sg), B_X11_size_26 x1 x2 y0 σ = some q → Go l m_X11_size (d + 1) LAYM (.inl (some (.inl q.1))) q.2 26 [some (.inr 0), some (.inl x1), some (.inl (b2i x2))] [.inl y0, .inr 0] σ := by
      intro x1 x2 y0 σ h
      unfold B_X11_size_26 at h
      obtain ⟨q1, e2, h⟩ := bnd_inv h
      refine go_V (M1 := m_X11_refused) (as := [.inl y0]) (st := []) (k := 0) (ci := 11) dc_X11_size_26 ln_11_183 im_X11_refused (by decide) rfl rfl mk_X11_refused rfl (Nat.le_of_ble_eq_true rfl) (Nat.le_refl _) (v := (some (.inl (b2i q1.1)))) (σ1 := q1.2) (lk_X11_refused l d (by omega) y0 σ q1 e2.symm) _ rfl ?_
      refine go_ifb_eq dc_X11_size_29 (by rfl) (fun hc => ?_) (fun hc => ?_)
      · replace h := (if_neg hc).symm.trans h
        refine go_ops ok_X11_size_34_2 (L' := [some (.inr 0), some (.inl x1), some (.inl (b2i x2))]) (st' := [.inl x1, .inr 0]) (σ1 := q1.2) rfl ?_
        obtain ⟨q3, e4, h⟩ := bind_inv h
        refine go_V (M1 := m_X11_build) (as := [.inl x1]) (st := []) (k := 0) (ci := 11) dc_X11_size_36 ln_11_364 im_X11_build (by decide) rfl rfl mk_X11_build rfl (Nat.le_of_ble_eq_true rfl) (Nat.le_refl _) (v := none) (σ1 := q3) (lk_X11_build l d (by omega) x1 q1.2 q3 e4) _ rfl ?_
        refine go_ops ok_X11_size_39_2 (L' := [some (.inr 0), some (.inl x1), some (.inl (b2i x2))]) (st' := [.inl (q3 0 55)]) (σ1 := q3) rfl ?_
        refine go_if_eq dc_X11_size_43 (by rfl) (fun hc => ?_) (fun hc => ?_)
        · replace h := (if_pos hc).symm.trans h
          refine go_ops ok_X11_size_51_1 (L' := [some (.inr 0), some (.inl x1), some (.inl (b2i x2))]) (st' := [.inl (b2i x2)]) (σ1 := q3) rfl ?_
          refine go_ifb_eq dc_X11_size_52 (by rfl) (fun hc => ?_) (fun hc => ?_)
          · replace h := (if_neg hc).symm.trans h
            refine go_ops ok_X11_size_62_2 (L' := [some (.inr 0), some (.inl x1), some (.inl (b2i x2))]) (st' := [.inl (q3 0 56)]) (σ1 := q3) rfl ?_
            have h9 := Option.some.inj h
            subst h9
            exact go_iret dc_X11_size_66 rfl
          · replace h := (if_pos hc).symm.trans h
            refine go_ops ok_X11_size_55_1 (L' := [some (.inr 0), some (.inl x1), some (.inl (b2i x2))]) (st' := [.inr 0]) (σ1 := q3) rfl ?_
            obtain ⟨q5, e6, h⟩ := bind_inv h
            refine go_V (M1 := m_X11_sharedSize) (as := []) (st := []) (k := 0) (ci := 11) dc_X11_size_56 ln_11_380 im_X11_sharedSize (by decide) rfl rfl mk_X11_sharedSize rfl (Nat.le_of_ble_eq_true rfl) (Nat.le_refl _) (v := (some (.inl q5.1))) (σ1 := q5.2) (lk_X11_sharedSize l d (by omega) q3 q5 e6) _ rfl ?_
            refine go_goto dc_X11_size_59 (by rfl) ?_
            have h9 := Option.some.inj h
            subst h9
            exact go_iret dc_X11_size_66 rfl
        · replace h := (if_neg hc).symm.trans h
          refine go_ops ok_X11_size_46_1 (L' := [some (.inr 0), some (.inl x1), some (.inl (b2i x2))]) (st' := [.inl (-3)]) (σ1 := q3) rfl ?_
          refine go_goto dc_X11_size_48 (by rfl) ?_
          have h9 := Option.some.inj h
          subst h9
          exact go_iret dc_X11_size_66 rfl
      · replace h := (if_pos hc).symm.trans h
        refine go_ops ok_X11_size_32_1 (L' := [some (.inr 0), some (.inl x1), some (.inl (b2i x2))]) (st' := [.inl 0]) (σ1 := q1.2) rfl ?_
        have h9 := Option.some.inj h
        subst h9
        exact go_iret dc_X11_size_33 rfl
    refine go_ops ok_X11_size_0_4 (L' := [some (.inr 0), some (.inl a1), some (.inl (b2i a2))]) (st' := [.inl 3, .inl 2, .inl a1, .inr 0]) (σ1 := σ) rfl ?_
    refine go_S (M1 := m_X11_in) (as := [.inl a1, .inl 2, .inl 3]) (st := [.inr 0]) dc_X11_size_4 ln_11_171 sm_X11_in mk_X11_in rfl (Nat.le_of_ble_eq_true rfl) (Nat.le_refl _) (v := (some (.inl (b2i (F_X11_in a1 2 3))))) (σ1 := σ) (lk_X11_in l d (by omega) a1 2 3 σ _ rfl) _ rfl ?_
    refine go_ifb_ne dc_X11_size_7 (by rfl) (fun hc => ?_) (fun hc => ?_)
    · replace h := (if_pos hc).symm.trans h
      refine go_ops ok_X11_size_14_2 (L' := [some (.inr 0), some (.inl a1), some (.inl (b2i a2))]) (st' := [.inl (σ 0 21), .inr 0]) (σ1 := σ) rfl ?_
      refine go_if_ne dc_X11_size_18 (by rfl) (fun hc => ?_) (fun hc => ?_)
      · replace h := (if_neg hc).symm.trans h
        refine go_ops ok_X11_size_25_1 (L' := [some (.inr 0), some (.inl a1), some (.inl (b2i a2))]) (st' := [.inl 0, .inr 0]) (σ1 := σ) rfl ?_
        exact hB_X11_size_26 a1 a2 0 σ h
      · replace h := (if_pos hc).symm.trans h
        refine go_ops ok_X11_size_21_1 (L' := [some (.inr 0), some (.inl a1), some (.inl (b2i a2))]) (st' := [.inl 2, .inr 0]) (σ1 := σ) rfl ?_
        refine go_goto dc_X11_size_22 (by rfl) ?_
        exact hB_X11_size_26 a1 a2 2 σ h
    · replace h := (if_neg hc).symm.trans h
      refine go_ops ok_X11_size_10_1 (L' := [some (.inr 0), some (.inl a1), some (.inl (b2i a2))]) (st' := [.inl 1, .inr 0]) (σ1 := σ) rfl ?_
      refine go_goto dc_X11_size_11 (by rfl) ?_
      exact hB_X11_size_26 a1 a2 1 σ h
  have hf := go_ct (as := [.inr 0, .inl a1, .inl (b2i a2)]) mk_X11_size (by rfl) (Nat.le_of_ble_eq_true rfl) key
  exact hf
theorem dc_X11_missing_5 : decode m_X11_missing.2.2.1 5 = .ok (.ifCond .ne 7, 3) := by decide +kernel
theorem dc_X11_missing_9 : decode m_X11_missing.2.2.1 9 = .ok (.goto 4, 3) := by decide +kernel
theorem dc_X11_missing_13 : decode m_X11_missing.2.2.1 13 = .ok (.invokevirtual 183, 3) := by decide +kernel
theorem dc_X11_missing_16 : decode m_X11_missing.2.2.1 16 = .ok (.ifCond .eq 5, 3) := by decide +kernel
theorem dc_X11_missing_20 : decode m_X11_missing.2.2.1 20 = .ok (.ireturn, 1) := by decide +kernel
theorem dc_X11_missing_23 : decode m_X11_missing.2.2.1 23 = .ok (.invokevirtual 364, 3) := by decide +kernel
theorem dc_X11_missing_35 : decode m_X11_missing.2.2.1 35 = .ok (.if_icmp .ge 27, 3) := by decide +kernel
theorem dc_X11_missing_44 : decode m_X11_missing.2.2.1 44 = .ok (.iaload, 1) := by decide +kernel
theorem dc_X11_missing_46 : decode m_X11_missing.2.2.1 46 = .ok (.if_icmp .ne 7, 3) := by decide +kernel
theorem dc_X11_missing_50 : decode m_X11_missing.2.2.1 50 = .ok (.goto 4, 3) := by decide +kernel
theorem dc_X11_missing_59 : decode m_X11_missing.2.2.1 59 = .ok (.goto (-29), 3) := by decide +kernel
theorem dc_X11_missing_66 : decode m_X11_missing.2.2.1 66 = .ok (.ifCond .eq 8, 3) := by decide +kernel
theorem dc_X11_missing_71 : decode m_X11_missing.2.2.1 71 = .ok (.goto 4, 3) := by decide +kernel
theorem dc_X11_missing_75 : decode m_X11_missing.2.2.1 75 = .ok (.ireturn, 1) := by decide +kernel
theorem ok_X11_missing_0_3 : oks m_X11_missing.1 m_X11_missing.2.2.1 0 [(.aload_n 0, 1, (0, 0, 0)), (.aload_n 0, 1, (0, 0, 0)), (.getfield 231, 3, (11, 21, 0))] = true ∧ plen 0 [(.aload_n 0, 1, (0, 0, 0)), (.aload_n 0, 1, (0, 0, 0)), (.getfield 231, 3, (11, 21, 0))] = 5 := by decide +kernel
theorem ok_X11_missing_8_1 : oks m_X11_missing.1 m_X11_missing.2.2.1 8 [(.iconst 1, 1, (0, 0, 0))] = true ∧ plen 8 [(.iconst 1, 1, (0, 0, 0))] = 9 := by decide +kernel
theorem ok_X11_missing_12_1 : oks m_X11_missing.1 m_X11_missing.2.2.1 12 [(.iconst 0, 1, (0, 0, 0))] = true ∧ plen 12 [(.iconst 0, 1, (0, 0, 0))] = 13 := by decide +kernel
theorem ok_X11_missing_19_1 : oks m_X11_missing.1 m_X11_missing.2.2.1 19 [(.iconst 0, 1, (0, 0, 0))] = true ∧ plen 19 [(.iconst 0, 1, (0, 0, 0))] = 20 := by decide +kernel
theorem ok_X11_missing_21_2 : oks m_X11_missing.1 m_X11_missing.2.2.1 21 [(.aload_n 0, 1, (0, 0, 0)), (.iconst 2, 1, (0, 0, 0))] = true ∧ plen 21 [(.aload_n 0, 1, (0, 0, 0)), (.iconst 2, 1, (0, 0, 0))] = 23 := by decide +kernel
theorem ok_X11_missing_26_4 : oks m_X11_missing.1 m_X11_missing.2.2.1 26 [(.iconst 0, 1, (0, 0, 0)), (.istore_n 1, 1, (0, 0, 0)), (.iconst 0, 1, (0, 0, 0)), (.istore_n 2, 1, (0, 0, 0))] = true ∧ plen 26 [(.iconst 0, 1, (0, 0, 0)), (.istore_n 1, 1, (0, 0, 0)), (.iconst 0, 1, (0, 0, 0)), (.istore_n 2, 1, (0, 0, 0))] = 30 := by decide +kernel
theorem ok_X11_missing_30_3 : oks m_X11_missing.1 m_X11_missing.2.2.1 30 [(.iload_n 2, 1, (0, 0, 0)), (.aload_n 0, 1, (0, 0, 0)), (.getfield 321, 3, (11, 56, 0))] = true ∧ plen 30 [(.iload_n 2, 1, (0, 0, 0)), (.aload_n 0, 1, (0, 0, 0)), (.getfield 321, 3, (11, 56, 0))] = 35 := by decide +kernel
theorem ok_X11_missing_38_4 : oks m_X11_missing.1 m_X11_missing.2.2.1 38 [(.iload_n 1, 1, (0, 0, 0)), (.aload_n 0, 1, (0, 0, 0)), (.getfield 131, 3, (11, 58, 0)), (.iload_n 2, 1, (0, 0, 0))] = true ∧ plen 38 [(.iload_n 1, 1, (0, 0, 0)), (.aload_n 0, 1, (0, 0, 0)), (.getfield 131, 3, (11, 58, 0)), (.iload_n 2, 1, (0, 0, 0))] = 44 := by decide +kernel
theorem ok_X11_missing_45_1 : oks m_X11_missing.1 m_X11_missing.2.2.1 45 [(.iconst 2, 1, (0, 0, 0))] = true ∧ plen 45 [(.iconst 2, 1, (0, 0, 0))] = 46 := by decide +kernel
theorem ok_X11_missing_49_1 : oks m_X11_missing.1 m_X11_missing.2.2.1 49 [(.iconst 1, 1, (0, 0, 0))] = true ∧ plen 49 [(.iconst 1, 1, (0, 0, 0))] = 50 := by decide +kernel
theorem ok_X11_missing_53_1 : oks m_X11_missing.1 m_X11_missing.2.2.1 53 [(.iconst 0, 1, (0, 0, 0))] = true ∧ plen 53 [(.iconst 0, 1, (0, 0, 0))] = 54 := by decide +kernel
theorem ok_X11_missing_54_3 : oks m_X11_missing.1 m_X11_missing.2.2.1 54 [(.iadd, 1, (0, 0, 0)), (.istore_n 1, 1, (0, 0, 0)), (.iinc 2 1, 3, (0, 0, 0))] = true ∧ plen 54 [(.iadd, 1, (0, 0, 0)), (.istore_n 1, 1, (0, 0, 0)), (.iinc 2 1, 3, (0, 0, 0))] = 59 := by decide +kernel
theorem ok_X11_missing_62_2 : oks m_X11_missing.1 m_X11_missing.2.2.1 62 [(.aload_n 0, 1, (0, 0, 0)), (.getfield 348, 3, (11, 55, 0))] = true ∧ plen 62 [(.aload_n 0, 1, (0, 0, 0)), (.getfield 348, 3, (11, 55, 0))] = 66 := by decide +kernel
theorem ok_X11_missing_69_1 : oks m_X11_missing.1 m_X11_missing.2.2.1 69 [(.bipush (-3), 2, (0, 0, 0))] = true ∧ plen 69 [(.bipush (-3), 2, (0, 0, 0))] = 71 := by decide +kernel
theorem ok_X11_missing_74_1 : oks m_X11_missing.1 m_X11_missing.2.2.1 74 [(.iload_n 1, 1, (0, 0, 0))] = true ∧ plen 74 [(.iload_n 1, 1, (0, 0, 0))] = 75 := by decide +kernel
def B_X11_missing_54 (x2 : Int) (y0 : Bool) (y1 : Int) (σ : Sg) : Option ((Int × Int) ⊕ Int) :=
bnd (wrap (y1 + (b2i y0))) fun v7 =>
some (.inl (v7, wrap (x2 + 1)))
def L_X11_missing_30 (σ : Sg) (x1 : Int) (x2 : Int) : Option ((Int × Int) ⊕ Int) :=
if (σ 0 56) ≤ x2 then
some (.inr x1)
else
(rdn 512 σ 41 x2).bind fun v5 =>
if v5 = 2 then
B_X11_missing_54 x2 true x1 σ
else
B_X11_missing_54 x2 false x1 σ
def B_X11_missing_13 (y0 : Bool) (σ : Sg) : Option (Int × Sg) :=
bnd (F_X11_refused (b2i y0) σ) fun q1 =>
if q1.1 = true then
some (0, q1.2)
else
(F_X11_build 2 q1.2).bind fun q3 =>
(iter (fun a : (Int × Int) => L_X11_missing_30 q3 a.1 a.2) 3000 (0, 0)).bind fun y9 =>
if (q3 0 55) = 0 then
some (y9, q3)
else
some ((-3), q3)
def F_X11_missing (σ : Sg) : Option (Int × Sg) :=
if (σ 0 21) = 0 then
B_X11_missing_13 true σ
else
B_X11_missing_13 false σ
theorem lk_X11_missing (l : Launch) (d : Nat) (hd : 9 ≤ d) (σ : Sg) (q : (Int × Sg)) (h : F_X11_missing σ = some q) : CT l d m_X11_missing.2.1 m_X11_missing.2.2.1 m_X11_missing.2.2.2.1 m_X11_missing.2.2.2.2 [.inr 0] (LAYM, σ) (some (.inl q.1)) (LAYM, q.2) := by
  obtain ⟨d, rfl⟩ : ∃ e, d = e + 1 := ⟨d - 1, by omega⟩
  have key : Go l m_X11_missing (d + 1) LAYM (.inl (some (.inl q.1))) q.2 0 [some (.inr 0), none, none] [] σ := by
    unfold F_X11_missing at h
    have hL_X11_missing_30 : ∀ (σ : Sg) (n : Nat) (a : (Int × Int)) (y : Int), iter (fun a : (Int × Int) => L_X11_missing_30 σ a.1 a.2) n a = some y → (fun y : Int => Go l m_X11_missing (d + 1) LAYM (.inl (some (.inl q.1))) q.2 62 [some (.inr 0), some (.inl y), none] [] σ) y → (fun a : (Int × Int) => Go l m_X11_missing (d + 1) LAYM (.inl (some (.inl q.1))) q.2 30 [some (.inr 0), some (.inl a.1), some (.inl a.2)] [] σ) a := by
      intro σ
      refine go_iter (G := fun a : (Int × Int) => Go l m_X11_missing (d + 1) LAYM (.inl (some (.inl q.1))) q.2 30 [some (.inr 0), some (.inl a.1), some (.inl a.2)] [] σ) (K := fun y : Int => Go l m_X11_missing (d + 1) LAYM (.inl (some (.inl q.1))) q.2 62 [some (.inr 0), some (.inl y), none] [] σ) ?_
      rintro ⟨x1, x2⟩ w h hK
      replace h : L_X11_missing_30 σ x1 x2 = some w := h
      show Go l m_X11_missing (d + 1) LAYM (.inl (some (.inl q.1))) q.2 30 [some (.inr 0), some (.inl x1), some (.inl x2)] [] σ
      unfold L_X11_missing_30 at h
      have hB_X11_missing_54 : ∀ (x2 : Int) (y0 : Bool) (y1 : Int), B_X11_missing_54 x2 y0 y1 σ = some w → Go l m_X11_missing (d + 1) LAYM (.inl (some (.inl q.1))) q.2 54 [some (.inr 0), none, some (.inl x2)] [.inl (b2i y0), .inl y1] σ := by
        intro x2 y0 y1 h
        unfold B_X11_missing_54 at h
        obtain ⟨v7, e8, h⟩ := bnd_inv h
        refine go_ops ok_X11_missing_54_3 (L' := [some (.inr 0), some (.inl v7), some (.inl (wrap (x2 + 1)))]) (st' := []) (σ1 := σ) (by subst e8; rfl) ?_
        refine go_goto dc_X11_missing_59 (by rfl) ?_
        cases h
        exact hK
      refine go_ops ok_X11_missing_30_3 (L' := [some (.inr 0), some (.inl x1), some (.inl x2)]) (st' := [.inl (σ 0 56), .inl x2]) (σ1 := σ) rfl ?_
      refine go_icmp_ge dc_X11_missing_35 (by rfl) (fun hc => ?_) (fun hc => ?_)
      · replace h := (if_pos hc).symm.trans h
        cases h
        refine go_wk (L' := [some (.inr 0), some (.inl x1), none]) ⟨rfl, rfl, trivial⟩ ?_
        exact hK
      · replace h := (if_neg hc).symm.trans h
        refine go_ops ok_X11_missing_38_4 (L' := [some (.inr 0), some (.inl x1), some (.inl x2)]) (st' := [.inl x2, .inr 41, .inl x1]) (σ1 := σ) rfl ?_
        obtain ⟨v5, e6, h⟩ := bind_inv h
        refine go_rd (k := 41) dc_X11_missing_44 rfl e6 ?_
        refine go_ops ok_X11_missing_45_1 (L' := [some (.inr 0), some (.inl x1), some (.inl x2)]) (st' := [.inl 2, .inl v5, .inl x1]) (σ1 := σ) rfl ?_
        refine go_icmp_ne dc_X11_missing_46 (by rfl) (fun hc => ?_) (fun hc => ?_)
        · replace h := (if_neg hc).symm.trans h
          refine go_ops ok_X11_missing_53_1 (L' := [some (.inr 0), some (.inl x1), some (.inl x2)]) (st' := [.inl 0, .inl x1]) (σ1 := σ) rfl ?_
          refine go_wk (L' := [some (.inr 0), none, some (.inl x2)]) ⟨rfl, rfl, trivial⟩ ?_
          exact hB_X11_missing_54 x2 false x1 h
        · replace h := (if_pos hc).symm.trans h
          refine go_ops ok_X11_missing_49_1 (L' := [some (.inr 0), some (.inl x1), some (.inl x2)]) (st' := [.inl 1, .inl x1]) (σ1 := σ) rfl ?_
          refine go_goto dc_X11_missing_50 (by rfl) ?_
          refine go_wk (L' := [some (.inr 0), none, some (.inl x2)]) ⟨rfl, rfl, trivial⟩ ?_
          exact hB_X11_missing_54 x2 true x1 h
    have hB_X11_missing_13 : ∀ (y0 : Bool) (σ : Sg), B_X11_missing_13 y0 σ = some q → Go l m_X11_missing (d + 1) LAYM (.inl (some (.inl q.1))) q.2 13 [some (.inr 0), none, none] [.inl (b2i y0), .inr 0] σ := by
      intro y0 σ h
      unfold B_X11_missing_13 at h
      obtain ⟨q1, e2, h⟩ := bnd_inv h
      refine go_V (M1 := m_X11_refused) (as := [.inl (b2i y0)]) (st := []) (k := 0) (ci := 11) dc_X11_missing_13 ln_11_183 im_X11_refused (by decide) rfl rfl mk_X11_refused rfl (Nat.le_of_ble_eq_true rfl) (Nat.le_refl _) (v := (some (.inl (b2i q1.1)))) (σ1 := q1.2) (lk_X11_refused l d (by omega) (b2i y0) σ q1 e2.symm) _ rfl ?_
      refine go_ifb_eq dc_X11_missing_16 (by rfl) (fun hc => ?_) (fun hc => ?_)
      · replace h := (if_neg hc).symm.trans h
        refine go_ops ok_X11_missing_21_2 (L' := [some (.inr 0), none, none]) (st' := [.inl 2, .inr 0]) (σ1 := q1.2) rfl ?_
        obtain ⟨q3, e4, h⟩ := bind_inv h
        refine go_V (M1 := m_X11_build) (as := [.inl 2]) (st := []) (k := 0) (ci := 11) dc_X11_missing_23 ln_11_364 im_X11_build (by decide) rfl rfl mk_X11_build rfl (Nat.le_of_ble_eq_true rfl) (Nat.le_refl _) (v := none) (σ1 := q3) (lk_X11_build l d (by omega) 2 q1.2 q3 e4) _ rfl ?_
        refine go_ops ok_X11_missing_26_4 (L' := [some (.inr 0), some (.inl 0), some (.inl 0)]) (st' := []) (σ1 := q3) rfl ?_
        obtain ⟨y9, e10, h⟩ := bind_inv h
        refine hL_X11_missing_30 q3 3000 (0, 0) y9 e10 ?_
        show Go l m_X11_missing (d + 1) LAYM (.inl (some (.inl q.1))) q.2 62 [some (.inr 0), some (.inl y9), none] [] q3
        refine go_ops ok_X11_missing_62_2 (L' := [some (.inr 0), some (.inl y9), none]) (st' := [.inl (q3 0 55)]) (σ1 := q3) rfl ?_
        refine go_if_eq dc_X11_missing_66 (by rfl) (fun hc => ?_) (fun hc => ?_)
        · replace h := (if_pos hc).symm.trans h
          refine go_ops ok_X11_missing_74_1 (L' := [some (.inr 0), some (.inl y9), none]) (st' := [.inl y9]) (σ1 := q3) rfl ?_
          have h9 := Option.some.inj h
          subst h9
          exact go_iret dc_X11_missing_75 rfl
        · replace h := (if_neg hc).symm.trans h
          refine go_ops ok_X11_missing_69_1 (L' := [some (.inr 0), some (.inl y9), none]) (st' := [.inl (-3)]) (σ1 := q3) rfl ?_
          refine go_goto dc_X11_missing_71 (by rfl) ?_
          have h9 := Option.some.inj h
          subst h9
          exact go_iret dc_X11_missing_75 rfl
      · replace h := (if_pos hc).symm.trans h
        refine go_ops ok_X11_missing_19_1 (L' := [some (.inr 0), none, none]) (st' := [.inl 0]) (σ1 := q1.2) rfl ?_
        have h9 := Option.some.inj h
        subst h9
        exact go_iret dc_X11_missing_20 rfl
    refine go_ops ok_X11_missing_0_3 (L' := [some (.inr 0), none, none]) (st' := [.inl (σ 0 21), .inr 0]) (σ1 := σ) rfl ?_
    refine go_if_ne dc_X11_missing_5 (by rfl) (fun hc => ?_) (fun hc => ?_)
    · replace h := (if_neg hc).symm.trans h
      refine go_ops ok_X11_missing_12_1 (L' := [some (.inr 0), none, none]) (st' := [.inl 0, .inr 0]) (σ1 := σ) rfl ?_
      exact hB_X11_missing_13 false σ h
    · replace h := (if_pos hc).symm.trans h
      refine go_ops ok_X11_missing_8_1 (L' := [some (.inr 0), none, none]) (st' := [.inl 1, .inr 0]) (σ1 := σ) rfl ?_
      refine go_goto dc_X11_missing_9 (by rfl) ?_
      exact hB_X11_missing_13 true σ h
  have hf := go_ct (as := [.inr 0]) mk_X11_missing (by rfl) (Nat.le_of_ble_eq_true rfl) key
  exact hf
theorem dc_X11_firstMissed_8 : decode m_X11_firstMissed.2.2.1 8 = .ok (.iastore, 1) := by decide +kernel
theorem dc_X11_firstMissed_10 : decode m_X11_firstMissed.2.2.1 10 = .ok (.ifCond .le 64, 3) := by decide +kernel
theorem dc_X11_firstMissed_21 : decode m_X11_firstMissed.2.2.1 21 = .ok (.iaload, 1) := by decide +kernel
theorem dc_X11_firstMissed_28 : decode m_X11_firstMissed.2.2.1 28 = .ok (.iaload, 1) := by decide +kernel
theorem dc_X11_firstMissed_30 : decode m_X11_firstMissed.2.2.1 30 = .ok (.if_icmp .ne 5, 3) := by decide +kernel
theorem dc_X11_firstMissed_34 : decode m_X11_firstMissed.2.2.1 34 = .ok (.ireturn, 1) := by decide +kernel
theorem dc_X11_firstMissed_40 : decode m_X11_firstMissed.2.2.1 40 = .ok (.iaload, 1) := by decide +kernel
theorem dc_X11_firstMissed_45 : decode m_X11_firstMissed.2.2.1 45 = .ok (.ifCond .lt 26, 3) := by decide +kernel
theorem dc_X11_firstMissed_58 : decode m_X11_firstMissed.2.2.1 58 = .ok (.iaload, 1) := by decide +kernel
theorem dc_X11_firstMissed_61 : decode m_X11_firstMissed.2.2.1 61 = .ok (.iastore, 1) := by decide +kernel
theorem dc_X11_firstMissed_68 : decode m_X11_firstMissed.2.2.1 68 = .ok (.goto (-24), 3) := by decide +kernel
theorem dc_X11_firstMissed_71 : decode m_X11_firstMissed.2.2.1 71 = .ok (.goto (-62), 3) := by decide +kernel
theorem dc_X11_firstMissed_75 : decode m_X11_firstMissed.2.2.1 75 = .ok (.ireturn, 1) := by decide +kernel
theorem ok_X11_firstMissed_0_6 : oks m_X11_firstMissed.1 m_X11_firstMissed.2.2.1 0 [(.iconst 1, 1, (0, 0, 0)), (.istore_n 1, 1, (0, 0, 0)), (.aload_n 0, 1, (0, 0, 0)), (.getfield 146, 3, (11, 63, 0)), (.iconst 0, 1, (0, 0, 0)), (.iconst 0, 1, (0, 0, 0))] = true ∧ plen 0 [(.iconst 1, 1, (0, 0, 0)), (.istore_n 1, 1, (0, 0, 0)), (.aload_n 0, 1, (0, 0, 0)), (.getfield 146, 3, (11, 63, 0)), (.iconst 0, 1, (0, 0, 0)), (.iconst 0, 1, (0, 0, 0))] = 8 := by decide +kernel
theorem ok_X11_firstMissed_9_1 : oks m_X11_firstMissed.1 m_X11_firstMissed.2.2.1 9 [(.iload_n 1, 1, (0, 0, 0))] = true ∧ plen 9 [(.iload_n 1, 1, (0, 0, 0))] = 10 := by decide +kernel
theorem ok_X11_firstMissed_13_4 : oks m_X11_firstMissed.1 m_X11_firstMissed.2.2.1 13 [(.iinc 1 (-1), 3, (0, 0, 0)), (.aload_n 0, 1, (0, 0, 0)), (.getfield 146, 3, (11, 63, 0)), (.iload_n 1, 1, (0, 0, 0))] = true ∧ plen 13 [(.iinc 1 (-1), 3, (0, 0, 0)), (.aload_n 0, 1, (0, 0, 0)), (.getfield 146, 3, (11, 63, 0)), (.iload_n 1, 1, (0, 0, 0))] = 21 := by decide +kernel
theorem ok_X11_firstMissed_22_4 : oks m_X11_firstMissed.1 m_X11_firstMissed.2.2.1 22 [(.istore_n 2, 1, (0, 0, 0)), (.aload_n 0, 1, (0, 0, 0)), (.getfield 131, 3, (11, 58, 0)), (.iload_n 2, 1, (0, 0, 0))] = true ∧ plen 22 [(.istore_n 2, 1, (0, 0, 0)), (.aload_n 0, 1, (0, 0, 0)), (.getfield 131, 3, (11, 58, 0)), (.iload_n 2, 1, (0, 0, 0))] = 28 := by decide +kernel
theorem ok_X11_firstMissed_29_1 : oks m_X11_firstMissed.1 m_X11_firstMissed.2.2.1 29 [(.iconst 2, 1, (0, 0, 0))] = true ∧ plen 29 [(.iconst 2, 1, (0, 0, 0))] = 30 := by decide +kernel
theorem ok_X11_firstMissed_33_1 : oks m_X11_firstMissed.1 m_X11_firstMissed.2.2.1 33 [(.iload_n 2, 1, (0, 0, 0))] = true ∧ plen 33 [(.iload_n 2, 1, (0, 0, 0))] = 34 := by decide +kernel
theorem ok_X11_firstMissed_35_3 : oks m_X11_firstMissed.1 m_X11_firstMissed.2.2.1 35 [(.aload_n 0, 1, (0, 0, 0)), (.getfield 143, 3, (11, 62, 0)), (.iload_n 2, 1, (0, 0, 0))] = true ∧ plen 35 [(.aload_n 0, 1, (0, 0, 0)), (.getfield 143, 3, (11, 62, 0)), (.iload_n 2, 1, (0, 0, 0))] = 40 := by decide +kernel
theorem ok_X11_firstMissed_41_3 : oks m_X11_firstMissed.1 m_X11_firstMissed.2.2.1 41 [(.iconst 1, 1, (0, 0, 0)), (.isub, 1, (0, 0, 0)), (.istore_n 3, 1, (0, 0, 0))] = true ∧ plen 41 [(.iconst 1, 1, (0, 0, 0)), (.isub, 1, (0, 0, 0)), (.istore_n 3, 1, (0, 0, 0))] = 44 := by decide +kernel
theorem ok_X11_firstMissed_44_1 : oks m_X11_firstMissed.1 m_X11_firstMissed.2.2.1 44 [(.iload_n 3, 1, (0, 0, 0))] = true ∧ plen 44 [(.iload_n 3, 1, (0, 0, 0))] = 45 := by decide +kernel
theorem ok_X11_firstMissed_48_6 : oks m_X11_firstMissed.1 m_X11_firstMissed.2.2.1 48 [(.aload_n 0, 1, (0, 0, 0)), (.getfield 146, 3, (11, 63, 0)), (.iload_n 1, 1, (0, 0, 0)), (.aload_n 0, 1, (0, 0, 0)), (.getfield 140, 3, (11, 61, 0)), (.iload_n 2, 1, (0, 0, 0))] = true ∧ plen 48 [(.aload_n 0, 1, (0, 0, 0)), (.getfield 146, 3, (11, 63, 0)), (.iload_n 1, 1, (0, 0, 0)), (.aload_n 0, 1, (0, 0, 0)), (.getfield 140, 3, (11, 61, 0)), (.iload_n 2, 1, (0, 0, 0))] = 58 := by decide +kernel
theorem ok_X11_firstMissed_59_2 : oks m_X11_firstMissed.1 m_X11_firstMissed.2.2.1 59 [(.iload_n 3, 1, (0, 0, 0)), (.iadd, 1, (0, 0, 0))] = true ∧ plen 59 [(.iload_n 3, 1, (0, 0, 0)), (.iadd, 1, (0, 0, 0))] = 61 := by decide +kernel
theorem ok_X11_firstMissed_62_2 : oks m_X11_firstMissed.1 m_X11_firstMissed.2.2.1 62 [(.iinc 1 1, 3, (0, 0, 0)), (.iinc 3 (-1), 3, (0, 0, 0))] = true ∧ plen 62 [(.iinc 1 1, 3, (0, 0, 0)), (.iinc 3 (-1), 3, (0, 0, 0))] = 68 := by decide +kernel
theorem ok_X11_firstMissed_74_1 : oks m_X11_firstMissed.1 m_X11_firstMissed.2.2.1 74 [(.iconst (-1), 1, (0, 0, 0))] = true ∧ plen 74 [(.iconst (-1), 1, (0, 0, 0))] = 75 := by decide +kernel
def L_X11_firstMissed_44 (x2 : Int) (x1 : Int) (x3 : Int) (σ : Sg) : Option ((Int × Int × Sg) ⊕ (Int × Sg)) :=
if x3 < 0 then
some (.inr (x1, σ))
else
(rdn 512 σ 44 x2).bind fun v11 =>
(wrn 512 σ 46 x1 (wrap (v11 + x3))).bind fun s13 =>
some (.inl (wrap (x1 + 1), wrap (x3 + (-1)), s13))
def L_X11_firstMissed_9 (x1 : Int) (σ : Sg) : Option ((Int × Sg) ⊕ (Sg ⊕ (Int × Sg))) :=
if x1 ≤ 0 then
some (.inr (.inl σ))
else
(rdn 512 σ 46 (wrap (x1 + (-1)))).bind fun v3 =>
(rdn 512 σ 41 v3).bind fun v5 =>
if v5 = 2 then
some (.inr (.inr (v3, σ)))
else
(rdn 512 σ 45 v3).bind fun v7 =>
bnd (wrap (v7 - 1)) fun v9 =>
(iter (fun a : (Int × Int × Sg) => L_X11_firstMissed_44 v3 a.1 a.2.1 a.2.2) 3000 (wrap (x1 + (-1)), v9, σ)).bind fun y15 =>
some (.inl (y15.1, y15.2))
def F_X11_firstMissed (σ : Sg) : Option (Int × Sg) :=
(wrn 512 σ 46 0 0).bind fun s1 =>
(iter (fun a : (Int × Sg) => L_X11_firstMissed_9 a.1 a.2) 3000 (1, s1)).bind fun y17 => Sum.elim (fun z19 =>
some ((-1), z19)) (fun r20 => some r20) y17
theorem lk_X11_firstMissed (l : Launch) (d : Nat) (hd : 0 ≤ d) (σ : Sg) (q : (Int × Sg)) (h : F_X11_firstMissed σ = some q) : CT l d m_X11_firstMissed.2.1 m_X11_firstMissed.2.2.1 m_X11_firstMissed.2.2.2.1 m_X11_firstMissed.2.2.2.2 [.inr 0] (LAYM, σ) (some (.inl q.1)) (LAYM, q.2) := by
  skip
  have key : Go l m_X11_firstMissed d LAYM (.inl (some (.inl q.1))) q.2 0 [some (.inr 0), none, none, none] [] σ := by
    unfold F_X11_firstMissed at h
    have hL_X11_firstMissed_9 : ∀ (n : Nat) (a : (Int × Sg)) (y : (Sg ⊕ (Int × Sg))), iter (fun a : (Int × Sg) => L_X11_firstMissed_9 a.1 a.2) n a = some y → (Sum.elim (fun y : Sg => Go l m_X11_firstMissed d LAYM (.inl (some (.inl q.1))) q.2 74 [none, none, none, none] [] y) (fun r : (Int × Sg) => r = q)) y → (fun a : (Int × Sg) => Go l m_X11_firstMissed d LAYM (.inl (some (.inl q.1))) q.2 9 [some (.inr 0), some (.inl a.1), none, none] [] a.2) a := by
      skip
      refine go_iter (G := fun a : (Int × Sg) => Go l m_X11_firstMissed d LAYM (.inl (some (.inl q.1))) q.2 9 [some (.inr 0), some (.inl a.1), none, none] [] a.2) (K := Sum.elim (fun y : Sg => Go l m_X11_firstMissed d LAYM (.inl (some (.inl q.1))) q.2 74 [none, none, none, none] [] y) (fun r : (Int × Sg) => r = q)) ?_
      rintro ⟨x1, σ⟩ w h hK
      replace h : L_X11_firstMissed_9 x1 σ = some w := h
      show Go l m_X11_firstMissed d LAYM (.inl (some (.inl q.1))) q.2 9 [some (.inr 0), some (.inl x1), none, none] [] σ
      unfold L_X11_firstMissed_9 at h
      have hL_X11_firstMissed_44 : ∀ (x2 : Int) (n : Nat) (a : (Int × Int × Sg)) (y : (Int × Sg)), iter (fun a : (Int × Int × Sg) => L_X11_firstMissed_44 x2 a.1 a.2.1 a.2.2) n a = some y → (fun y : (Int × Sg) => Go l m_X11_firstMissed d LAYM (.inl (some (.inl q.1))) q.2 71 [some (.inr 0), some (.inl y.1), none, none] [] y.2) y → (fun a : (Int × Int × Sg) => Go l m_X11_firstMissed d LAYM (.inl (some (.inl q.1))) q.2 44 [some (.inr 0), some (.inl a.1), some (.inl x2), some (.inl a.2.1)] [] a.2.2) a := by
        intro x2
        refine go_iter (G := fun a : (Int × Int × Sg) => Go l m_X11_firstMissed d LAYM (.inl (some (.inl q.1))) q.2 44 [some (.inr 0), some (.inl a.1), some (.inl x2), some (.inl a.2.1)] [] a.2.2) (K := fun y : (Int × Sg) => Go l m_X11_firstMissed d LAYM (.inl (some (.inl q.1))) q.2 71 [some (.inr 0), some (.inl y.1), none, none] [] y.2) ?_
        rintro ⟨x1, x3, σ⟩ w h hK
        replace h : L_X11_firstMissed_44 x2 x1 x3 σ = some w := h
        show Go l m_X11_firstMissed d LAYM (.inl (some (.inl q.1))) q.2 44 [some (.inr 0), some (.inl x1), some (.inl x2), some (.inl x3)] [] σ
        unfold L_X11_firstMissed_44 at h
        refine go_ops ok_X11_firstMissed_44_1 (L' := [some (.inr 0), some (.inl x1), some (.inl x2), some (.inl x3)]) (st' := [.inl x3]) (σ1 := σ) rfl ?_
        refine go_if_lt dc_X11_firstMissed_45 (by rfl) (fun hc => ?_) (fun hc => ?_)
        · replace h := (if_pos hc).symm.trans h
          cases h
          refine go_wk (L' := [some (.inr 0), some (.inl x1), none, none]) ⟨rfl, rfl, trivial⟩ ?_
          exact hK
        · replace h := (if_neg hc).symm.trans h
          refine go_ops ok_X11_firstMissed_48_6 (L' := [some (.inr 0), some (.inl x1), some (.inl x2), some (.inl x3)]) (st' := [.inl x2, .inr 44, .inl x1, .inr 46]) (σ1 := σ) rfl ?_
          obtain ⟨v11, e12, h⟩ := bind_inv h
          refine go_rd (k := 44) dc_X11_firstMissed_58 rfl e12 ?_
          refine go_ops ok_X11_firstMissed_59_2 (L' := [some (.inr 0), some (.inl x1), some (.inl x2), some (.inl x3)]) (st' := [.inl (wrap (v11 + x3)), .inl x1, .inr 46]) (σ1 := σ) rfl ?_
          obtain ⟨s13, e14, h⟩ := bind_inv h
          refine go_wr (k := 46) dc_X11_firstMissed_61 rfl e14 ?_
          refine go_ops ok_X11_firstMissed_62_2 (L' := [some (.inr 0), some (.inl (wrap (x1 + 1))), some (.inl x2), some (.inl (wrap (x3 + (-1))))]) (st' := []) (σ1 := s13) rfl ?_
          refine go_goto dc_X11_firstMissed_68 (by rfl) ?_
          cases h
          exact hK
      refine go_ops ok_X11_firstMissed_9_1 (L' := [some (.inr 0), some (.inl x1), none, none]) (st' := [.inl x1]) (σ1 := σ) rfl ?_
      refine go_if_le dc_X11_firstMissed_10 (by rfl) (fun hc => ?_) (fun hc => ?_)
      · replace h := (if_pos hc).symm.trans h
        cases h
        refine go_wk (L' := [none, none, none, none]) trivial ?_
        exact hK
      · replace h := (if_neg hc).symm.trans h
        refine go_ops ok_X11_firstMissed_13_4 (L' := [some (.inr 0), some (.inl (wrap (x1 + (-1)))), none, none]) (st' := [.inl (wrap (x1 + (-1))), .inr 46]) (σ1 := σ) rfl ?_
        obtain ⟨v3, e4, h⟩ := bind_inv h
        refine go_rd (k := 46) dc_X11_firstMissed_21 rfl e4 ?_
        refine go_ops ok_X11_firstMissed_22_4 (L' := [some (.inr 0), some (.inl (wrap (x1 + (-1)))), some (.inl v3), none]) (st' := [.inl v3, .inr 41]) (σ1 := σ) rfl ?_
        obtain ⟨v5, e6, h⟩ := bind_inv h
        refine go_rd (k := 41) dc_X11_firstMissed_28 rfl e6 ?_
        refine go_ops ok_X11_firstMissed_29_1 (L' := [some (.inr 0), some (.inl (wrap (x1 + (-1)))), some (.inl v3), none]) (st' := [.inl 2, .inl v5]) (σ1 := σ) rfl ?_
        refine go_icmp_ne dc_X11_firstMissed_30 (by rfl) (fun hc => ?_) (fun hc => ?_)
        · replace h := (if_neg hc).symm.trans h
          refine go_ops ok_X11_firstMissed_35_3 (L' := [some (.inr 0), some (.inl (wrap (x1 + (-1)))), some (.inl v3), none]) (st' := [.inl v3, .inr 45]) (σ1 := σ) rfl ?_
          obtain ⟨v7, e8, h⟩ := bind_inv h
          refine go_rd (k := 45) dc_X11_firstMissed_40 rfl e8 ?_
          obtain ⟨v9, e10, h⟩ := bnd_inv h
          refine go_ops ok_X11_firstMissed_41_3 (L' := [some (.inr 0), some (.inl (wrap (x1 + (-1)))), some (.inl v3), some (.inl v9)]) (st' := []) (σ1 := σ) (by subst e10; rfl) ?_
          obtain ⟨y15, e16, h⟩ := bind_inv h
          refine hL_X11_firstMissed_44 v3 3000 (wrap (x1 + (-1)), v9, σ) y15 e16 ?_
          show Go l m_X11_firstMissed d LAYM (.inl (some (.inl q.1))) q.2 71 [some (.inr 0), some (.inl y15.1), none, none] [] y15.2
          refine go_goto dc_X11_firstMissed_71 (by rfl) ?_
          cases h
          exact hK
        · replace h := (if_pos hc).symm.trans h
          refine go_ops ok_X11_firstMissed_33_1 (L' := [some (.inr 0), some (.inl (wrap (x1 + (-1)))), some (.inl v3), none]) (st' := [.inl v3]) (σ1 := σ) rfl ?_
          cases h
          have hK2 : _ = q := hK
          subst hK2
          exact go_iret dc_X11_firstMissed_34 rfl
    refine go_ops ok_X11_firstMissed_0_6 (L' := [some (.inr 0), some (.inl 1), none, none]) (st' := [.inl 0, .inl 0, .inr 46]) (σ1 := σ) rfl ?_
    obtain ⟨s1, e2, h⟩ := bind_inv h
    refine go_wr (k := 46) dc_X11_firstMissed_8 rfl e2 ?_
    obtain ⟨y17, e18, h⟩ := bind_inv h
    refine hL_X11_firstMissed_9  3000 (1, s1) y17 e18 ?_
    rcases y17 with z19 | r20
    rotate_left
    · show r20 = q
      cases h; rfl
    show Go l m_X11_firstMissed d LAYM (.inl (some (.inl q.1))) q.2 74 [none, none, none, none] [] z19
    rw [Sum.elim_inl] at h
    refine go_ops ok_X11_firstMissed_74_1 (L' := [none, none, none, none]) (st' := [.inl (-1)]) (σ1 := z19) rfl ?_
    have h9 := Option.some.inj h
    subst h9
    exact go_iret dc_X11_firstMissed_75 rfl
  have hf := go_ct (as := [.inr 0]) mk_X11_firstMissed (by rfl) (Nat.le_of_ble_eq_true rfl) key
  exact hf
theorem dc_X11_example_6 : decode m_X11_example.2.2.1 6 = .ok (.ifCond .le 24, 3) := by decide +kernel
theorem dc_X11_example_11 : decode m_X11_example.2.2.1 11 = .ok (.invokevirtual 364, 3) := by decide +kernel
theorem dc_X11_example_18 : decode m_X11_example.2.2.1 18 = .ok (.ifCond .eq 7, 3) := by decide +kernel
theorem dc_X11_example_22 : decode m_X11_example.2.2.1 22 = .ok (.goto 7, 3) := by decide +kernel
theorem dc_X11_example_26 : decode m_X11_example.2.2.1 26 = .ok (.invokevirtual 383, 3) := by decide +kernel
theorem dc_X11_example_33 : decode m_X11_example.2.2.1 33 = .ok (.if_icmp .ne 7, 3) := by decide +kernel
theorem dc_X11_example_37 : decode m_X11_example.2.2.1 37 = .ok (.goto 4, 3) := by decide +kernel
theorem dc_X11_example_41 : decode m_X11_example.2.2.1 41 = .ok (.invokevirtual 183, 3) := by decide +kernel
theorem dc_X11_example_44 : decode m_X11_example.2.2.1 44 = .ok (.ifCond .eq 5, 3) := by decide +kernel
theorem dc_X11_example_48 : decode m_X11_example.2.2.1 48 = .ok (.ireturn, 1) := by decide +kernel
theorem dc_X11_example_51 : decode m_X11_example.2.2.1 51 = .ok (.putfield 261, 3) := by decide +kernel
theorem dc_X11_example_61 : decode m_X11_example.2.2.1 61 = .ok (.if_icmp .ge 8, 3) := by decide +kernel
theorem dc_X11_example_66 : decode m_X11_example.2.2.1 66 = .ok (.goto 8, 3) := by decide +kernel
theorem dc_X11_example_71 : decode m_X11_example.2.2.1 71 = .ok (.invokevirtual 305, 3) := by decide +kernel
theorem dc_X11_example_78 : decode m_X11_example.2.2.1 78 = .ok (.if_icmp .ne 8, 3) := by decide +kernel
theorem dc_X11_example_83 : decode m_X11_example.2.2.1 83 = .ok (.goto 4, 3) := by decide +kernel
theorem dc_X11_example_87 : decode m_X11_example.2.2.1 87 = .ok (.ireturn, 1) := by decide +kernel
theorem ok_X11_example_0_4 : oks m_X11_example.1 m_X11_example.2.2.1 0 [(.iconst (-1), 1, (0, 0, 0)), (.istore_n 2, 1, (0, 0, 0)), (.aload_n 0, 1, (0, 0, 0)), (.getfield 231, 3, (11, 21, 0))] = true ∧ plen 0 [(.iconst (-1), 1, (0, 0, 0)), (.istore_n 2, 1, (0, 0, 0)), (.aload_n 0, 1, (0, 0, 0)), (.getfield 231, 3, (11, 21, 0))] = 6 := by decide +kernel
theorem ok_X11_example_9_2 : oks m_X11_example.1 m_X11_example.2.2.1 9 [(.aload_n 0, 1, (0, 0, 0)), (.iconst 2, 1, (0, 0, 0))] = true ∧ plen 9 [(.aload_n 0, 1, (0, 0, 0)), (.iconst 2, 1, (0, 0, 0))] = 11 := by decide +kernel
theorem ok_X11_example_14_2 : oks m_X11_example.1 m_X11_example.2.2.1 14 [(.aload_n 0, 1, (0, 0, 0)), (.getfield 348, 3, (11, 55, 0))] = true ∧ plen 14 [(.aload_n 0, 1, (0, 0, 0)), (.getfield 348, 3, (11, 55, 0))] = 18 := by decide +kernel
theorem ok_X11_example_21_1 : oks m_X11_example.1 m_X11_example.2.2.1 21 [(.iconst (-1), 1, (0, 0, 0))] = true ∧ plen 21 [(.iconst (-1), 1, (0, 0, 0))] = 22 := by decide +kernel
theorem ok_X11_example_25_1 : oks m_X11_example.1 m_X11_example.2.2.1 25 [(.aload_n 0, 1, (0, 0, 0))] = true ∧ plen 25 [(.aload_n 0, 1, (0, 0, 0))] = 26 := by decide +kernel
theorem ok_X11_example_29_1 : oks m_X11_example.1 m_X11_example.2.2.1 29 [(.istore_n 2, 1, (0, 0, 0))] = true ∧ plen 29 [(.istore_n 2, 1, (0, 0, 0))] = 30 := by decide +kernel
theorem ok_X11_example_30_3 : oks m_X11_example.1 m_X11_example.2.2.1 30 [(.aload_n 0, 1, (0, 0, 0)), (.iload_n 2, 1, (0, 0, 0)), (.iconst (-1), 1, (0, 0, 0))] = true ∧ plen 30 [(.aload_n 0, 1, (0, 0, 0)), (.iload_n 2, 1, (0, 0, 0)), (.iconst (-1), 1, (0, 0, 0))] = 33 := by decide +kernel
theorem ok_X11_example_36_1 : oks m_X11_example.1 m_X11_example.2.2.1 36 [(.iconst 1, 1, (0, 0, 0))] = true ∧ plen 36 [(.iconst 1, 1, (0, 0, 0))] = 37 := by decide +kernel
theorem ok_X11_example_40_1 : oks m_X11_example.1 m_X11_example.2.2.1 40 [(.iconst 0, 1, (0, 0, 0))] = true ∧ plen 40 [(.iconst 0, 1, (0, 0, 0))] = 41 := by decide +kernel
theorem ok_X11_example_47_1 : oks m_X11_example.1 m_X11_example.2.2.1 47 [(.iconst 0, 1, (0, 0, 0))] = true ∧ plen 47 [(.iconst 0, 1, (0, 0, 0))] = 48 := by decide +kernel
theorem ok_X11_example_49_2 : oks m_X11_example.1 m_X11_example.2.2.1 49 [(.aload_n 0, 1, (0, 0, 0)), (.iconst 0, 1, (0, 0, 0))] = true ∧ plen 49 [(.aload_n 0, 1, (0, 0, 0)), (.iconst 0, 1, (0, 0, 0))] = 51 := by decide +kernel
theorem ok_X11_example_54_5 : oks m_X11_example.1 m_X11_example.2.2.1 54 [(.aload_n 0, 1, (0, 0, 0)), (.iload_n 2, 1, (0, 0, 0)), (.putfield 268, 3, (11, 41, 0)), (.iload_n 1, 1, (0, 0, 0)), (.iconst 1, 1, (0, 0, 0))] = true ∧ plen 54 [(.aload_n 0, 1, (0, 0, 0)), (.iload_n 2, 1, (0, 0, 0)), (.putfield 268, 3, (11, 41, 0)), (.iload_n 1, 1, (0, 0, 0)), (.iconst 1, 1, (0, 0, 0))] = 61 := by decide +kernel
theorem ok_X11_example_64_1 : oks m_X11_example.1 m_X11_example.2.2.1 64 [(.bipush (-9), 2, (0, 0, 0))] = true ∧ plen 64 [(.bipush (-9), 2, (0, 0, 0))] = 66 := by decide +kernel
theorem ok_X11_example_69_2 : oks m_X11_example.1 m_X11_example.2.2.1 69 [(.aload_n 0, 1, (0, 0, 0)), (.iload_n 1, 1, (0, 0, 0))] = true ∧ plen 69 [(.aload_n 0, 1, (0, 0, 0)), (.iload_n 1, 1, (0, 0, 0))] = 71 := by decide +kernel
theorem ok_X11_example_74_3 : oks m_X11_example.1 m_X11_example.2.2.1 74 [(.istore_n 3, 1, (0, 0, 0)), (.iload_n 3, 1, (0, 0, 0)), (.bipush (-9), 2, (0, 0, 0))] = true ∧ plen 74 [(.istore_n 3, 1, (0, 0, 0)), (.iload_n 3, 1, (0, 0, 0)), (.bipush (-9), 2, (0, 0, 0))] = 78 := by decide +kernel
theorem ok_X11_example_81_1 : oks m_X11_example.1 m_X11_example.2.2.1 81 [(.bipush (-4), 2, (0, 0, 0))] = true ∧ plen 81 [(.bipush (-4), 2, (0, 0, 0))] = 83 := by decide +kernel
theorem ok_X11_example_86_1 : oks m_X11_example.1 m_X11_example.2.2.1 86 [(.iload_n 3, 1, (0, 0, 0))] = true ∧ plen 86 [(.iload_n 3, 1, (0, 0, 0))] = 87 := by decide +kernel
def B_X11_example_74 (y0 : Int) (σ : Sg) : Option (Int × Sg) :=
if y0 = (-9) then
some ((-4), σ)
else
some (y0, σ)
def B_X11_example_41 (x1 : Int) (x2 : Int) (y0 : Bool) (σ : Sg) : Option (Int × Sg) :=
bnd (F_X11_refused (b2i y0) σ) fun q1 =>
if q1.1 = true then
some (0, q1.2)
else
bnd (up2 q1.2 0 40 0) fun s3 =>
bnd (up2 s3 0 41 x2) fun s5 =>
if 1 ≤ x1 then
(F_X11_factAt x1 s5).bind fun q7 =>
B_X11_example_74 q7.1 q7.2
else
B_X11_example_74 (-9) s5
def B_X11_example_30 (x1 : Int) (x2 : Int) (σ : Sg) : Option (Int × Sg) :=
if x2 = (-1) then
B_X11_example_41 x1 x2 true σ
else
B_X11_example_41 x1 x2 false σ
def B_X11_example_29 (x1 : Int) (y0 : Int) (σ : Sg) : Option (Int × Sg) :=
B_X11_example_30 x1 y0 σ
def F_X11_example (a1 : Int) (σ : Sg) : Option (Int × Sg) :=
if (σ 0 21) ≤ 0 then
B_X11_example_30 a1 (-1) σ
else
(F_X11_build 2 σ).bind fun q9 =>
if (q9 0 55) = 0 then
(F_X11_firstMissed q9).bind fun q11 =>
B_X11_example_29 a1 q11.1 q11.2
else
B_X11_example_29 a1 (-1) q9
theorem lk_X11_example (l : Launch) (d : Nat) (hd : 9 ≤ d) (a1 : Int) (σ : Sg) (q : (Int × Sg)) (h : F_X11_example a1 σ = some q) : CT l d m_X11_example.2.1 m_X11_example.2.2.1 m_X11_example.2.2.2.1 m_X11_example.2.2.2.2 [.inr 0, .inl a1] (LAYM, σ) (some (.inl q.1)) (LAYM, q.2) := by
  obtain ⟨d, rfl⟩ : ∃ e, d = e + 1 := ⟨d - 1, by omega⟩
  have key : Go l m_X11_example (d + 1) LAYM (.inl (some (.inl q.1))) q.2 0 [some (.inr 0), some (.inl a1), none, none] [] σ := by
    unfold F_X11_example at h
    have hB_X11_example_74 : ∀ (y0 : Int) (σ : Sg), B_X11_example_74 y0 σ = some q → Go l m_X11_example (d + 1) LAYM (.inl (some (.inl q.1))) q.2 74 [none, none, none, none] [.inl y0] σ := by
      intro y0 σ h
      unfold B_X11_example_74 at h
      refine go_ops ok_X11_example_74_3 (L' := [none, none, none, some (.inl y0)]) (st' := [.inl (-9), .inl y0]) (σ1 := σ) rfl ?_
      refine go_icmp_ne dc_X11_example_78 (by rfl) (fun hc => ?_) (fun hc => ?_)
      · replace h := (if_neg hc).symm.trans h
        refine go_ops ok_X11_example_86_1 (L' := [none, none, none, some (.inl y0)]) (st' := [.inl y0]) (σ1 := σ) rfl ?_
        have h9 := Option.some.inj h
        subst h9
        exact go_iret dc_X11_example_87 rfl
      · replace h := (if_pos hc).symm.trans h
        refine go_ops ok_X11_example_81_1 (L' := [none, none, none, some (.inl y0)]) (st' := [.inl (-4)]) (σ1 := σ) rfl ?_
        refine go_goto dc_X11_example_83 (by rfl) ?_
        have h9 := Option.some.inj h
        subst h9
        exact go_iret dc_X11_example_87 rfl
    have hB_X11_example_41 : ∀ (x1 : Int) (x2 : Int) (y0 : Bool) (σ : Sg), B_X11_example_41 x1 x2 y0 σ = some q → Go l m_X11_example (d + 1) LAYM (.inl (some (.inl q.1))) q.2 41 [some (.inr 0), some (.inl x1), some (.inl x2), none] [.inl (b2i y0), .inr 0] σ := by
      intro x1 x2 y0 σ h
      unfold B_X11_example_41 at h
      obtain ⟨q1, e2, h⟩ := bnd_inv h
      refine go_V (M1 := m_X11_refused) (as := [.inl (b2i y0)]) (st := []) (k := 0) (ci := 11) dc_X11_example_41 ln_11_183 im_X11_refused (by decide) rfl rfl mk_X11_refused rfl (Nat.le_of_ble_eq_true rfl) (Nat.le_refl _) (v := (some (.inl (b2i q1.1)))) (σ1 := q1.2) (lk_X11_refused l d (by omega) (b2i y0) σ q1 e2.symm) _ rfl ?_
      refine go_ifb_eq dc_X11_example_44 (by rfl) (fun hc => ?_) (fun hc => ?_)
      · replace h := (if_neg hc).symm.trans h
        refine go_ops ok_X11_example_49_2 (L' := [some (.inr 0), some (.inl x1), some (.inl x2), none]) (st' := [.inl 0, .inr 0]) (σ1 := q1.2) rfl ?_
        obtain ⟨s3, e4, h⟩ := bnd_inv h
        refine go_pfb (b := false) (k := 0) (ci := 11) (sl := 40) dc_X11_example_51 (by decide +kernel) (by decide) rfl rfl (by decide +kernel) (by decide +kernel) e4 ?_
        obtain ⟨s5, e6, h⟩ := bnd_inv h
        refine go_ops ok_X11_example_54_5 (L' := [some (.inr 0), some (.inl x1), some (.inl x2), none]) (st' := [.inl 1, .inl x1]) (σ1 := s5) (by subst e6; rfl) ?_
        refine go_icmp_ge dc_X11_example_61 (by rfl) (fun hc => ?_) (fun hc => ?_)
        · replace h := (if_pos hc).symm.trans h
          refine go_ops ok_X11_example_69_2 (L' := [some (.inr 0), some (.inl x1), some (.inl x2), none]) (st' := [.inl x1, .inr 0]) (σ1 := s5) rfl ?_
          obtain ⟨q7, e8, h⟩ := bind_inv h
          refine go_V (M1 := m_X11_factAt) (as := [.inl x1]) (st := []) (k := 0) (ci := 11) dc_X11_example_71 ln_11_305 im_X11_factAt (by decide) rfl rfl mk_X11_factAt rfl (Nat.le_of_ble_eq_true rfl) (Nat.le_refl _) (v := (some (.inl q7.1))) (σ1 := q7.2) (lk_X11_factAt l d (by omega) x1 s5 q7 e8) _ rfl ?_
          refine go_wk (L' := [none, none, none, none]) trivial ?_
          exact hB_X11_example_74 q7.1 q7.2 h
        · replace h := (if_neg hc).symm.trans h
          refine go_ops ok_X11_example_64_1 (L' := [some (.inr 0), some (.inl x1), some (.inl x2), none]) (st' := [.inl (-9)]) (σ1 := s5) rfl ?_
          refine go_goto dc_X11_example_66 (by rfl) ?_
          refine go_wk (L' := [none, none, none, none]) trivial ?_
          exact hB_X11_example_74 (-9) s5 h
      · replace h := (if_pos hc).symm.trans h
        refine go_ops ok_X11_example_47_1 (L' := [some (.inr 0), some (.inl x1), some (.inl x2), none]) (st' := [.inl 0]) (σ1 := q1.2) rfl ?_
        have h9 := Option.some.inj h
        subst h9
        exact go_iret dc_X11_example_48 rfl
    have hB_X11_example_30 : ∀ (x1 : Int) (x2 : Int) (σ : Sg), B_X11_example_30 x1 x2 σ = some q → Go l m_X11_example (d + 1) LAYM (.inl (some (.inl q.1))) q.2 30 [some (.inr 0), some (.inl x1), some (.inl x2), none] [] σ := by
      intro x1 x2 σ h
      unfold B_X11_example_30 at h
      refine go_ops ok_X11_example_30_3 (L' := [some (.inr 0), some (.inl x1), some (.inl x2), none]) (st' := [.inl (-1), .inl x2, .inr 0]) (σ1 := σ) rfl ?_
      refine go_icmp_ne dc_X11_example_33 (by rfl) (fun hc => ?_) (fun hc => ?_)
      · replace h := (if_neg hc).symm.trans h
        refine go_ops ok_X11_example_40_1 (L' := [some (.inr 0), some (.inl x1), some (.inl x2), none]) (st' := [.inl 0, .inr 0]) (σ1 := σ) rfl ?_
        exact hB_X11_example_41 x1 x2 false σ h
      · replace h := (if_pos hc).symm.trans h
        refine go_ops ok_X11_example_36_1 (L' := [some (.inr 0), some (.inl x1), some (.inl x2), none]) (st' := [.inl 1, .inr 0]) (σ1 := σ) rfl ?_
        refine go_goto dc_X11_example_37 (by rfl) ?_
        exact hB_X11_example_41 x1 x2 true σ h
    have hB_X11_example_29 : ∀ (x1 : Int) (y0 : Int) (σ : Sg), B_X11_example_29 x1 y0 σ = some q → Go l m_X11_example (d + 1) LAYM (.inl (some (.inl q.1))) q.2 29 [some (.inr 0), some (.inl x1), none, none] [.inl y0] σ := by
      intro x1 y0 σ h
      unfold B_X11_example_29 at h
      refine go_ops ok_X11_example_29_1 (L' := [some (.inr 0), some (.inl x1), some (.inl y0), none]) (st' := []) (σ1 := σ) rfl ?_
      exact hB_X11_example_30 x1 y0 σ h
    refine go_ops ok_X11_example_0_4 (L' := [some (.inr 0), some (.inl a1), some (.inl (-1)), none]) (st' := [.inl (σ 0 21)]) (σ1 := σ) rfl ?_
    refine go_if_le dc_X11_example_6 (by rfl) (fun hc => ?_) (fun hc => ?_)
    · replace h := (if_pos hc).symm.trans h
      exact hB_X11_example_30 a1 (-1) σ h
    · replace h := (if_neg hc).symm.trans h
      refine go_ops ok_X11_example_9_2 (L' := [some (.inr 0), some (.inl a1), some (.inl (-1)), none]) (st' := [.inl 2, .inr 0]) (σ1 := σ) rfl ?_
      obtain ⟨q9, e10, h⟩ := bind_inv h
      refine go_V (M1 := m_X11_build) (as := [.inl 2]) (st := []) (k := 0) (ci := 11) dc_X11_example_11 ln_11_364 im_X11_build (by decide) rfl rfl mk_X11_build rfl (Nat.le_of_ble_eq_true rfl) (Nat.le_refl _) (v := none) (σ1 := q9) (lk_X11_build l d (by omega) 2 σ q9 e10) _ rfl ?_
      refine go_ops ok_X11_example_14_2 (L' := [some (.inr 0), some (.inl a1), some (.inl (-1)), none]) (st' := [.inl (q9 0 55)]) (σ1 := q9) rfl ?_
      refine go_if_eq dc_X11_example_18 (by rfl) (fun hc => ?_) (fun hc => ?_)
      · replace h := (if_pos hc).symm.trans h
        refine go_ops ok_X11_example_25_1 (L' := [some (.inr 0), some (.inl a1), some (.inl (-1)), none]) (st' := [.inr 0]) (σ1 := q9) rfl ?_
        obtain ⟨q11, e12, h⟩ := bind_inv h
        refine go_V (M1 := m_X11_firstMissed) (as := []) (st := []) (k := 0) (ci := 11) dc_X11_example_26 ln_11_383 im_X11_firstMissed (by decide) rfl rfl mk_X11_firstMissed rfl (Nat.le_of_ble_eq_true rfl) (Nat.le_refl _) (v := (some (.inl q11.1))) (σ1 := q11.2) (lk_X11_firstMissed l d (by omega) q9 q11 e12) _ rfl ?_
        refine go_wk (L' := [some (.inr 0), some (.inl a1), none, none]) ⟨rfl, rfl, trivial⟩ ?_
        exact hB_X11_example_29 a1 q11.1 q11.2 h
      · replace h := (if_neg hc).symm.trans h
        refine go_ops ok_X11_example_21_1 (L' := [some (.inr 0), some (.inl a1), some (.inl (-1)), none]) (st' := [.inl (-1)]) (σ1 := q9) rfl ?_
        refine go_goto dc_X11_example_22 (by rfl) ?_
        refine go_wk (L' := [some (.inr 0), some (.inl a1), none, none]) ⟨rfl, rfl, trivial⟩ ?_
        exact hB_X11_example_29 a1 (-1) q9 h
  have hf := go_ct (as := [.inr 0, .inl a1]) mk_X11_example (by rfl) (Nat.le_of_ble_eq_true rfl) key
  exact hf
theorem dc_X11_isUsed_2 : decode m_X11_isUsed.2.2.1 2 = .ok (.invokevirtual 248, 3) := by decide +kernel
theorem dc_X11_isUsed_7 : decode m_X11_isUsed.2.2.1 7 = .ok (.ifCond .eq 8, 3) := by decide +kernel
theorem dc_X11_isUsed_12 : decode m_X11_isUsed.2.2.1 12 = .ok (.invokevirtual 364, 3) := by decide +kernel
theorem dc_X11_isUsed_17 : decode m_X11_isUsed.2.2.1 17 = .ok (.ifCond .ne 7, 3) := by decide +kernel
theorem dc_X11_isUsed_21 : decode m_X11_isUsed.2.2.1 21 = .ok (.goto 15, 3) := by decide +kernel
theorem dc_X11_isUsed_28 : decode m_X11_isUsed.2.2.1 28 = .ok (.ifCond .eq 7, 3) := by decide +kernel
theorem dc_X11_isUsed_32 : decode m_X11_isUsed.2.2.1 32 = .ok (.goto 4, 3) := by decide +kernel
theorem dc_X11_isUsed_36 : decode m_X11_isUsed.2.2.1 36 = .ok (.invokevirtual 183, 3) := by decide +kernel
theorem dc_X11_isUsed_39 : decode m_X11_isUsed.2.2.1 39 = .ok (.ifCond .eq 5, 3) := by decide +kernel
theorem dc_X11_isUsed_43 : decode m_X11_isUsed.2.2.1 43 = .ok (.ireturn, 1) := by decide +kernel
theorem dc_X11_isUsed_55 : decode m_X11_isUsed.2.2.1 55 = .ok (.if_icmp .ge 51, 3) := by decide +kernel
theorem dc_X11_isUsed_59 : decode m_X11_isUsed.2.2.1 59 = .ok (.ifCond .ne 35, 3) := by decide +kernel
theorem dc_X11_isUsed_68 : decode m_X11_isUsed.2.2.1 68 = .ok (.iaload, 1) := by decide +kernel
theorem dc_X11_isUsed_69 : decode m_X11_isUsed.2.2.1 69 = .ok (.ifCond .eq 14, 3) := by decide +kernel
theorem dc_X11_isUsed_78 : decode m_X11_isUsed.2.2.1 78 = .ok (.iaload, 1) := by decide +kernel
theorem dc_X11_isUsed_80 : decode m_X11_isUsed.2.2.1 80 = .ok (.if_icmp .ne 18, 3) := by decide +kernel
theorem dc_X11_isUsed_89 : decode m_X11_isUsed.2.2.1 89 = .ok (.iaload, 1) := by decide +kernel
theorem dc_X11_isUsed_91 : decode m_X11_isUsed.2.2.1 91 = .ok (.if_icmp .ne 7, 3) := by decide +kernel
theorem dc_X11_isUsed_95 : decode m_X11_isUsed.2.2.1 95 = .ok (.goto 4, 3) := by decide +kernel
theorem dc_X11_isUsed_103 : decode m_X11_isUsed.2.2.1 103 = .ok (.goto (-54), 3) := by decide +kernel
theorem dc_X11_isUsed_107 : decode m_X11_isUsed.2.2.1 107 = .ok (.ireturn, 1) := by decide +kernel
theorem ok_X11_isUsed_0_2 : oks m_X11_isUsed.1 m_X11_isUsed.2.2.1 0 [(.aload_n 0, 1, (0, 0, 0)), (.iload_n 1, 1, (0, 0, 0))] = true ∧ plen 0 [(.aload_n 0, 1, (0, 0, 0)), (.iload_n 1, 1, (0, 0, 0))] = 2 := by decide +kernel
theorem ok_X11_isUsed_5_2 : oks m_X11_isUsed.1 m_X11_isUsed.2.2.1 5 [(.istore_n 2, 1, (0, 0, 0)), (.iload_n 2, 1, (0, 0, 0))] = true ∧ plen 5 [(.istore_n 2, 1, (0, 0, 0)), (.iload_n 2, 1, (0, 0, 0))] = 7 := by decide +kernel
theorem ok_X11_isUsed_10_2 : oks m_X11_isUsed.1 m_X11_isUsed.2.2.1 10 [(.aload_n 0, 1, (0, 0, 0)), (.iconst 2, 1, (0, 0, 0))] = true ∧ plen 10 [(.aload_n 0, 1, (0, 0, 0)), (.iconst 2, 1, (0, 0, 0))] = 12 := by decide +kernel
theorem ok_X11_isUsed_15_2 : oks m_X11_isUsed.1 m_X11_isUsed.2.2.1 15 [(.aload_n 0, 1, (0, 0, 0)), (.iload_n 2, 1, (0, 0, 0))] = true ∧ plen 15 [(.aload_n 0, 1, (0, 0, 0)), (.iload_n 2, 1, (0, 0, 0))] = 17 := by decide +kernel
theorem ok_X11_isUsed_20_1 : oks m_X11_isUsed.1 m_X11_isUsed.2.2.1 20 [(.iconst 1, 1, (0, 0, 0))] = true ∧ plen 20 [(.iconst 1, 1, (0, 0, 0))] = 21 := by decide +kernel
theorem ok_X11_isUsed_24_2 : oks m_X11_isUsed.1 m_X11_isUsed.2.2.1 24 [(.aload_n 0, 1, (0, 0, 0)), (.getfield 348, 3, (11, 55, 0))] = true ∧ plen 24 [(.aload_n 0, 1, (0, 0, 0)), (.getfield 348, 3, (11, 55, 0))] = 28 := by decide +kernel
theorem ok_X11_isUsed_31_1 : oks m_X11_isUsed.1 m_X11_isUsed.2.2.1 31 [(.iconst 2, 1, (0, 0, 0))] = true ∧ plen 31 [(.iconst 2, 1, (0, 0, 0))] = 32 := by decide +kernel
theorem ok_X11_isUsed_35_1 : oks m_X11_isUsed.1 m_X11_isUsed.2.2.1 35 [(.iconst 0, 1, (0, 0, 0))] = true ∧ plen 35 [(.iconst 0, 1, (0, 0, 0))] = 36 := by decide +kernel
theorem ok_X11_isUsed_42_1 : oks m_X11_isUsed.1 m_X11_isUsed.2.2.1 42 [(.iconst 0, 1, (0, 0, 0))] = true ∧ plen 42 [(.iconst 0, 1, (0, 0, 0))] = 43 := by decide +kernel
theorem ok_X11_isUsed_44_4 : oks m_X11_isUsed.1 m_X11_isUsed.2.2.1 44 [(.iconst 0, 1, (0, 0, 0)), (.istore_n 3, 1, (0, 0, 0)), (.iconst 0, 1, (0, 0, 0)), (.istore 4, 2, (0, 0, 0))] = true ∧ plen 44 [(.iconst 0, 1, (0, 0, 0)), (.istore_n 3, 1, (0, 0, 0)), (.iconst 0, 1, (0, 0, 0)), (.istore 4, 2, (0, 0, 0))] = 49 := by decide +kernel
theorem ok_X11_isUsed_49_3 : oks m_X11_isUsed.1 m_X11_isUsed.2.2.1 49 [(.iload 4, 2, (0, 0, 0)), (.aload_n 0, 1, (0, 0, 0)), (.getfield 321, 3, (11, 56, 0))] = true ∧ plen 49 [(.iload 4, 2, (0, 0, 0)), (.aload_n 0, 1, (0, 0, 0)), (.getfield 321, 3, (11, 56, 0))] = 55 := by decide +kernel
theorem ok_X11_isUsed_58_1 : oks m_X11_isUsed.1 m_X11_isUsed.2.2.1 58 [(.iload_n 3, 1, (0, 0, 0))] = true ∧ plen 58 [(.iload_n 3, 1, (0, 0, 0))] = 59 := by decide +kernel
theorem ok_X11_isUsed_62_3 : oks m_X11_isUsed.1 m_X11_isUsed.2.2.1 62 [(.aload_n 0, 1, (0, 0, 0)), (.getfield 131, 3, (11, 58, 0)), (.iload 4, 2, (0, 0, 0))] = true ∧ plen 62 [(.aload_n 0, 1, (0, 0, 0)), (.getfield 131, 3, (11, 58, 0)), (.iload 4, 2, (0, 0, 0))] = 68 := by decide +kernel
theorem ok_X11_isUsed_72_3 : oks m_X11_isUsed.1 m_X11_isUsed.2.2.1 72 [(.aload_n 0, 1, (0, 0, 0)), (.getfield 131, 3, (11, 58, 0)), (.iload 4, 2, (0, 0, 0))] = true ∧ plen 72 [(.aload_n 0, 1, (0, 0, 0)), (.getfield 131, 3, (11, 58, 0)), (.iload 4, 2, (0, 0, 0))] = 78 := by decide +kernel
theorem ok_X11_isUsed_79_1 : oks m_X11_isUsed.1 m_X11_isUsed.2.2.1 79 [(.iconst 1, 1, (0, 0, 0))] = true ∧ plen 79 [(.iconst 1, 1, (0, 0, 0))] = 80 := by decide +kernel
theorem ok_X11_isUsed_83_3 : oks m_X11_isUsed.1 m_X11_isUsed.2.2.1 83 [(.aload_n 0, 1, (0, 0, 0)), (.getfield 134, 3, (11, 59, 0)), (.iload 4, 2, (0, 0, 0))] = true ∧ plen 83 [(.aload_n 0, 1, (0, 0, 0)), (.getfield 134, 3, (11, 59, 0)), (.iload 4, 2, (0, 0, 0))] = 89 := by decide +kernel
theorem ok_X11_isUsed_90_1 : oks m_X11_isUsed.1 m_X11_isUsed.2.2.1 90 [(.iload_n 1, 1, (0, 0, 0))] = true ∧ plen 90 [(.iload_n 1, 1, (0, 0, 0))] = 91 := by decide +kernel
theorem ok_X11_isUsed_94_1 : oks m_X11_isUsed.1 m_X11_isUsed.2.2.1 94 [(.iconst 1, 1, (0, 0, 0))] = true ∧ plen 94 [(.iconst 1, 1, (0, 0, 0))] = 95 := by decide +kernel
theorem ok_X11_isUsed_98_1 : oks m_X11_isUsed.1 m_X11_isUsed.2.2.1 98 [(.iconst 0, 1, (0, 0, 0))] = true ∧ plen 98 [(.iconst 0, 1, (0, 0, 0))] = 99 := by decide +kernel
theorem ok_X11_isUsed_99_2 : oks m_X11_isUsed.1 m_X11_isUsed.2.2.1 99 [(.istore_n 3, 1, (0, 0, 0)), (.iinc 4 1, 3, (0, 0, 0))] = true ∧ plen 99 [(.istore_n 3, 1, (0, 0, 0)), (.iinc 4 1, 3, (0, 0, 0))] = 103 := by decide +kernel
theorem ok_X11_isUsed_106_1 : oks m_X11_isUsed.1 m_X11_isUsed.2.2.1 106 [(.iload_n 3, 1, (0, 0, 0))] = true ∧ plen 106 [(.iload_n 3, 1, (0, 0, 0))] = 107 := by decide +kernel
def B_X11_isUsed_99 (x4 : Int) (y0 : Bool) (σ : Sg) : Option ((Bool × Int) ⊕ Bool) :=
some (.inl (y0, wrap (x4 + 1)))
def B_X11_isUsed_94 (x4 : Int) (σ : Sg) : Option ((Bool × Int) ⊕ Bool) :=
B_X11_isUsed_99 x4 true σ
def B_X11_isUsed_98 (x4 : Int) (σ : Sg) : Option ((Bool × Int) ⊕ Bool) :=
B_X11_isUsed_99 x4 false σ
def B_X11_isUsed_83 (x1 : Int) (x4 : Int) (σ : Sg) : Option ((Bool × Int) ⊕ Bool) :=
(rdn 512 σ 42 x4).bind fun v7 =>
if v7 = x1 then
B_X11_isUsed_94 x4 σ
else
B_X11_isUsed_98 x4 σ
def L_X11_isUsed_49 (x1 : Int) (σ : Sg) (x3 : Bool) (x4 : Int) : Option ((Bool × Int) ⊕ Bool) :=
if (σ 0 56) ≤ x4 then
some (.inr x3)
else
if x3 = true then
B_X11_isUsed_94 x4 σ
else
(rdn 512 σ 41 x4).bind fun v5 =>
if v5 = 0 then
B_X11_isUsed_83 x1 x4 σ
else
(rdn 512 σ 41 x4).bind fun v9 =>
if v9 = 1 then
B_X11_isUsed_83 x1 x4 σ
else
B_X11_isUsed_98 x4 σ
def B_X11_isUsed_36 (x1 : Int) (y0 : Int) (σ : Sg) : Option (Bool × Sg) :=
bnd (F_X11_refused y0 σ) fun q3 =>
if q3.1 = true then
some (false, q3.2)
else
(iter (fun a : (Bool × Int) => L_X11_isUsed_49 x1 q3.2 a.1 a.2) 3000 (false, 0)).bind fun y11 =>
some (y11, q3.2)
def B_X11_isUsed_15 (x1 : Int) (x2 : Bool) (σ : Sg) : Option (Bool × Sg) :=
if x2 = true then
if (σ 0 55) = 0 then
B_X11_isUsed_36 x1 0 σ
else
B_X11_isUsed_36 x1 2 σ
else
B_X11_isUsed_36 x1 1 σ
def F_X11_isUsed (a1 : Int) (σ : Sg) : Option (Bool × Sg) :=
bnd (F_X11_isCase a1 σ) fun v1 =>
if v1 = true then
(F_X11_build 2 σ).bind fun q13 =>
B_X11_isUsed_15 a1 v1 q13
else
B_X11_isUsed_15 a1 v1 σ
theorem lk_X11_isUsed (l : Launch) (d : Nat) (hd : 9 ≤ d) (a1 : Int) (σ : Sg) (q : (Bool × Sg)) (h : F_X11_isUsed a1 σ = some q) : CT l d m_X11_isUsed.2.1 m_X11_isUsed.2.2.1 m_X11_isUsed.2.2.2.1 m_X11_isUsed.2.2.2.2 [.inr 0, .inl a1] (LAYM, σ) (some (.inl (b2i q.1))) (LAYM, q.2) := by
  obtain ⟨d, rfl⟩ : ∃ e, d = e + 1 := ⟨d - 1, by omega⟩
  have key : Go l m_X11_isUsed (d + 1) LAYM (.inl (some (.inl (b2i q.1)))) q.2 0 [some (.inr 0), some (.inl a1), none, none, none] [] σ := by
    unfold F_X11_isUsed at h
    have hL_X11_isUsed_49 : ∀ (x1 : Int) (σ : Sg) (n : Nat) (a : (Bool × Int)) (y : Bool), iter (fun a : (Bool × Int) => L_X11_isUsed_49 x1 σ a.1 a.2) n a = some y → (fun y : Bool => Go l m_X11_isUsed (d + 1) LAYM (.inl (some (.inl (b2i q.1)))) q.2 106 [none, none, none, some (.inl (b2i y)), none] [] σ) y → (fun a : (Bool × Int) => Go l m_X11_isUsed (d + 1) LAYM (.inl (some (.inl (b2i q.1)))) q.2 49 [some (.inr 0), some (.inl x1), none, some (.inl (b2i a.1)), some (.inl a.2)] [] σ) a := by
      intro x1 σ
      refine go_iter (G := fun a : (Bool × Int) => Go l m_X11_isUsed (d + 1) LAYM (.inl (some (.inl (b2i q.1)))) q.2 49 [some (.inr 0), some (.inl x1), none, some (.inl (b2i a.1)), some (.inl a.2)] [] σ) (K := fun y : Bool => Go l m_X11_isUsed (d + 1) LAYM (.inl (some (.inl (b2i q.1)))) q.2 106 [none, none, none, some (.inl (b2i y)), none] [] σ) ?_
      rintro ⟨x3, x4⟩ w h hK
      replace h : L_X11_isUsed_49 x1 σ x3 x4 = some w := h
      show Go l m_X11_isUsed (d + 1) LAYM (.inl (some (.inl (b2i q.1)))) q.2 49 [some (.inr 0), some (.inl x1), none, some (.inl (b2i x3)), some (.inl x4)] [] σ
      unfold L_X11_isUsed_49 at h
      have hB_X11_isUsed_99 : ∀ (x4 : Int) (y0 : Bool), B_X11_isUsed_99 x4 y0 σ = some w → Go l m_X11_isUsed (d + 1) LAYM (.inl (some (.inl (b2i q.1)))) q.2 99 [some (.inr 0), some (.inl x1), none, none, some (.inl x4)] [.inl (b2i y0)] σ := by
        intro x4 y0 h
        unfold B_X11_isUsed_99 at h
        refine go_ops ok_X11_isUsed_99_2 (L' := [some (.inr 0), some (.inl x1), none, some (.inl (b2i y0)), some (.inl (wrap (x4 + 1)))]) (st' := []) (σ1 := σ) rfl ?_
        refine go_goto dc_X11_isUsed_103 (by rfl) ?_
        cases h
        exact hK
      have hB_X11_isUsed_94 : ∀ (x4 : Int), B_X11_isUsed_94 x4 σ = some w → Go l m_X11_isUsed (d + 1) LAYM (.inl (some (.inl (b2i q.1)))) q.2 94 [some (.inr 0), some (.inl x1), none, none, some (.inl x4)] [] σ := by
        intro x4 h
        unfold B_X11_isUsed_94 at h
        refine go_ops ok_X11_isUsed_94_1 (L' := [some (.inr 0), some (.inl x1), none, none, some (.inl x4)]) (st' := [.inl 1]) (σ1 := σ) rfl ?_
        refine go_goto dc_X11_isUsed_95 (by rfl) ?_
        exact hB_X11_isUsed_99 x4 true h
      have hB_X11_isUsed_98 : ∀ (x4 : Int), B_X11_isUsed_98 x4 σ = some w → Go l m_X11_isUsed (d + 1) LAYM (.inl (some (.inl (b2i q.1)))) q.2 98 [some (.inr 0), some (.inl x1), none, none, some (.inl x4)] [] σ := by
        intro x4 h
        unfold B_X11_isUsed_98 at h
        refine go_ops ok_X11_isUsed_98_1 (L' := [some (.inr 0), some (.inl x1), none, none, some (.inl x4)]) (st' := [.inl 0]) (σ1 := σ) rfl ?_
        exact hB_X11_isUsed_99 x4 false h
      have hB_X11_isUsed_83 : ∀ (x4 : Int), B_X11_isUsed_83 x1 x4 σ = some w → Go l m_X11_isUsed (d + 1) LAYM (.inl (some (.inl (b2i q.1)))) q.2 83 [some (.inr 0), some (.inl x1), none, none, some (.inl x4)] [] σ := by
        intro x4 h
        unfold B_X11_isUsed_83 at h
        refine go_ops ok_X11_isUsed_83_3 (L' := [some (.inr 0), some (.inl x1), none, none, some (.inl x4)]) (st' := [.inl x4, .inr 42]) (σ1 := σ) rfl ?_
        obtain ⟨v7, e8, h⟩ := bind_inv h
        refine go_rd (k := 42) dc_X11_isUsed_89 rfl e8 ?_
        refine go_ops ok_X11_isUsed_90_1 (L' := [some (.inr 0), some (.inl x1), none, none, some (.inl x4)]) (st' := [.inl x1, .inl v7]) (σ1 := σ) rfl ?_
        refine go_icmp_ne dc_X11_isUsed_91 (by rfl) (fun hc => ?_) (fun hc => ?_)
        · replace h := (if_neg hc).symm.trans h
          exact hB_X11_isUsed_98 x4 h
        · replace h := (if_pos hc).symm.trans h
          exact hB_X11_isUsed_94 x4 h
      refine go_ops ok_X11_isUsed_49_3 (L' := [some (.inr 0), some (.inl x1), none, some (.inl (b2i x3)), some (.inl x4)]) (st' := [.inl (σ 0 56), .inl x4]) (σ1 := σ) rfl ?_
      refine go_icmp_ge dc_X11_isUsed_55 (by rfl) (fun hc => ?_) (fun hc => ?_)
      · replace h := (if_pos hc).symm.trans h
        cases h
        refine go_wk (L' := [none, none, none, some (.inl (b2i x3)), none]) ⟨rfl, trivial⟩ ?_
        exact hK
      · replace h := (if_neg hc).symm.trans h
        refine go_ops ok_X11_isUsed_58_1 (L' := [some (.inr 0), some (.inl x1), none, some (.inl (b2i x3)), some (.inl x4)]) (st' := [.inl (b2i x3)]) (σ1 := σ) rfl ?_
        refine go_ifb_ne dc_X11_isUsed_59 (by rfl) (fun hc => ?_) (fun hc => ?_)
        · replace h := (if_pos hc).symm.trans h
          refine go_wk (L' := [some (.inr 0), some (.inl x1), none, none, some (.inl x4)]) ⟨rfl, rfl, rfl, trivial⟩ ?_
          exact hB_X11_isUsed_94 x4 h
        · replace h := (if_neg hc).symm.trans h
          refine go_ops ok_X11_isUsed_62_3 (L' := [some (.inr 0), some (.inl x1), none, some (.inl (b2i x3)), some (.inl x4)]) (st' := [.inl x4, .inr 41]) (σ1 := σ) rfl ?_
          obtain ⟨v5, e6, h⟩ := bind_inv h
          refine go_rd (k := 41) dc_X11_isUsed_68 rfl e6 ?_
          refine go_if_eq dc_X11_isUsed_69 (by rfl) (fun hc => ?_) (fun hc => ?_)
          · replace h := (if_pos hc).symm.trans h
            refine go_wk (L' := [some (.inr 0), some (.inl x1), none, none, some (.inl x4)]) ⟨rfl, rfl, rfl, trivial⟩ ?_
            exact hB_X11_isUsed_83 x4 h
          · replace h := (if_neg hc).symm.trans h
            refine go_ops ok_X11_isUsed_72_3 (L' := [some (.inr 0), some (.inl x1), none, some (.inl (b2i x3)), some (.inl x4)]) (st' := [.inl x4, .inr 41]) (σ1 := σ) rfl ?_
            obtain ⟨v9, e10, h⟩ := bind_inv h
            refine go_rd (k := 41) dc_X11_isUsed_78 rfl e10 ?_
            refine go_ops ok_X11_isUsed_79_1 (L' := [some (.inr 0), some (.inl x1), none, some (.inl (b2i x3)), some (.inl x4)]) (st' := [.inl 1, .inl v9]) (σ1 := σ) rfl ?_
            refine go_icmp_ne dc_X11_isUsed_80 (by rfl) (fun hc => ?_) (fun hc => ?_)
            · replace h := (if_neg hc).symm.trans h
              refine go_wk (L' := [some (.inr 0), some (.inl x1), none, none, some (.inl x4)]) ⟨rfl, rfl, rfl, trivial⟩ ?_
              exact hB_X11_isUsed_98 x4 h
            · replace h := (if_pos hc).symm.trans h
              refine go_wk (L' := [some (.inr 0), some (.inl x1), none, none, some (.inl x4)]) ⟨rfl, rfl, rfl, trivial⟩ ?_
              exact hB_X11_isUsed_83 x4 h
    have hB_X11_isUsed_36 : ∀ (x1 : Int) (y0 : Int) (σ : Sg), B_X11_isUsed_36 x1 y0 σ = some q → Go l m_X11_isUsed (d + 1) LAYM (.inl (some (.inl (b2i q.1)))) q.2 36 [some (.inr 0), some (.inl x1), none, none, none] [.inl y0, .inr 0] σ := by
      intro x1 y0 σ h
      unfold B_X11_isUsed_36 at h
      obtain ⟨q3, e4, h⟩ := bnd_inv h
      refine go_V (M1 := m_X11_refused) (as := [.inl y0]) (st := []) (k := 0) (ci := 11) dc_X11_isUsed_36 ln_11_183 im_X11_refused (by decide) rfl rfl mk_X11_refused rfl (Nat.le_of_ble_eq_true rfl) (Nat.le_refl _) (v := (some (.inl (b2i q3.1)))) (σ1 := q3.2) (lk_X11_refused l d (by omega) y0 σ q3 e4.symm) _ rfl ?_
      refine go_ifb_eq dc_X11_isUsed_39 (by rfl) (fun hc => ?_) (fun hc => ?_)
      · replace h := (if_neg hc).symm.trans h
        refine go_ops ok_X11_isUsed_44_4 (L' := [some (.inr 0), some (.inl x1), none, some (.inl 0), some (.inl 0)]) (st' := []) (σ1 := q3.2) rfl ?_
        obtain ⟨y11, e12, h⟩ := bind_inv h
        refine hL_X11_isUsed_49 x1 q3.2 3000 (false, 0) y11 e12 ?_
        show Go l m_X11_isUsed (d + 1) LAYM (.inl (some (.inl (b2i q.1)))) q.2 106 [none, none, none, some (.inl (b2i y11)), none] [] q3.2
        refine go_ops ok_X11_isUsed_106_1 (L' := [none, none, none, some (.inl (b2i y11)), none]) (st' := [.inl (b2i y11)]) (σ1 := q3.2) rfl ?_
        have h9 := Option.some.inj h
        subst h9
        exact go_zret (x := y11) dc_X11_isUsed_107 rfl
      · replace h := (if_pos hc).symm.trans h
        refine go_ops ok_X11_isUsed_42_1 (L' := [some (.inr 0), some (.inl x1), none, none, none]) (st' := [.inl 0]) (σ1 := q3.2) rfl ?_
        have h9 := Option.some.inj h
        subst h9
        exact go_zret (x := false) dc_X11_isUsed_43 rfl
    have hB_X11_isUsed_15 : ∀ (x1 : Int) (x2 : Bool) (σ : Sg), B_X11_isUsed_15 x1 x2 σ = some q → Go l m_X11_isUsed (d + 1) LAYM (.inl (some (.inl (b2i q.1)))) q.2 15 [some (.inr 0), some (.inl x1), some (.inl (b2i x2)), none, none] [] σ := by
      intro x1 x2 σ h
      unfold B_X11_isUsed_15 at h
      refine go_ops ok_X11_isUsed_15_2 (L' := [some (.inr 0), some (.inl x1), some (.inl (b2i x2)), none, none]) (st' := [.inl (b2i x2), .inr 0]) (σ1 := σ) rfl ?_
      refine go_ifb_ne dc_X11_isUsed_17 (by rfl) (fun hc => ?_) (fun hc => ?_)
      · replace h := (if_pos hc).symm.trans h
        refine go_ops ok_X11_isUsed_24_2 (L' := [some (.inr 0), some (.inl x1), some (.inl (b2i x2)), none, none]) (st' := [.inl (σ 0 55), .inr 0]) (σ1 := σ) rfl ?_
        refine go_if_eq dc_X11_isUsed_28 (by rfl) (fun hc => ?_) (fun hc => ?_)
        · replace h := (if_pos hc).symm.trans h
          refine go_ops ok_X11_isUsed_35_1 (L' := [some (.inr 0), some (.inl x1), some (.inl (b2i x2)), none, none]) (st' := [.inl 0, .inr 0]) (σ1 := σ) rfl ?_
          refine go_wk (L' := [some (.inr 0), some (.inl x1), none, none, none]) ⟨rfl, rfl, trivial⟩ ?_
          exact hB_X11_isUsed_36 x1 0 σ h
        · replace h := (if_neg hc).symm.trans h
          refine go_ops ok_X11_isUsed_31_1 (L' := [some (.inr 0), some (.inl x1), some (.inl (b2i x2)), none, none]) (st' := [.inl 2, .inr 0]) (σ1 := σ) rfl ?_
          refine go_goto dc_X11_isUsed_32 (by rfl) ?_
          refine go_wk (L' := [some (.inr 0), some (.inl x1), none, none, none]) ⟨rfl, rfl, trivial⟩ ?_
          exact hB_X11_isUsed_36 x1 2 σ h
      · replace h := (if_neg hc).symm.trans h
        refine go_ops ok_X11_isUsed_20_1 (L' := [some (.inr 0), some (.inl x1), some (.inl (b2i x2)), none, none]) (st' := [.inl 1, .inr 0]) (σ1 := σ) rfl ?_
        refine go_goto dc_X11_isUsed_21 (by rfl) ?_
        refine go_wk (L' := [some (.inr 0), some (.inl x1), none, none, none]) ⟨rfl, rfl, trivial⟩ ?_
        exact hB_X11_isUsed_36 x1 1 σ h
    refine go_ops ok_X11_isUsed_0_2 (L' := [some (.inr 0), some (.inl a1), none, none, none]) (st' := [.inl a1, .inr 0]) (σ1 := σ) rfl ?_
    refine go_V (M1 := m_X11_isCase) (as := [.inl a1]) (st := []) (k := 0) (ci := 11) dc_X11_isUsed_2 ln_11_248 im_X11_isCase (by decide) rfl rfl mk_X11_isCase rfl (Nat.le_of_ble_eq_true rfl) (Nat.le_refl _) (v := (some (.inl (b2i (F_X11_isCase a1 σ))))) (σ1 := σ) (lk_X11_isCase l d (by omega) a1 σ _ rfl) _ rfl ?_
    obtain ⟨v1, e2, h⟩ := bnd_inv h
    refine go_ops ok_X11_isUsed_5_2 (L' := [some (.inr 0), some (.inl a1), some (.inl (b2i v1)), none, none]) (st' := [.inl (b2i v1)]) (σ1 := σ) (by subst e2; rfl) ?_
    refine go_ifb_eq dc_X11_isUsed_7 (by rfl) (fun hc => ?_) (fun hc => ?_)
    · replace h := (if_neg hc).symm.trans h
      exact hB_X11_isUsed_15 a1 v1 σ h
    · replace h := (if_pos hc).symm.trans h
      refine go_ops ok_X11_isUsed_10_2 (L' := [some (.inr 0), some (.inl a1), some (.inl (b2i v1)), none, none]) (st' := [.inl 2, .inr 0]) (σ1 := σ) rfl ?_
      obtain ⟨q13, e14, h⟩ := bind_inv h
      refine go_V (M1 := m_X11_build) (as := [.inl 2]) (st := []) (k := 0) (ci := 11) dc_X11_isUsed_12 ln_11_364 im_X11_build (by decide) rfl rfl mk_X11_build rfl (Nat.le_of_ble_eq_true rfl) (Nat.le_refl _) (v := none) (σ1 := q13) (lk_X11_build l d (by omega) 2 σ q13 e14) _ rfl ?_
      exact hB_X11_isUsed_15 a1 v1 q13 h
  have hf := go_ct (as := [.inr 0, .inl a1]) mk_X11_isUsed (by rfl) (Nat.le_of_ble_eq_true rfl) key
  exact hf
