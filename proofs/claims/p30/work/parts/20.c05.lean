/-! read off: X10_list .. X10_taken -/
theorem dc_X10_list_3 : decode m_X10_list.2.2.1 3 = .ok (.invokestatic 94, 3) := by decide +kernel
theorem dc_X10_list_11 : decode m_X10_list.2.2.1 11 = .ok (.ifCond .eq 7, 3) := by decide +kernel
theorem dc_X10_list_15 : decode m_X10_list.2.2.1 15 = .ok (.goto 4, 3) := by decide +kernel
theorem dc_X10_list_22 : decode m_X10_list.2.2.1 22 = .ok (.invokevirtual 172, 3) := by decide +kernel
theorem dc_X10_list_29 : decode m_X10_list.2.2.1 29 = .ok (.invokestatic 94, 3) := by decide +kernel
theorem dc_X10_list_32 : decode m_X10_list.2.2.1 32 = .ok (.invokestatic 90, 3) := by decide +kernel
theorem dc_X10_list_37 : decode m_X10_list.2.2.1 37 = .ok (.invokestatic 98, 3) := by decide +kernel
theorem dc_X10_list_46 : decode m_X10_list.2.2.1 46 = .ok (.if_icmp .ge 52, 3) := by decide +kernel
theorem dc_X10_list_54 : decode m_X10_list.2.2.1 54 = .ok (.invokestatic 101, 3) := by decide +kernel
theorem dc_X10_list_62 : decode m_X10_list.2.2.1 62 = .ok (.if_icmp .ge 16, 3) := by decide +kernel
theorem dc_X10_list_72 : decode m_X10_list.2.2.1 72 = .ok (.invokevirtual 175, 3) := by decide +kernel
theorem dc_X10_list_75 : decode m_X10_list.2.2.1 75 = .ok (.goto 14, 3) := by decide +kernel
theorem dc_X10_list_81 : decode m_X10_list.2.2.1 81 = .ok (.if_icmp .ne 7, 3) := by decide +kernel
theorem dc_X10_list_85 : decode m_X10_list.2.2.1 85 = .ok (.goto 4, 3) := by decide +kernel
theorem dc_X10_list_89 : decode m_X10_list.2.2.1 89 = .ok (.invokestatic 98, 3) := by decide +kernel
theorem dc_X10_list_95 : decode m_X10_list.2.2.1 95 = .ok (.goto (-52), 3) := by decide +kernel
theorem dc_X10_list_105 : decode m_X10_list.2.2.1 105 = .ok (.invokevirtual 178, 3) := by decide +kernel
theorem dc_X10_list_108 : decode m_X10_list.2.2.1 108 = .ok (.invokestatic 98, 3) := by decide +kernel
theorem dc_X10_list_114 : decode m_X10_list.2.2.1 114 = .ok (.if_icmp .ne 8, 3) := by decide +kernel
theorem dc_X10_list_119 : decode m_X10_list.2.2.1 119 = .ok (.goto 5, 3) := by decide +kernel
theorem dc_X10_list_128 : decode m_X10_list.2.2.1 128 = .ok (.ifCond .ne 7, 3) := by decide +kernel
theorem dc_X10_list_132 : decode m_X10_list.2.2.1 132 = .ok (.goto 4, 3) := by decide +kernel
theorem dc_X10_list_148 : decode m_X10_list.2.2.1 148 = .ok (.invokevirtual 155, 3) := by decide +kernel
theorem dc_X10_list_151 : decode m_X10_list.2.2.1 151 = .ok (.ireturn, 1) := by decide +kernel
theorem ok_X10_list_0_3 : oks m_X10_list.1 m_X10_list.2.2.1 0 [(.iload_n 1, 1, (0, 0, 0)), (.iconst 0, 1, (0, 0, 0)), (.iconst 2, 1, (0, 0, 0))] = true ∧ plen 0 [(.iload_n 1, 1, (0, 0, 0)), (.iconst 0, 1, (0, 0, 0)), (.iconst 2, 1, (0, 0, 0))] = 3 := by decide +kernel
theorem ok_X10_list_6_3 : oks m_X10_list.1 m_X10_list.2.2.1 6 [(.istore 5, 2, (0, 0, 0)), (.aload_n 0, 1, (0, 0, 0)), (.iload 5, 2, (0, 0, 0))] = true ∧ plen 6 [(.istore 5, 2, (0, 0, 0)), (.aload_n 0, 1, (0, 0, 0)), (.iload 5, 2, (0, 0, 0))] = 11 := by decide +kernel
theorem ok_X10_list_14_1 : oks m_X10_list.1 m_X10_list.2.2.1 14 [(.iload_n 1, 1, (0, 0, 0))] = true ∧ plen 14 [(.iload_n 1, 1, (0, 0, 0))] = 15 := by decide +kernel
theorem ok_X10_list_18_1 : oks m_X10_list.1 m_X10_list.2.2.1 18 [(.iconst 0, 1, (0, 0, 0))] = true ∧ plen 18 [(.iconst 0, 1, (0, 0, 0))] = 19 := by decide +kernel
theorem ok_X10_list_19_3 : oks m_X10_list.1 m_X10_list.2.2.1 19 [(.iload_n 2, 1, (0, 0, 0)), (.iload_n 3, 1, (0, 0, 0)), (.iconst (-1), 1, (0, 0, 0))] = true ∧ plen 19 [(.iload_n 2, 1, (0, 0, 0)), (.iload_n 3, 1, (0, 0, 0)), (.iconst (-1), 1, (0, 0, 0))] = 22 := by decide +kernel
theorem ok_X10_list_25_3 : oks m_X10_list.1 m_X10_list.2.2.1 25 [(.iload 4, 2, (0, 0, 0)), (.iconst 0, 1, (0, 0, 0)), (.iconst 2, 1, (0, 0, 0))] = true ∧ plen 25 [(.iload 4, 2, (0, 0, 0)), (.iconst 0, 1, (0, 0, 0)), (.iconst 2, 1, (0, 0, 0))] = 29 := by decide +kernel
theorem ok_X10_list_35_1 : oks m_X10_list.1 m_X10_list.2.2.1 35 [(.iload 5, 2, (0, 0, 0))] = true ∧ plen 35 [(.iload 5, 2, (0, 0, 0))] = 37 := by decide +kernel
theorem ok_X10_list_40_2 : oks m_X10_list.1 m_X10_list.2.2.1 40 [(.iconst 0, 1, (0, 0, 0)), (.istore 6, 2, (0, 0, 0))] = true ∧ plen 40 [(.iconst 0, 1, (0, 0, 0)), (.istore 6, 2, (0, 0, 0))] = 43 := by decide +kernel
theorem ok_X10_list_43_2 : oks m_X10_list.1 m_X10_list.2.2.1 43 [(.iload 6, 2, (0, 0, 0)), (.iconst 2, 1, (0, 0, 0))] = true ∧ plen 43 [(.iload 6, 2, (0, 0, 0)), (.iconst 2, 1, (0, 0, 0))] = 46 := by decide +kernel
theorem ok_X10_list_49_4 : oks m_X10_list.1 m_X10_list.2.2.1 49 [(.iload 6, 2, (0, 0, 0)), (.iload_n 2, 1, (0, 0, 0)), (.iload_n 3, 1, (0, 0, 0)), (.iconst (-1), 1, (0, 0, 0))] = true ∧ plen 49 [(.iload 6, 2, (0, 0, 0)), (.iload_n 2, 1, (0, 0, 0)), (.iload_n 3, 1, (0, 0, 0)), (.iconst (-1), 1, (0, 0, 0))] = 54 := by decide +kernel
theorem ok_X10_list_57_3 : oks m_X10_list.1 m_X10_list.2.2.1 57 [(.istore 7, 2, (0, 0, 0)), (.iload 6, 2, (0, 0, 0)), (.iload_n 1, 1, (0, 0, 0))] = true ∧ plen 57 [(.istore 7, 2, (0, 0, 0)), (.iload 6, 2, (0, 0, 0)), (.iload_n 1, 1, (0, 0, 0))] = 62 := by decide +kernel
theorem ok_X10_list_65_4 : oks m_X10_list.1 m_X10_list.2.2.1 65 [(.aload_n 0, 1, (0, 0, 0)), (.getfield 26, 3, (10, 2, 0)), (.iload 7, 2, (0, 0, 0)), (.iconst 4, 1, (0, 0, 0))] = true ∧ plen 65 [(.aload_n 0, 1, (0, 0, 0)), (.getfield 26, 3, (10, 2, 0)), (.iload 7, 2, (0, 0, 0)), (.iconst 4, 1, (0, 0, 0))] = 72 := by decide +kernel
theorem ok_X10_list_78_2 : oks m_X10_list.1 m_X10_list.2.2.1 78 [(.iload 7, 2, (0, 0, 0)), (.iconst (-1), 1, (0, 0, 0))] = true ∧ plen 78 [(.iload 7, 2, (0, 0, 0)), (.iconst (-1), 1, (0, 0, 0))] = 81 := by decide +kernel
theorem ok_X10_list_84_1 : oks m_X10_list.1 m_X10_list.2.2.1 84 [(.iconst 1, 1, (0, 0, 0))] = true ∧ plen 84 [(.iconst 1, 1, (0, 0, 0))] = 85 := by decide +kernel
theorem ok_X10_list_88_1 : oks m_X10_list.1 m_X10_list.2.2.1 88 [(.iconst 0, 1, (0, 0, 0))] = true ∧ plen 88 [(.iconst 0, 1, (0, 0, 0))] = 89 := by decide +kernel
theorem ok_X10_list_92_1 : oks m_X10_list.1 m_X10_list.2.2.1 92 [(.iinc 6 1, 3, (0, 0, 0))] = true ∧ plen 92 [(.iinc 6 1, 3, (0, 0, 0))] = 95 := by decide +kernel
theorem ok_X10_list_98_5 : oks m_X10_list.1 m_X10_list.2.2.1 98 [(.aload_n 0, 1, (0, 0, 0)), (.getfield 26, 3, (10, 2, 0)), (.iload_n 2, 1, (0, 0, 0)), (.iload_n 3, 1, (0, 0, 0)), (.iconst (-1), 1, (0, 0, 0))] = true ∧ plen 98 [(.aload_n 0, 1, (0, 0, 0)), (.getfield 26, 3, (10, 2, 0)), (.iload_n 2, 1, (0, 0, 0)), (.iload_n 3, 1, (0, 0, 0)), (.iconst (-1), 1, (0, 0, 0))] = 105 := by decide +kernel
theorem ok_X10_list_111_2 : oks m_X10_list.1 m_X10_list.2.2.1 111 [(.iload 4, 2, (0, 0, 0)), (.iconst 2, 1, (0, 0, 0))] = true ∧ plen 111 [(.iload 4, 2, (0, 0, 0)), (.iconst 2, 1, (0, 0, 0))] = 114 := by decide +kernel
theorem ok_X10_list_117_1 : oks m_X10_list.1 m_X10_list.2.2.1 117 [(.bipush 7, 2, (0, 0, 0))] = true ∧ plen 117 [(.bipush 7, 2, (0, 0, 0))] = 119 := by decide +kernel
theorem ok_X10_list_122_1 : oks m_X10_list.1 m_X10_list.2.2.1 122 [(.bipush 6, 2, (0, 0, 0))] = true ∧ plen 122 [(.bipush 6, 2, (0, 0, 0))] = 124 := by decide +kernel
theorem ok_X10_list_124_2 : oks m_X10_list.1 m_X10_list.2.2.1 124 [(.istore 6, 2, (0, 0, 0)), (.iload 4, 2, (0, 0, 0))] = true ∧ plen 124 [(.istore 6, 2, (0, 0, 0)), (.iload 4, 2, (0, 0, 0))] = 128 := by decide +kernel
theorem ok_X10_list_131_1 : oks m_X10_list.1 m_X10_list.2.2.1 131 [(.iload_n 1, 1, (0, 0, 0))] = true ∧ plen 131 [(.iload_n 1, 1, (0, 0, 0))] = 132 := by decide +kernel
theorem ok_X10_list_135_1 : oks m_X10_list.1 m_X10_list.2.2.1 135 [(.iconst 3, 1, (0, 0, 0))] = true ∧ plen 135 [(.iconst 3, 1, (0, 0, 0))] = 136 := by decide +kernel
theorem ok_X10_list_136_9 : oks m_X10_list.1 m_X10_list.2.2.1 136 [(.istore 7, 2, (0, 0, 0)), (.aload_n 0, 1, (0, 0, 0)), (.iload 6, 2, (0, 0, 0)), (.iconst 5, 1, (0, 0, 0)), (.iload_n 1, 1, (0, 0, 0)), (.iload 7, 2, (0, 0, 0)), (.iload_n 2, 1, (0, 0, 0)), (.iload_n 3, 1, (0, 0, 0)), (.iconst (-1), 1, (0, 0, 0))] = true ∧ plen 136 [(.istore 7, 2, (0, 0, 0)), (.aload_n 0, 1, (0, 0, 0)), (.iload 6, 2, (0, 0, 0)), (.iconst 5, 1, (0, 0, 0)), (.iload_n 1, 1, (0, 0, 0)), (.iload 7, 2, (0, 0, 0)), (.iload_n 2, 1, (0, 0, 0)), (.iload_n 3, 1, (0, 0, 0)), (.iconst (-1), 1, (0, 0, 0))] = 148 := by decide +kernel
def B_X10_list_89 (x6 : Int) (y0 : Bool) (σ : Sg) : Option (Int ⊕ (Unit ⊕ ((Int ⊕ Nat) × Sg))) :=
if y0 = true then
some (.inl (wrap (x6 + 1)))
else some (.inr (.inr (.inr 1, σ)))
def L_X10_list_43 (x1 : Int) (x2 : Int) (x3 : Int) (σ : Sg) (x6 : Int) : Option (Int ⊕ (Unit ⊕ ((Int ⊕ Nat) × Sg))) :=
if 2 ≤ x6 then
some (.inr (.inl ()))
else
bnd (F_X10_pick x6 x2 x3 (-1)) fun v6 =>
if x1 ≤ x6 then
if v6 = (-1) then
B_X10_list_89 x6 true σ
else
B_X10_list_89 x6 false σ
else
B_X10_list_89 x6 (F_X5_fits v6 4 σ) σ
def B_X10_list_136 (x1 : Int) (x2 : Int) (x3 : Int) (x6 : Int) (y0 : Int) (σ : Sg) : Option ((Int ⊕ Nat) × Sg) :=
xb (F_X10_keepPattern x6 5 x1 y0 x2 x3 (-1) σ) (fun E σ => some (.inr E, σ)) fun v12 s13 =>
some (.inl v12, s13)
def B_X10_list_124 (x1 : Int) (x2 : Int) (x3 : Int) (x4 : Int) (y0 : Int) (σ : Sg) : Option ((Int ⊕ Nat) × Sg) :=
if x4 = 0 then
B_X10_list_136 x1 x2 x3 y0 x1 σ
else
B_X10_list_136 x1 x2 x3 y0 3 σ
def B_X10_list_19 (x1 : Int) (x2 : Int) (x3 : Int) (x4 : Int) (x5 : Bool) (y0 : Int) (σ : Sg) : Option ((Int ⊕ Nat) × Sg) :=
xb (F_X10_demandPatterns y0 x2 x3 (-1) σ) (fun E σ => some (.inr E, σ)) fun v3 s4 =>
if (F_X10_isIn x4 0 2) = true then
if x5 = true then
(iter (fun a : Int => L_X10_list_43 x1 x2 x3 s4 a) 3 0).bind fun y8 => Sum.elim (fun z10 =>
if (F_X5_canBeParts x2 x3 (-1) s4) = true then
if x4 = 2 then
B_X10_list_124 x1 x2 x3 x4 7 s4
else
B_X10_list_124 x1 x2 x3 x4 6 s4
else some (.inr 1, s4)) (fun r11 => some r11) y8
else some (.inr 1, s4)
else some (.inr 0, s4)
def F_X10_list (a1 : Int) (a2 : Int) (a3 : Int) (a4 : Int) (σ : Sg) : Option ((Int ⊕ Nat) × Sg) :=
bnd (F_X10_isIn a1 0 2) fun v1 =>
if v1 = true then
B_X10_list_19 a1 a2 a3 a4 v1 a1 σ
else
B_X10_list_19 a1 a2 a3 a4 v1 0 σ
theorem lk_X10_list (l : Launch) (hl : l.stackTraces = false) (d : Nat) (hd : 8 ≤ d) (a1 : Int) (a2 : Int) (a3 : Int) (a4 : Int) (σ : Sg) (q : ((Int ⊕ Nat) × Sg)) (h : F_X10_list a1 a2 a3 a4 σ = some q) : outZ (ozI q.1) l d m_X10_list.2.1 m_X10_list.2.2.1 m_X10_list.2.2.2.1 m_X10_list.2.2.2.2 [.inr 0, .inl a1, .inl a2, .inl a3, .inl a4] (LAYC, σ) (LAYC, q.2) := by
  obtain ⟨d, rfl⟩ : ∃ e, d = e + 1 := ⟨d - 1, by omega⟩
  have key : Go l m_X10_list (d + 1) LAYC (ozI q.1) q.2 0 [some (.inr 0), some (.inl a1), some (.inl a2), some (.inl a3), some (.inl a4), none, none, none] [] σ := by
    unfold F_X10_list at h
    have hL_X10_list_43 : ∀ (x1 : Int) (x2 : Int) (x3 : Int) (x4 : Int) (σ : Sg) (n : Nat) (a : Int) (y : (Unit ⊕ ((Int ⊕ Nat) × Sg))), iter (fun a : Int => L_X10_list_43 x1 x2 x3 σ a) n a = some y → (Sum.elim (fun y : Unit => Go l m_X10_list (d + 1) LAYC (ozI q.1) q.2 98 [some (.inr 0), some (.inl x1), some (.inl x2), some (.inl x3), some (.inl x4), none, none, none] [] σ) (fun r : ((Int ⊕ Nat) × Sg) => r = q)) y → (fun a : Int => Go l m_X10_list (d + 1) LAYC (ozI q.1) q.2 43 [some (.inr 0), some (.inl x1), some (.inl x2), some (.inl x3), some (.inl x4), none, some (.inl a), none] [] σ) a := by
      intro x1 x2 x3 x4 σ
      refine go_iter (G := fun a : Int => Go l m_X10_list (d + 1) LAYC (ozI q.1) q.2 43 [some (.inr 0), some (.inl x1), some (.inl x2), some (.inl x3), some (.inl x4), none, some (.inl a), none] [] σ) (K := Sum.elim (fun y : Unit => Go l m_X10_list (d + 1) LAYC (ozI q.1) q.2 98 [some (.inr 0), some (.inl x1), some (.inl x2), some (.inl x3), some (.inl x4), none, none, none] [] σ) (fun r : ((Int ⊕ Nat) × Sg) => r = q)) ?_
      rintro x6 w h hK
      replace h : L_X10_list_43 x1 x2 x3 σ x6 = some w := h
      show Go l m_X10_list (d + 1) LAYC (ozI q.1) q.2 43 [some (.inr 0), some (.inl x1), some (.inl x2), some (.inl x3), some (.inl x4), none, some (.inl x6), none] [] σ
      unfold L_X10_list_43 at h
      have hB_X10_list_89 : ∀ (x6 : Int) (y0 : Bool), B_X10_list_89 x6 y0 σ = some w → Go l m_X10_list (d + 1) LAYC (ozI q.1) q.2 89 [some (.inr 0), some (.inl x1), some (.inl x2), some (.inl x3), some (.inl x4), none, some (.inl x6), none] [.inl (b2i y0)] σ := by
        intro x6 y0 h
        unfold B_X10_list_89 at h
        rcases Decidable.em (¬ y0 = true) with hc | hc
        · replace h := (if_neg hc).symm.trans h
          cases h
          have hK2 : _ = q := hK
          subst hK2
          exact go_SX (M1 := m_X10_demandArgument) (as := [.inl (b2i y0)]) (st := []) dc_X10_list_89 ln_10_98 sm_X10_demandArgument rfl mk_X10_demandArgument rfl (Nat.le_of_ble_eq_true rfl) (Nat.le_refl _) (lkX_X10_demandArgument l d hl (by omega) _ hc LAYC σ) _ rfl
        replace hc := Decidable.not_not.mp hc
        replace h := (if_pos hc).symm.trans h
        refine go_S (M1 := m_X10_demandArgument) (as := [.inl (b2i y0)]) (st := []) dc_X10_list_89 ln_10_98 sm_X10_demandArgument mk_X10_demandArgument rfl (Nat.le_of_ble_eq_true rfl) (Nat.le_refl _) (v := none) (σ1 := σ) (lk_X10_demandArgument l d _ hc _ σ) _ rfl ?_
        refine go_ops ok_X10_list_92_1 (L' := [some (.inr 0), some (.inl x1), some (.inl x2), some (.inl x3), some (.inl x4), none, some (.inl (wrap (x6 + 1))), none]) (st' := []) (σ1 := σ) rfl ?_
        refine go_goto dc_X10_list_95 (by rfl) ?_
        cases h
        exact hK
      refine go_ops ok_X10_list_43_2 (L' := [some (.inr 0), some (.inl x1), some (.inl x2), some (.inl x3), some (.inl x4), none, some (.inl x6), none]) (st' := [.inl 2, .inl x6]) (σ1 := σ) rfl ?_
      refine go_icmp_ge dc_X10_list_46 (by rfl) (fun hc => ?_) (fun hc => ?_)
      · replace h := (if_pos hc).symm.trans h
        cases h
        refine go_wk (L' := [some (.inr 0), some (.inl x1), some (.inl x2), some (.inl x3), some (.inl x4), none, none, none]) ⟨rfl, rfl, rfl, rfl, rfl, trivial⟩ ?_
        exact hK
      · replace h := (if_neg hc).symm.trans h
        refine go_ops ok_X10_list_49_4 (L' := [some (.inr 0), some (.inl x1), some (.inl x2), some (.inl x3), some (.inl x4), none, some (.inl x6), none]) (st' := [.inl (-1), .inl x3, .inl x2, .inl x6]) (σ1 := σ) rfl ?_
        refine go_S (M1 := m_X10_pick) (as := [.inl x6, .inl x2, .inl x3, .inl (-1)]) (st := []) dc_X10_list_54 ln_10_101 sm_X10_pick mk_X10_pick rfl (Nat.le_of_ble_eq_true rfl) (Nat.le_refl _) (v := (some (.inl (F_X10_pick x6 x2 x3 (-1))))) (σ1 := σ) (lk_X10_pick l d (by omega) x6 x2 x3 (-1) σ _ rfl) _ rfl ?_
        obtain ⟨v6, e7, h⟩ := bnd_inv h
        refine go_ops ok_X10_list_57_3 (L' := [some (.inr 0), some (.inl x1), some (.inl x2), some (.inl x3), some (.inl x4), none, some (.inl x6), some (.inl v6)]) (st' := [.inl x1, .inl x6]) (σ1 := σ) (by subst e7; rfl) ?_
        refine go_icmp_ge dc_X10_list_62 (by rfl) (fun hc => ?_) (fun hc => ?_)
        · replace h := (if_pos hc).symm.trans h
          refine go_ops ok_X10_list_78_2 (L' := [some (.inr 0), some (.inl x1), some (.inl x2), some (.inl x3), some (.inl x4), none, some (.inl x6), some (.inl v6)]) (st' := [.inl (-1), .inl v6]) (σ1 := σ) rfl ?_
          refine go_icmp_ne dc_X10_list_81 (by rfl) (fun hc => ?_) (fun hc => ?_)
          · replace h := (if_neg hc).symm.trans h
            refine go_ops ok_X10_list_88_1 (L' := [some (.inr 0), some (.inl x1), some (.inl x2), some (.inl x3), some (.inl x4), none, some (.inl x6), some (.inl v6)]) (st' := [.inl 0]) (σ1 := σ) rfl ?_
            refine go_wk (L' := [some (.inr 0), some (.inl x1), some (.inl x2), some (.inl x3), some (.inl x4), none, some (.inl x6), none]) ⟨rfl, rfl, rfl, rfl, rfl, rfl, trivial⟩ ?_
            exact hB_X10_list_89 x6 false h
          · replace h := (if_pos hc).symm.trans h
            refine go_ops ok_X10_list_84_1 (L' := [some (.inr 0), some (.inl x1), some (.inl x2), some (.inl x3), some (.inl x4), none, some (.inl x6), some (.inl v6)]) (st' := [.inl 1]) (σ1 := σ) rfl ?_
            refine go_goto dc_X10_list_85 (by rfl) ?_
            refine go_wk (L' := [some (.inr 0), some (.inl x1), some (.inl x2), some (.inl x3), some (.inl x4), none, some (.inl x6), none]) ⟨rfl, rfl, rfl, rfl, rfl, rfl, trivial⟩ ?_
            exact hB_X10_list_89 x6 true h
        · replace h := (if_neg hc).symm.trans h
          refine go_ops ok_X10_list_65_4 (L' := [some (.inr 0), some (.inl x1), some (.inl x2), some (.inl x3), some (.inl x4), none, some (.inl x6), some (.inl v6)]) (st' := [.inl 4, .inl v6, .inr 10]) (σ1 := σ) rfl ?_
          refine go_V (M1 := m_X5_fits) (as := [.inl v6, .inl 4]) (st := []) (k := 10) (ci := 5) dc_X10_list_72 ln_10_175 im_X5_fits (by decide) rfl rfl mk_X5_fits rfl (Nat.le_of_ble_eq_true rfl) (Nat.le_refl _) (v := (some (.inl (b2i (F_X5_fits v6 4 σ))))) (σ1 := σ) (lk_X5_fits l d (by omega) v6 4 σ _ rfl) _ rfl ?_
          refine go_goto dc_X10_list_75 (by rfl) ?_
          refine go_wk (L' := [some (.inr 0), some (.inl x1), some (.inl x2), some (.inl x3), some (.inl x4), none, some (.inl x6), none]) ⟨rfl, rfl, rfl, rfl, rfl, rfl, trivial⟩ ?_
          exact hB_X10_list_89 x6 (F_X5_fits v6 4 σ) h
    have hB_X10_list_136 : ∀ (x1 : Int) (x2 : Int) (x3 : Int) (x6 : Int) (y0 : Int) (σ : Sg), B_X10_list_136 x1 x2 x3 x6 y0 σ = some q → Go l m_X10_list (d + 1) LAYC (ozI q.1) q.2 136 [some (.inr 0), some (.inl x1), some (.inl x2), some (.inl x3), none, none, some (.inl x6), none] [.inl y0] σ := by
      intro x1 x2 x3 x6 y0 σ h
      unfold B_X10_list_136 at h
      refine go_ops ok_X10_list_136_9 (L' := [some (.inr 0), some (.inl x1), some (.inl x2), some (.inl x3), none, none, some (.inl x6), some (.inl y0)]) (st' := [.inl (-1), .inl x3, .inl x2, .inl y0, .inl x1, .inl 5, .inl x6, .inr 0]) (σ1 := σ) rfl ?_
      rcases xb_inv h with ⟨E1, s13, e14, h⟩ | ⟨v12, s13, e14, h⟩
      · have h9 := Option.some.inj h
        subst h9
        exact go_VX (M1 := m_X10_keepPattern) (as := [.inl x6, .inl 5, .inl x1, .inl y0, .inl x2, .inl x3, .inl (-1)]) (st := []) (k := 0) (ci := 10) dc_X10_list_148 ln_10_155 im_X10_keepPattern (by decide) rfl rfl mk_X10_keepPattern rfl (Nat.le_of_ble_eq_true rfl) (Nat.le_refl _) (lk_X10_keepPattern l hl d (by omega) x6 5 x1 y0 x2 x3 (-1) σ _ e14) _ rfl
      refine go_V (M1 := m_X10_keepPattern) (as := [.inl x6, .inl 5, .inl x1, .inl y0, .inl x2, .inl x3, .inl (-1)]) (st := []) (k := 0) (ci := 10) dc_X10_list_148 ln_10_155 im_X10_keepPattern (by decide) rfl rfl mk_X10_keepPattern rfl (Nat.le_of_ble_eq_true rfl) (Nat.le_refl _) (v := (some (.inl v12))) (σ1 := s13) (lk_X10_keepPattern l hl d (by omega) x6 5 x1 y0 x2 x3 (-1) σ _ e14) _ rfl ?_
      have h9 := Option.some.inj h
      subst h9
      exact go_iret dc_X10_list_151 rfl
    have hB_X10_list_124 : ∀ (x1 : Int) (x2 : Int) (x3 : Int) (x4 : Int) (y0 : Int) (σ : Sg), B_X10_list_124 x1 x2 x3 x4 y0 σ = some q → Go l m_X10_list (d + 1) LAYC (ozI q.1) q.2 124 [some (.inr 0), some (.inl x1), some (.inl x2), some (.inl x3), some (.inl x4), none, none, none] [.inl y0] σ := by
      intro x1 x2 x3 x4 y0 σ h
      unfold B_X10_list_124 at h
      refine go_ops ok_X10_list_124_2 (L' := [some (.inr 0), some (.inl x1), some (.inl x2), some (.inl x3), some (.inl x4), none, some (.inl y0), none]) (st' := [.inl x4]) (σ1 := σ) rfl ?_
      refine go_if_ne dc_X10_list_128 (by rfl) (fun hc => ?_) (fun hc => ?_)
      · replace h := (if_neg hc).symm.trans h
        refine go_ops ok_X10_list_135_1 (L' := [some (.inr 0), some (.inl x1), some (.inl x2), some (.inl x3), some (.inl x4), none, some (.inl y0), none]) (st' := [.inl 3]) (σ1 := σ) rfl ?_
        refine go_wk (L' := [some (.inr 0), some (.inl x1), some (.inl x2), some (.inl x3), none, none, some (.inl y0), none]) ⟨rfl, rfl, rfl, rfl, rfl, trivial⟩ ?_
        exact hB_X10_list_136 x1 x2 x3 y0 3 σ h
      · replace h := (if_pos hc).symm.trans h
        refine go_ops ok_X10_list_131_1 (L' := [some (.inr 0), some (.inl x1), some (.inl x2), some (.inl x3), some (.inl x4), none, some (.inl y0), none]) (st' := [.inl x1]) (σ1 := σ) rfl ?_
        refine go_goto dc_X10_list_132 (by rfl) ?_
        refine go_wk (L' := [some (.inr 0), some (.inl x1), some (.inl x2), some (.inl x3), none, none, some (.inl y0), none]) ⟨rfl, rfl, rfl, rfl, rfl, trivial⟩ ?_
        exact hB_X10_list_136 x1 x2 x3 y0 x1 σ h
    have hB_X10_list_19 : ∀ (x1 : Int) (x2 : Int) (x3 : Int) (x4 : Int) (x5 : Bool) (y0 : Int) (σ : Sg), B_X10_list_19 x1 x2 x3 x4 x5 y0 σ = some q → Go l m_X10_list (d + 1) LAYC (ozI q.1) q.2 19 [some (.inr 0), some (.inl x1), some (.inl x2), some (.inl x3), some (.inl x4), some (.inl (b2i x5)), none, none] [.inl y0, .inr 0] σ := by
      intro x1 x2 x3 x4 x5 y0 σ h
      unfold B_X10_list_19 at h
      refine go_ops ok_X10_list_19_3 (L' := [some (.inr 0), some (.inl x1), some (.inl x2), some (.inl x3), some (.inl x4), some (.inl (b2i x5)), none, none]) (st' := [.inl (-1), .inl x3, .inl x2, .inl y0, .inr 0]) (σ1 := σ) rfl ?_
      rcases xb_inv h with ⟨E1, s4, e5, h⟩ | ⟨v3, s4, e5, h⟩
      · have h9 := Option.some.inj h
        subst h9
        exact go_VX (M1 := m_X10_demandPatterns) (as := [.inl y0, .inl x2, .inl x3, .inl (-1)]) (st := []) (k := 0) (ci := 10) dc_X10_list_22 ln_10_172 im_X10_demandPatterns (by decide) rfl rfl mk_X10_demandPatterns rfl (Nat.le_of_ble_eq_true rfl) (Nat.le_refl _) (lk_X10_demandPatterns l hl d (by omega) y0 x2 x3 (-1) σ _ e5) _ rfl
      refine go_V (M1 := m_X10_demandPatterns) (as := [.inl y0, .inl x2, .inl x3, .inl (-1)]) (st := []) (k := 0) (ci := 10) dc_X10_list_22 ln_10_172 im_X10_demandPatterns (by decide) rfl rfl mk_X10_demandPatterns rfl (Nat.le_of_ble_eq_true rfl) (Nat.le_refl _) (v := none) (σ1 := s4) (lk_X10_demandPatterns l hl d (by omega) y0 x2 x3 (-1) σ _ e5) _ rfl ?_
      refine go_ops ok_X10_list_25_3 (L' := [some (.inr 0), some (.inl x1), some (.inl x2), some (.inl x3), some (.inl x4), some (.inl (b2i x5)), none, none]) (st' := [.inl 2, .inl 0, .inl x4]) (σ1 := s4) rfl ?_
      refine go_S (M1 := m_X10_isIn) (as := [.inl x4, .inl 0, .inl 2]) (st := []) dc_X10_list_29 ln_10_94 sm_X10_isIn mk_X10_isIn rfl (Nat.le_of_ble_eq_true rfl) (Nat.le_refl _) (v := (some (.inl (b2i (F_X10_isIn x4 0 2))))) (σ1 := s4) (lk_X10_isIn l d (by omega) x4 0 2 s4 _ rfl) _ rfl ?_
      rcases Decidable.em (¬ (F_X10_isIn x4 0 2) = true) with hc | hc
      · replace h := (if_neg hc).symm.trans h
        have h9 := Option.some.inj h
        subst h9
        exact go_SX (M1 := m_X10_demandIndex) (as := [.inl (b2i (F_X10_isIn x4 0 2))]) (st := []) dc_X10_list_32 ln_10_90 sm_X10_demandIndex rfl mk_X10_demandIndex rfl (Nat.le_of_ble_eq_true rfl) (Nat.le_refl _) (lkX_X10_demandIndex l d hl (by omega) _ hc LAYC s4) _ rfl
      replace hc := Decidable.not_not.mp hc
      replace h := (if_pos hc).symm.trans h
      refine go_S (M1 := m_X10_demandIndex) (as := [.inl (b2i (F_X10_isIn x4 0 2))]) (st := []) dc_X10_list_32 ln_10_90 sm_X10_demandIndex mk_X10_demandIndex rfl (Nat.le_of_ble_eq_true rfl) (Nat.le_refl _) (v := none) (σ1 := s4) (lk_X10_demandIndex l d _ hc _ s4) _ rfl ?_
      refine go_ops ok_X10_list_35_1 (L' := [some (.inr 0), some (.inl x1), some (.inl x2), some (.inl x3), some (.inl x4), some (.inl (b2i x5)), none, none]) (st' := [.inl (b2i x5)]) (σ1 := s4) rfl ?_
      rcases Decidable.em (¬ x5 = true) with hc | hc
      · replace h := (if_neg hc).symm.trans h
        have h9 := Option.some.inj h
        subst h9
        exact go_SX (M1 := m_X10_demandArgument) (as := [.inl (b2i x5)]) (st := []) dc_X10_list_37 ln_10_98 sm_X10_demandArgument rfl mk_X10_demandArgument rfl (Nat.le_of_ble_eq_true rfl) (Nat.le_refl _) (lkX_X10_demandArgument l d hl (by omega) _ hc LAYC s4) _ rfl
      replace hc := Decidable.not_not.mp hc
      replace h := (if_pos hc).symm.trans h
      refine go_S (M1 := m_X10_demandArgument) (as := [.inl (b2i x5)]) (st := []) dc_X10_list_37 ln_10_98 sm_X10_demandArgument mk_X10_demandArgument rfl (Nat.le_of_ble_eq_true rfl) (Nat.le_refl _) (v := none) (σ1 := s4) (lk_X10_demandArgument l d _ hc _ s4) _ rfl ?_
      refine go_ops ok_X10_list_40_2 (L' := [some (.inr 0), some (.inl x1), some (.inl x2), some (.inl x3), some (.inl x4), some (.inl (b2i x5)), some (.inl 0), none]) (st' := []) (σ1 := s4) rfl ?_
      refine go_wk (L' := [some (.inr 0), some (.inl x1), some (.inl x2), some (.inl x3), some (.inl x4), none, some (.inl 0), none]) ⟨rfl, rfl, rfl, rfl, rfl, rfl, trivial⟩ ?_
      obtain ⟨y8, e9, h⟩ := bind_inv h
      refine hL_X10_list_43 x1 x2 x3 x4 s4 3 0 y8 e9 ?_
      rcases y8 with z10 | r11
      rotate_left
      · show r11 = q
        cases h; rfl
      show Go l m_X10_list (d + 1) LAYC (ozI q.1) q.2 98 [some (.inr 0), some (.inl x1), some (.inl x2), some (.inl x3), some (.inl x4), none, none, none] [] s4
      rw [Sum.elim_inl] at h
      refine go_ops ok_X10_list_98_5 (L' := [some (.inr 0), some (.inl x1), some (.inl x2), some (.inl x3), some (.inl x4), none, none, none]) (st' := [.inl (-1), .inl x3, .inl x2, .inr 10]) (σ1 := s4) rfl ?_
      refine go_V (M1 := m_X5_canBeParts) (as := [.inl x2, .inl x3, .inl (-1)]) (st := []) (k := 10) (ci := 5) dc_X10_list_105 ln_10_178 im_X5_canBeParts (by decide) rfl rfl mk_X5_canBeParts rfl (Nat.le_of_ble_eq_true rfl) (Nat.le_refl _) (v := (some (.inl (b2i (F_X5_canBeParts x2 x3 (-1) s4))))) (σ1 := s4) (lk_X5_canBeParts l d (by omega) x2 x3 (-1) s4 _ rfl) _ rfl ?_
      rcases Decidable.em (¬ (F_X5_canBeParts x2 x3 (-1) s4) = true) with hc | hc
      · replace h := (if_neg hc).symm.trans h
        have h9 := Option.some.inj h
        subst h9
        exact go_SX (M1 := m_X10_demandArgument) (as := [.inl (b2i (F_X5_canBeParts x2 x3 (-1) s4))]) (st := []) dc_X10_list_108 ln_10_98 sm_X10_demandArgument rfl mk_X10_demandArgument rfl (Nat.le_of_ble_eq_true rfl) (Nat.le_refl _) (lkX_X10_demandArgument l d hl (by omega) _ hc LAYC s4) _ rfl
      replace hc := Decidable.not_not.mp hc
      replace h := (if_pos hc).symm.trans h
      refine go_S (M1 := m_X10_demandArgument) (as := [.inl (b2i (F_X5_canBeParts x2 x3 (-1) s4))]) (st := []) dc_X10_list_108 ln_10_98 sm_X10_demandArgument mk_X10_demandArgument rfl (Nat.le_of_ble_eq_true rfl) (Nat.le_refl _) (v := none) (σ1 := s4) (lk_X10_demandArgument l d _ hc _ s4) _ rfl ?_
      refine go_ops ok_X10_list_111_2 (L' := [some (.inr 0), some (.inl x1), some (.inl x2), some (.inl x3), some (.inl x4), none, none, none]) (st' := [.inl 2, .inl x4]) (σ1 := s4) rfl ?_
      refine go_icmp_ne dc_X10_list_114 (by rfl) (fun hc => ?_) (fun hc => ?_)
      · replace h := (if_neg hc).symm.trans h
        refine go_ops ok_X10_list_122_1 (L' := [some (.inr 0), some (.inl x1), some (.inl x2), some (.inl x3), some (.inl x4), none, none, none]) (st' := [.inl 6]) (σ1 := s4) rfl ?_
        exact hB_X10_list_124 x1 x2 x3 x4 6 s4 h
      · replace h := (if_pos hc).symm.trans h
        refine go_ops ok_X10_list_117_1 (L' := [some (.inr 0), some (.inl x1), some (.inl x2), some (.inl x3), some (.inl x4), none, none, none]) (st' := [.inl 7]) (σ1 := s4) rfl ?_
        refine go_goto dc_X10_list_119 (by rfl) ?_
        exact hB_X10_list_124 x1 x2 x3 x4 7 s4 h
    refine go_ops ok_X10_list_0_3 (L' := [some (.inr 0), some (.inl a1), some (.inl a2), some (.inl a3), some (.inl a4), none, none, none]) (st' := [.inl 2, .inl 0, .inl a1]) (σ1 := σ) rfl ?_
    refine go_S (M1 := m_X10_isIn) (as := [.inl a1, .inl 0, .inl 2]) (st := []) dc_X10_list_3 ln_10_94 sm_X10_isIn mk_X10_isIn rfl (Nat.le_of_ble_eq_true rfl) (Nat.le_refl _) (v := (some (.inl (b2i (F_X10_isIn a1 0 2))))) (σ1 := σ) (lk_X10_isIn l d (by omega) a1 0 2 σ _ rfl) _ rfl ?_
    obtain ⟨v1, e2, h⟩ := bnd_inv h
    refine go_ops ok_X10_list_6_3 (L' := [some (.inr 0), some (.inl a1), some (.inl a2), some (.inl a3), some (.inl a4), some (.inl (b2i v1)), none, none]) (st' := [.inl (b2i v1), .inr 0]) (σ1 := σ) (by subst e2; rfl) ?_
    refine go_ifb_eq dc_X10_list_11 (by rfl) (fun hc => ?_) (fun hc => ?_)
    · replace h := (if_neg hc).symm.trans h
      refine go_ops ok_X10_list_18_1 (L' := [some (.inr 0), some (.inl a1), some (.inl a2), some (.inl a3), some (.inl a4), some (.inl (b2i v1)), none, none]) (st' := [.inl 0, .inr 0]) (σ1 := σ) rfl ?_
      exact hB_X10_list_19 a1 a2 a3 a4 v1 0 σ h
    · replace h := (if_pos hc).symm.trans h
      refine go_ops ok_X10_list_14_1 (L' := [some (.inr 0), some (.inl a1), some (.inl a2), some (.inl a3), some (.inl a4), some (.inl (b2i v1)), none, none]) (st' := [.inl a1, .inr 0]) (σ1 := σ) rfl ?_
      refine go_goto dc_X10_list_15 (by rfl) ?_
      exact hB_X10_list_19 a1 a2 a3 a4 v1 a1 σ h
  have hf := go_co (as := [.inr 0, .inl a1, .inl a2, .inl a3, .inl a4]) mk_X10_list (fun _ _ => by decide +kernel) (by rfl) (Nat.le_of_ble_eq_true rfl) key
  exact hf
theorem dc_X10_setView_1 : decode m_X10_setView.2.2.1 1 = .ok (.invokestatic 187, 3) := by decide +kernel
theorem dc_X10_setView_4 : decode m_X10_setView.2.2.1 4 = .ok (.invokestatic 90, 3) := by decide +kernel
theorem dc_X10_setView_12 : decode m_X10_setView.2.2.1 12 = .ok (.invokestatic 94, 3) := by decide +kernel
theorem dc_X10_setView_15 : decode m_X10_setView.2.2.1 15 = .ok (.ifCond .eq 30, 3) := by decide +kernel
theorem dc_X10_setView_23 : decode m_X10_setView.2.2.1 23 = .ok (.invokestatic 94, 3) := by decide +kernel
theorem dc_X10_setView_26 : decode m_X10_setView.2.2.1 26 = .ok (.ifCond .eq 19, 3) := by decide +kernel
theorem dc_X10_setView_35 : decode m_X10_setView.2.2.1 35 = .ok (.invokestatic 94, 3) := by decide +kernel
theorem dc_X10_setView_38 : decode m_X10_setView.2.2.1 38 = .ok (.ifCond .eq 7, 3) := by decide +kernel
theorem dc_X10_setView_42 : decode m_X10_setView.2.2.1 42 = .ok (.goto 4, 3) := by decide +kernel
theorem dc_X10_setView_46 : decode m_X10_setView.2.2.1 46 = .ok (.invokestatic 98, 3) := by decide +kernel
theorem dc_X10_setView_54 : decode m_X10_setView.2.2.1 54 = .ok (.invokestatic 94, 3) := by decide +kernel
theorem dc_X10_setView_57 : decode m_X10_setView.2.2.1 57 = .ok (.invokestatic 98, 3) := by decide +kernel
theorem dc_X10_setView_61 : decode m_X10_setView.2.2.1 61 = .ok (.invokevirtual 115, 3) := by decide +kernel
theorem dc_X10_setView_75 : decode m_X10_setView.2.2.1 75 = .ok (.invokevirtual 193, 3) := by decide +kernel
theorem dc_X10_setView_78 : decode m_X10_setView.2.2.1 78 = .ok (.ireturn, 1) := by decide +kernel
theorem ok_X10_setView_0_1 : oks m_X10_setView.1 m_X10_setView.2.2.1 0 [(.iload_n 1, 1, (0, 0, 0))] = true ∧ plen 0 [(.iload_n 1, 1, (0, 0, 0))] = 1 := by decide +kernel
theorem ok_X10_setView_7_3 : oks m_X10_setView.1 m_X10_setView.2.2.1 7 [(.iload_n 2, 1, (0, 0, 0)), (.bipush (-9), 2, (0, 0, 0)), (.bipush 9, 2, (0, 0, 0))] = true ∧ plen 7 [(.iload_n 2, 1, (0, 0, 0)), (.bipush (-9), 2, (0, 0, 0)), (.bipush 9, 2, (0, 0, 0))] = 12 := by decide +kernel
theorem ok_X10_setView_18_3 : oks m_X10_setView.1 m_X10_setView.2.2.1 18 [(.iload_n 3, 1, (0, 0, 0)), (.bipush (-9), 2, (0, 0, 0)), (.bipush 9, 2, (0, 0, 0))] = true ∧ plen 18 [(.iload_n 3, 1, (0, 0, 0)), (.bipush (-9), 2, (0, 0, 0)), (.bipush 9, 2, (0, 0, 0))] = 23 := by decide +kernel
theorem ok_X10_setView_29_3 : oks m_X10_setView.1 m_X10_setView.2.2.1 29 [(.iload 4, 2, (0, 0, 0)), (.bipush (-9), 2, (0, 0, 0)), (.bipush 9, 2, (0, 0, 0))] = true ∧ plen 29 [(.iload 4, 2, (0, 0, 0)), (.bipush (-9), 2, (0, 0, 0)), (.bipush 9, 2, (0, 0, 0))] = 35 := by decide +kernel
theorem ok_X10_setView_41_1 : oks m_X10_setView.1 m_X10_setView.2.2.1 41 [(.iconst 1, 1, (0, 0, 0))] = true ∧ plen 41 [(.iconst 1, 1, (0, 0, 0))] = 42 := by decide +kernel
theorem ok_X10_setView_45_1 : oks m_X10_setView.1 m_X10_setView.2.2.1 45 [(.iconst 0, 1, (0, 0, 0))] = true ∧ plen 45 [(.iconst 0, 1, (0, 0, 0))] = 46 := by decide +kernel
theorem ok_X10_setView_49_3 : oks m_X10_setView.1 m_X10_setView.2.2.1 49 [(.iload 5, 2, (0, 0, 0)), (.iconst 1, 1, (0, 0, 0)), (.bipush 10, 2, (0, 0, 0))] = true ∧ plen 49 [(.iload 5, 2, (0, 0, 0)), (.iconst 1, 1, (0, 0, 0)), (.bipush 10, 2, (0, 0, 0))] = 54 := by decide +kernel
theorem ok_X10_setView_60_1 : oks m_X10_setView.1 m_X10_setView.2.2.1 60 [(.aload_n 0, 1, (0, 0, 0))] = true ∧ plen 60 [(.aload_n 0, 1, (0, 0, 0))] = 61 := by decide +kernel
theorem ok_X10_setView_64_7 : oks m_X10_setView.1 m_X10_setView.2.2.1 64 [(.aload_n 0, 1, (0, 0, 0)), (.getfield 33, 3, (10, 3, 0)), (.iload_n 1, 1, (0, 0, 0)), (.iload_n 2, 1, (0, 0, 0)), (.iload_n 3, 1, (0, 0, 0)), (.iload 4, 2, (0, 0, 0)), (.iload 5, 2, (0, 0, 0))] = true ∧ plen 64 [(.aload_n 0, 1, (0, 0, 0)), (.getfield 33, 3, (10, 3, 0)), (.iload_n 1, 1, (0, 0, 0)), (.iload_n 2, 1, (0, 0, 0)), (.iload_n 3, 1, (0, 0, 0)), (.iload 4, 2, (0, 0, 0)), (.iload 5, 2, (0, 0, 0))] = 75 := by decide +kernel
def B_X10_setView_46 (x1 : Int) (x2 : Int) (x3 : Int) (x4 : Int) (x5 : Int) (y0 : Bool) (σ : Sg) : Option ((Int ⊕ Nat) × Sg) :=
if y0 = true then
if (F_X10_isIn x5 1 10) = true then
bnd (F_X10_forgetEngines σ) fun q1 =>
bnd (F_X9_change x1 x2 x3 x4 x5 q1) fun q3 =>
some (.inl q3.1, q3.2)
else some (.inr 1, σ)
else some (.inr 1, σ)
def B_X10_setView_45 (x1 : Int) (x2 : Int) (x3 : Int) (x4 : Int) (x5 : Int) (σ : Sg) : Option ((Int ⊕ Nat) × Sg) :=
B_X10_setView_46 x1 x2 x3 x4 x5 false σ
def F_X10_setView (a1 : Int) (a2 : Int) (a3 : Int) (a4 : Int) (a5 : Int) (σ : Sg) : Option ((Int ⊕ Nat) × Sg) :=
if (F_X10_isView a1) = true then
if (F_X10_isIn a2 (-9) 9) = true then
if (F_X10_isIn a3 (-9) 9) = true then
if (F_X10_isIn a4 (-9) 9) = true then
B_X10_setView_46 a1 a2 a3 a4 a5 true σ
else
B_X10_setView_45 a1 a2 a3 a4 a5 σ
else
B_X10_setView_45 a1 a2 a3 a4 a5 σ
else
B_X10_setView_45 a1 a2 a3 a4 a5 σ
else some (.inr 0, σ)
theorem lk_X10_setView (l : Launch) (hl : l.stackTraces = false) (d : Nat) (hd : 7 ≤ d) (a1 : Int) (a2 : Int) (a3 : Int) (a4 : Int) (a5 : Int) (σ : Sg) (q : ((Int ⊕ Nat) × Sg)) (h : F_X10_setView a1 a2 a3 a4 a5 σ = some q) : outZ (ozI q.1) l d m_X10_setView.2.1 m_X10_setView.2.2.1 m_X10_setView.2.2.2.1 m_X10_setView.2.2.2.2 [.inr 0, .inl a1, .inl a2, .inl a3, .inl a4, .inl a5] (LAYC, σ) (LAYC, q.2) := by
  obtain ⟨d, rfl⟩ : ∃ e, d = e + 1 := ⟨d - 1, by omega⟩
  have key : Go l m_X10_setView (d + 1) LAYC (ozI q.1) q.2 0 [some (.inr 0), some (.inl a1), some (.inl a2), some (.inl a3), some (.inl a4), some (.inl a5)] [] σ := by
    unfold F_X10_setView at h
    have hB_X10_setView_46 : ∀ (x1 : Int) (x2 : Int) (x3 : Int) (x4 : Int) (x5 : Int) (y0 : Bool) (σ : Sg), B_X10_setView_46 x1 x2 x3 x4 x5 y0 σ = some q → Go l m_X10_setView (d + 1) LAYC (ozI q.1) q.2 46 [some (.inr 0), some (.inl x1), some (.inl x2), some (.inl x3), some (.inl x4), some (.inl x5)] [.inl (b2i y0)] σ := by
      intro x1 x2 x3 x4 x5 y0 σ h
      unfold B_X10_setView_46 at h
      rcases Decidable.em (¬ y0 = true) with hc | hc
      · replace h := (if_neg hc).symm.trans h
        have h9 := Option.some.inj h
        subst h9
        exact go_SX (M1 := m_X10_demandArgument) (as := [.inl (b2i y0)]) (st := []) dc_X10_setView_46 ln_10_98 sm_X10_demandArgument rfl mk_X10_demandArgument rfl (Nat.le_of_ble_eq_true rfl) (Nat.le_refl _) (lkX_X10_demandArgument l d hl (by omega) _ hc LAYC σ) _ rfl
      replace hc := Decidable.not_not.mp hc
      replace h := (if_pos hc).symm.trans h
      refine go_S (M1 := m_X10_demandArgument) (as := [.inl (b2i y0)]) (st := []) dc_X10_setView_46 ln_10_98 sm_X10_demandArgument mk_X10_demandArgument rfl (Nat.le_of_ble_eq_true rfl) (Nat.le_refl _) (v := none) (σ1 := σ) (lk_X10_demandArgument l d _ hc _ σ) _ rfl ?_
      refine go_ops ok_X10_setView_49_3 (L' := [some (.inr 0), some (.inl x1), some (.inl x2), some (.inl x3), some (.inl x4), some (.inl x5)]) (st' := [.inl 10, .inl 1, .inl x5]) (σ1 := σ) rfl ?_
      refine go_S (M1 := m_X10_isIn) (as := [.inl x5, .inl 1, .inl 10]) (st := []) dc_X10_setView_54 ln_10_94 sm_X10_isIn mk_X10_isIn rfl (Nat.le_of_ble_eq_true rfl) (Nat.le_refl _) (v := (some (.inl (b2i (F_X10_isIn x5 1 10))))) (σ1 := σ) (lk_X10_isIn l d (by omega) x5 1 10 σ _ rfl) _ rfl ?_
      rcases Decidable.em (¬ (F_X10_isIn x5 1 10) = true) with hc | hc
      · replace h := (if_neg hc).symm.trans h
        have h9 := Option.some.inj h
        subst h9
        exact go_SX (M1 := m_X10_demandArgument) (as := [.inl (b2i (F_X10_isIn x5 1 10))]) (st := []) dc_X10_setView_57 ln_10_98 sm_X10_demandArgument rfl mk_X10_demandArgument rfl (Nat.le_of_ble_eq_true rfl) (Nat.le_refl _) (lkX_X10_demandArgument l d hl (by omega) _ hc LAYC σ) _ rfl
      replace hc := Decidable.not_not.mp hc
      replace h := (if_pos hc).symm.trans h
      refine go_S (M1 := m_X10_demandArgument) (as := [.inl (b2i (F_X10_isIn x5 1 10))]) (st := []) dc_X10_setView_57 ln_10_98 sm_X10_demandArgument mk_X10_demandArgument rfl (Nat.le_of_ble_eq_true rfl) (Nat.le_refl _) (v := none) (σ1 := σ) (lk_X10_demandArgument l d _ hc _ σ) _ rfl ?_
      refine go_ops ok_X10_setView_60_1 (L' := [some (.inr 0), some (.inl x1), some (.inl x2), some (.inl x3), some (.inl x4), some (.inl x5)]) (st' := [.inr 0]) (σ1 := σ) rfl ?_
      obtain ⟨q1, e2, h⟩ := bnd_inv h
      refine go_V (M1 := m_X10_forgetEngines) (as := []) (st := []) (k := 0) (ci := 10) dc_X10_setView_61 ln_10_115 im_X10_forgetEngines (by decide) rfl rfl mk_X10_forgetEngines rfl (Nat.le_of_ble_eq_true rfl) (Nat.le_refl _) (v := none) (σ1 := q1) (lk_X10_forgetEngines l d (by omega) σ q1 e2.symm) _ rfl ?_
      refine go_ops ok_X10_setView_64_7 (L' := [some (.inr 0), some (.inl x1), some (.inl x2), some (.inl x3), some (.inl x4), some (.inl x5)]) (st' := [.inl x5, .inl x4, .inl x3, .inl x2, .inl x1, .inr 22]) (σ1 := q1) rfl ?_
      obtain ⟨q3, e4, h⟩ := bnd_inv h
      refine go_V (M1 := m_X9_change) (as := [.inl x1, .inl x2, .inl x3, .inl x4, .inl x5]) (st := []) (k := 22) (ci := 9) dc_X10_setView_75 ln_10_193 im_X9_change (by decide) rfl rfl mk_X9_change rfl (Nat.le_of_ble_eq_true rfl) (Nat.le_refl _) (v := (some (.inl q3.1))) (σ1 := q3.2) (lk_X9_change l d (by omega) x1 x2 x3 x4 x5 q1 q3 e4.symm) _ rfl ?_
      have h9 := Option.some.inj h
      subst h9
      exact go_iret dc_X10_setView_78 rfl
    have hB_X10_setView_45 : ∀ (x1 : Int) (x2 : Int) (x3 : Int) (x4 : Int) (x5 : Int) (σ : Sg), B_X10_setView_45 x1 x2 x3 x4 x5 σ = some q → Go l m_X10_setView (d + 1) LAYC (ozI q.1) q.2 45 [some (.inr 0), some (.inl x1), some (.inl x2), some (.inl x3), some (.inl x4), some (.inl x5)] [] σ := by
      intro x1 x2 x3 x4 x5 σ h
      unfold B_X10_setView_45 at h
      refine go_ops ok_X10_setView_45_1 (L' := [some (.inr 0), some (.inl x1), some (.inl x2), some (.inl x3), some (.inl x4), some (.inl x5)]) (st' := [.inl 0]) (σ1 := σ) rfl ?_
      exact hB_X10_setView_46 x1 x2 x3 x4 x5 false σ h
    refine go_ops ok_X10_setView_0_1 (L' := [some (.inr 0), some (.inl a1), some (.inl a2), some (.inl a3), some (.inl a4), some (.inl a5)]) (st' := [.inl a1]) (σ1 := σ) rfl ?_
    refine go_S (M1 := m_X10_isView) (as := [.inl a1]) (st := []) dc_X10_setView_1 ln_10_187 sm_X10_isView mk_X10_isView rfl (Nat.le_of_ble_eq_true rfl) (Nat.le_refl _) (v := (some (.inl (b2i (F_X10_isView a1))))) (σ1 := σ) (lk_X10_isView l d (by omega) a1 σ _ rfl) _ rfl ?_
    rcases Decidable.em (¬ (F_X10_isView a1) = true) with hc | hc
    · replace h := (if_neg hc).symm.trans h
      have h9 := Option.some.inj h
      subst h9
      exact go_SX (M1 := m_X10_demandIndex) (as := [.inl (b2i (F_X10_isView a1))]) (st := []) dc_X10_setView_4 ln_10_90 sm_X10_demandIndex rfl mk_X10_demandIndex rfl (Nat.le_of_ble_eq_true rfl) (Nat.le_refl _) (lkX_X10_demandIndex l d hl (by omega) _ hc LAYC σ) _ rfl
    replace hc := Decidable.not_not.mp hc
    replace h := (if_pos hc).symm.trans h
    refine go_S (M1 := m_X10_demandIndex) (as := [.inl (b2i (F_X10_isView a1))]) (st := []) dc_X10_setView_4 ln_10_90 sm_X10_demandIndex mk_X10_demandIndex rfl (Nat.le_of_ble_eq_true rfl) (Nat.le_refl _) (v := none) (σ1 := σ) (lk_X10_demandIndex l d _ hc _ σ) _ rfl ?_
    refine go_ops ok_X10_setView_7_3 (L' := [some (.inr 0), some (.inl a1), some (.inl a2), some (.inl a3), some (.inl a4), some (.inl a5)]) (st' := [.inl 9, .inl (-9), .inl a2]) (σ1 := σ) rfl ?_
    refine go_S (M1 := m_X10_isIn) (as := [.inl a2, .inl (-9), .inl 9]) (st := []) dc_X10_setView_12 ln_10_94 sm_X10_isIn mk_X10_isIn rfl (Nat.le_of_ble_eq_true rfl) (Nat.le_refl _) (v := (some (.inl (b2i (F_X10_isIn a2 (-9) 9))))) (σ1 := σ) (lk_X10_isIn l d (by omega) a2 (-9) 9 σ _ rfl) _ rfl ?_
    refine go_ifb_eq dc_X10_setView_15 (by rfl) (fun hc => ?_) (fun hc => ?_)
    · replace h := (if_neg hc).symm.trans h
      exact hB_X10_setView_45 a1 a2 a3 a4 a5 σ h
    · replace h := (if_pos hc).symm.trans h
      refine go_ops ok_X10_setView_18_3 (L' := [some (.inr 0), some (.inl a1), some (.inl a2), some (.inl a3), some (.inl a4), some (.inl a5)]) (st' := [.inl 9, .inl (-9), .inl a3]) (σ1 := σ) rfl ?_
      refine go_S (M1 := m_X10_isIn) (as := [.inl a3, .inl (-9), .inl 9]) (st := []) dc_X10_setView_23 ln_10_94 sm_X10_isIn mk_X10_isIn rfl (Nat.le_of_ble_eq_true rfl) (Nat.le_refl _) (v := (some (.inl (b2i (F_X10_isIn a3 (-9) 9))))) (σ1 := σ) (lk_X10_isIn l d (by omega) a3 (-9) 9 σ _ rfl) _ rfl ?_
      refine go_ifb_eq dc_X10_setView_26 (by rfl) (fun hc => ?_) (fun hc => ?_)
      · replace h := (if_neg hc).symm.trans h
        exact hB_X10_setView_45 a1 a2 a3 a4 a5 σ h
      · replace h := (if_pos hc).symm.trans h
        refine go_ops ok_X10_setView_29_3 (L' := [some (.inr 0), some (.inl a1), some (.inl a2), some (.inl a3), some (.inl a4), some (.inl a5)]) (st' := [.inl 9, .inl (-9), .inl a4]) (σ1 := σ) rfl ?_
        refine go_S (M1 := m_X10_isIn) (as := [.inl a4, .inl (-9), .inl 9]) (st := []) dc_X10_setView_35 ln_10_94 sm_X10_isIn mk_X10_isIn rfl (Nat.le_of_ble_eq_true rfl) (Nat.le_refl _) (v := (some (.inl (b2i (F_X10_isIn a4 (-9) 9))))) (σ1 := σ) (lk_X10_isIn l d (by omega) a4 (-9) 9 σ _ rfl) _ rfl ?_
        refine go_ifb_eq dc_X10_setView_38 (by rfl) (fun hc => ?_) (fun hc => ?_)
        · replace h := (if_neg hc).symm.trans h
          exact hB_X10_setView_45 a1 a2 a3 a4 a5 σ h
        · replace h := (if_pos hc).symm.trans h
          refine go_ops ok_X10_setView_41_1 (L' := [some (.inr 0), some (.inl a1), some (.inl a2), some (.inl a3), some (.inl a4), some (.inl a5)]) (st' := [.inl 1]) (σ1 := σ) rfl ?_
          refine go_goto dc_X10_setView_42 (by rfl) ?_
          exact hB_X10_setView_46 a1 a2 a3 a4 a5 true σ h
  have hf := go_co (as := [.inr 0, .inl a1, .inl a2, .inl a3, .inl a4, .inl a5]) mk_X10_setView (fun _ _ => by decide +kernel) (by rfl) (Nat.le_of_ble_eq_true rfl) key
  exact hf
theorem dc_X10_begin_3 : decode m_X10_begin.2.2.1 3 = .ok (.invokestatic 94, 3) := by decide +kernel
theorem dc_X10_begin_6 : decode m_X10_begin.2.2.1 6 = .ok (.invokestatic 98, 3) := by decide +kernel
theorem dc_X10_begin_15 : decode m_X10_begin.2.2.1 15 = .ok (.if_icmp .ge 47, 3) := by decide +kernel
theorem dc_X10_begin_24 : decode m_X10_begin.2.2.1 24 = .ok (.invokestatic 101, 3) := by decide +kernel
theorem dc_X10_begin_32 : decode m_X10_begin.2.2.1 32 = .ok (.if_icmp .ge 11, 3) := by decide +kernel
theorem dc_X10_begin_37 : decode m_X10_begin.2.2.1 37 = .ok (.invokestatic 105, 3) := by decide +kernel
theorem dc_X10_begin_40 : decode m_X10_begin.2.2.1 40 = .ok (.goto 13, 3) := by decide +kernel
theorem dc_X10_begin_45 : decode m_X10_begin.2.2.1 45 = .ok (.ifCond .ne 7, 3) := by decide +kernel
theorem dc_X10_begin_49 : decode m_X10_begin.2.2.1 49 = .ok (.goto 4, 3) := by decide +kernel
theorem dc_X10_begin_53 : decode m_X10_begin.2.2.1 53 = .ok (.invokestatic 98, 3) := by decide +kernel
theorem dc_X10_begin_59 : decode m_X10_begin.2.2.1 59 = .ok (.goto (-47), 3) := by decide +kernel
theorem dc_X10_begin_63 : decode m_X10_begin.2.2.1 63 = .ok (.invokevirtual 115, 3) := by decide +kernel
theorem dc_X10_begin_70 : decode m_X10_begin.2.2.1 70 = .ok (.invokevirtual 196, 3) := by decide +kernel
theorem dc_X10_begin_82 : decode m_X10_begin.2.2.1 82 = .ok (.invokevirtual 199, 3) := by decide +kernel
theorem dc_X10_begin_85 : decode m_X10_begin.2.2.1 85 = .ok (.ireturn, 1) := by decide +kernel
theorem ok_X10_begin_0_3 : oks m_X10_begin.1 m_X10_begin.2.2.1 0 [(.iload_n 1, 1, (0, 0, 0)), (.iconst 1, 1, (0, 0, 0)), (.iconst 3, 1, (0, 0, 0))] = true ∧ plen 0 [(.iload_n 1, 1, (0, 0, 0)), (.iconst 1, 1, (0, 0, 0)), (.iconst 3, 1, (0, 0, 0))] = 3 := by decide +kernel
theorem ok_X10_begin_9_2 : oks m_X10_begin.1 m_X10_begin.2.2.1 9 [(.iconst 0, 1, (0, 0, 0)), (.istore 5, 2, (0, 0, 0))] = true ∧ plen 9 [(.iconst 0, 1, (0, 0, 0)), (.istore 5, 2, (0, 0, 0))] = 12 := by decide +kernel
theorem ok_X10_begin_12_2 : oks m_X10_begin.1 m_X10_begin.2.2.1 12 [(.iload 5, 2, (0, 0, 0)), (.iconst 3, 1, (0, 0, 0))] = true ∧ plen 12 [(.iload 5, 2, (0, 0, 0)), (.iconst 3, 1, (0, 0, 0))] = 15 := by decide +kernel
theorem ok_X10_begin_18_4 : oks m_X10_begin.1 m_X10_begin.2.2.1 18 [(.iload 5, 2, (0, 0, 0)), (.iload_n 2, 1, (0, 0, 0)), (.iload_n 3, 1, (0, 0, 0)), (.iload 4, 2, (0, 0, 0))] = true ∧ plen 18 [(.iload 5, 2, (0, 0, 0)), (.iload_n 2, 1, (0, 0, 0)), (.iload_n 3, 1, (0, 0, 0)), (.iload 4, 2, (0, 0, 0))] = 24 := by decide +kernel
theorem ok_X10_begin_27_3 : oks m_X10_begin.1 m_X10_begin.2.2.1 27 [(.istore 6, 2, (0, 0, 0)), (.iload 5, 2, (0, 0, 0)), (.iload_n 1, 1, (0, 0, 0))] = true ∧ plen 27 [(.istore 6, 2, (0, 0, 0)), (.iload 5, 2, (0, 0, 0)), (.iload_n 1, 1, (0, 0, 0))] = 32 := by decide +kernel
theorem ok_X10_begin_35_1 : oks m_X10_begin.1 m_X10_begin.2.2.1 35 [(.iload 6, 2, (0, 0, 0))] = true ∧ plen 35 [(.iload 6, 2, (0, 0, 0))] = 37 := by decide +kernel
theorem ok_X10_begin_43_1 : oks m_X10_begin.1 m_X10_begin.2.2.1 43 [(.iload 6, 2, (0, 0, 0))] = true ∧ plen 43 [(.iload 6, 2, (0, 0, 0))] = 45 := by decide +kernel
theorem ok_X10_begin_48_1 : oks m_X10_begin.1 m_X10_begin.2.2.1 48 [(.iconst 1, 1, (0, 0, 0))] = true ∧ plen 48 [(.iconst 1, 1, (0, 0, 0))] = 49 := by decide +kernel
theorem ok_X10_begin_52_1 : oks m_X10_begin.1 m_X10_begin.2.2.1 52 [(.iconst 0, 1, (0, 0, 0))] = true ∧ plen 52 [(.iconst 0, 1, (0, 0, 0))] = 53 := by decide +kernel
theorem ok_X10_begin_56_1 : oks m_X10_begin.1 m_X10_begin.2.2.1 56 [(.iinc 5 1, 3, (0, 0, 0))] = true ∧ plen 56 [(.iinc 5 1, 3, (0, 0, 0))] = 59 := by decide +kernel
theorem ok_X10_begin_62_1 : oks m_X10_begin.1 m_X10_begin.2.2.1 62 [(.aload_n 0, 1, (0, 0, 0))] = true ∧ plen 62 [(.aload_n 0, 1, (0, 0, 0))] = 63 := by decide +kernel
theorem ok_X10_begin_66_2 : oks m_X10_begin.1 m_X10_begin.2.2.1 66 [(.aload_n 0, 1, (0, 0, 0)), (.getfield 49, 3, (10, 5, 0))] = true ∧ plen 66 [(.aload_n 0, 1, (0, 0, 0)), (.getfield 49, 3, (10, 5, 0))] = 70 := by decide +kernel
theorem ok_X10_begin_73_6 : oks m_X10_begin.1 m_X10_begin.2.2.1 73 [(.aload_n 0, 1, (0, 0, 0)), (.getfield 40, 3, (10, 4, 0)), (.iload_n 1, 1, (0, 0, 0)), (.iload_n 2, 1, (0, 0, 0)), (.iload_n 3, 1, (0, 0, 0)), (.iload 4, 2, (0, 0, 0))] = true ∧ plen 73 [(.aload_n 0, 1, (0, 0, 0)), (.getfield 40, 3, (10, 4, 0)), (.iload_n 1, 1, (0, 0, 0)), (.iload_n 2, 1, (0, 0, 0)), (.iload_n 3, 1, (0, 0, 0)), (.iload 4, 2, (0, 0, 0))] = 82 := by decide +kernel
def B_X10_begin_53 (x5 : Int) (y0 : Bool) (σ : Sg) : Option (Int ⊕ (Unit ⊕ ((Int ⊕ Nat) × Sg))) :=
if y0 = true then
some (.inl (wrap (x5 + 1)))
else some (.inr (.inr (.inr 1, σ)))
def L_X10_begin_12 (x1 : Int) (x2 : Int) (x3 : Int) (x4 : Int) (σ : Sg) (x5 : Int) : Option (Int ⊕ (Unit ⊕ ((Int ⊕ Nat) × Sg))) :=
if 3 ≤ x5 then
some (.inr (.inl ()))
else
bnd (F_X10_pick x5 x2 x3 x4) fun v1 =>
if x1 ≤ x5 then
if v1 = 0 then
B_X10_begin_53 x5 true σ
else
B_X10_begin_53 x5 false σ
else
B_X10_begin_53 x5 (F_X2_isKind v1) σ
def F_X10_begin (a1 : Int) (a2 : Int) (a3 : Int) (a4 : Int) (σ : Sg) : Option ((Int ⊕ Nat) × Sg) :=
if (F_X10_isIn a1 1 3) = true then
(iter (fun a : Int => L_X10_begin_12 a1 a2 a3 a4 σ a) 4 0).bind fun y3 => Sum.elim (fun z5 =>
bnd (F_X10_forgetEngines σ) fun q7 =>
bnd (F_X1_clear q7) fun q9 =>
(F_X4_start a1 a2 a3 a4 q9).bind fun q11 =>
some (.inl q11.1, q11.2)) (fun r6 => some r6) y3
else some (.inr 1, σ)
theorem lk_X10_begin (l : Launch) (hl : l.stackTraces = false) (d : Nat) (hd : 7 ≤ d) (a1 : Int) (a2 : Int) (a3 : Int) (a4 : Int) (σ : Sg) (q : ((Int ⊕ Nat) × Sg)) (h : F_X10_begin a1 a2 a3 a4 σ = some q) : outZ (ozI q.1) l d m_X10_begin.2.1 m_X10_begin.2.2.1 m_X10_begin.2.2.2.1 m_X10_begin.2.2.2.2 [.inr 0, .inl a1, .inl a2, .inl a3, .inl a4] (LAYC, σ) (LAYC, q.2) := by
  obtain ⟨d, rfl⟩ : ∃ e, d = e + 1 := ⟨d - 1, by omega⟩
  have key : Go l m_X10_begin (d + 1) LAYC (ozI q.1) q.2 0 [some (.inr 0), some (.inl a1), some (.inl a2), some (.inl a3), some (.inl a4), none, none] [] σ := by
    unfold F_X10_begin at h
    have hL_X10_begin_12 : ∀ (x1 : Int) (x2 : Int) (x3 : Int) (x4 : Int) (σ : Sg) (n : Nat) (a : Int) (y : (Unit ⊕ ((Int ⊕ Nat) × Sg))), iter (fun a : Int => L_X10_begin_12 x1 x2 x3 x4 σ a) n a = some y → (Sum.elim (fun y : Unit => Go l m_X10_begin (d + 1) LAYC (ozI q.1) q.2 62 [some (.inr 0), some (.inl x1), some (.inl x2), some (.inl x3), some (.inl x4), none, none] [] σ) (fun r : ((Int ⊕ Nat) × Sg) => r = q)) y → (fun a : Int => Go l m_X10_begin (d + 1) LAYC (ozI q.1) q.2 12 [some (.inr 0), some (.inl x1), some (.inl x2), some (.inl x3), some (.inl x4), some (.inl a), none] [] σ) a := by
      intro x1 x2 x3 x4 σ
      refine go_iter (G := fun a : Int => Go l m_X10_begin (d + 1) LAYC (ozI q.1) q.2 12 [some (.inr 0), some (.inl x1), some (.inl x2), some (.inl x3), some (.inl x4), some (.inl a), none] [] σ) (K := Sum.elim (fun y : Unit => Go l m_X10_begin (d + 1) LAYC (ozI q.1) q.2 62 [some (.inr 0), some (.inl x1), some (.inl x2), some (.inl x3), some (.inl x4), none, none] [] σ) (fun r : ((Int ⊕ Nat) × Sg) => r = q)) ?_
      rintro x5 w h hK
      replace h : L_X10_begin_12 x1 x2 x3 x4 σ x5 = some w := h
      show Go l m_X10_begin (d + 1) LAYC (ozI q.1) q.2 12 [some (.inr 0), some (.inl x1), some (.inl x2), some (.inl x3), some (.inl x4), some (.inl x5), none] [] σ
      unfold L_X10_begin_12 at h
      have hB_X10_begin_53 : ∀ (x5 : Int) (y0 : Bool), B_X10_begin_53 x5 y0 σ = some w → Go l m_X10_begin (d + 1) LAYC (ozI q.1) q.2 53 [some (.inr 0), some (.inl x1), some (.inl x2), some (.inl x3), some (.inl x4), some (.inl x5), none] [.inl (b2i y0)] σ := by
        intro x5 y0 h
        unfold B_X10_begin_53 at h
        rcases Decidable.em (¬ y0 = true) with hc | hc
        · replace h := (if_neg hc).symm.trans h
          cases h
          have hK2 : _ = q := hK
          subst hK2
          exact go_SX (M1 := m_X10_demandArgument) (as := [.inl (b2i y0)]) (st := []) dc_X10_begin_53 ln_10_98 sm_X10_demandArgument rfl mk_X10_demandArgument rfl (Nat.le_of_ble_eq_true rfl) (Nat.le_refl _) (lkX_X10_demandArgument l d hl (by omega) _ hc LAYC σ) _ rfl
        replace hc := Decidable.not_not.mp hc
        replace h := (if_pos hc).symm.trans h
        refine go_S (M1 := m_X10_demandArgument) (as := [.inl (b2i y0)]) (st := []) dc_X10_begin_53 ln_10_98 sm_X10_demandArgument mk_X10_demandArgument rfl (Nat.le_of_ble_eq_true rfl) (Nat.le_refl _) (v := none) (σ1 := σ) (lk_X10_demandArgument l d _ hc _ σ) _ rfl ?_
        refine go_ops ok_X10_begin_56_1 (L' := [some (.inr 0), some (.inl x1), some (.inl x2), some (.inl x3), some (.inl x4), some (.inl (wrap (x5 + 1))), none]) (st' := []) (σ1 := σ) rfl ?_
        refine go_goto dc_X10_begin_59 (by rfl) ?_
        cases h
        exact hK
      refine go_ops ok_X10_begin_12_2 (L' := [some (.inr 0), some (.inl x1), some (.inl x2), some (.inl x3), some (.inl x4), some (.inl x5), none]) (st' := [.inl 3, .inl x5]) (σ1 := σ) rfl ?_
      refine go_icmp_ge dc_X10_begin_15 (by rfl) (fun hc => ?_) (fun hc => ?_)
      · replace h := (if_pos hc).symm.trans h
        cases h
        refine go_wk (L' := [some (.inr 0), some (.inl x1), some (.inl x2), some (.inl x3), some (.inl x4), none, none]) ⟨rfl, rfl, rfl, rfl, rfl, trivial⟩ ?_
        exact hK
      · replace h := (if_neg hc).symm.trans h
        refine go_ops ok_X10_begin_18_4 (L' := [some (.inr 0), some (.inl x1), some (.inl x2), some (.inl x3), some (.inl x4), some (.inl x5), none]) (st' := [.inl x4, .inl x3, .inl x2, .inl x5]) (σ1 := σ) rfl ?_
        refine go_S (M1 := m_X10_pick) (as := [.inl x5, .inl x2, .inl x3, .inl x4]) (st := []) dc_X10_begin_24 ln_10_101 sm_X10_pick mk_X10_pick rfl (Nat.le_of_ble_eq_true rfl) (Nat.le_refl _) (v := (some (.inl (F_X10_pick x5 x2 x3 x4)))) (σ1 := σ) (lk_X10_pick l d (by omega) x5 x2 x3 x4 σ _ rfl) _ rfl ?_
        obtain ⟨v1, e2, h⟩ := bnd_inv h
        refine go_ops ok_X10_begin_27_3 (L' := [some (.inr 0), some (.inl x1), some (.inl x2), some (.inl x3), some (.inl x4), some (.inl x5), some (.inl v1)]) (st' := [.inl x1, .inl x5]) (σ1 := σ) (by subst e2; rfl) ?_
        refine go_icmp_ge dc_X10_begin_32 (by rfl) (fun hc => ?_) (fun hc => ?_)
        · replace h := (if_pos hc).symm.trans h
          refine go_ops ok_X10_begin_43_1 (L' := [some (.inr 0), some (.inl x1), some (.inl x2), some (.inl x3), some (.inl x4), some (.inl x5), some (.inl v1)]) (st' := [.inl v1]) (σ1 := σ) rfl ?_
          refine go_if_ne dc_X10_begin_45 (by rfl) (fun hc => ?_) (fun hc => ?_)
          · replace h := (if_neg hc).symm.trans h
            refine go_ops ok_X10_begin_52_1 (L' := [some (.inr 0), some (.inl x1), some (.inl x2), some (.inl x3), some (.inl x4), some (.inl x5), some (.inl v1)]) (st' := [.inl 0]) (σ1 := σ) rfl ?_
            refine go_wk (L' := [some (.inr 0), some (.inl x1), some (.inl x2), some (.inl x3), some (.inl x4), some (.inl x5), none]) ⟨rfl, rfl, rfl, rfl, rfl, rfl, trivial⟩ ?_
            exact hB_X10_begin_53 x5 false h
          · replace h := (if_pos hc).symm.trans h
            refine go_ops ok_X10_begin_48_1 (L' := [some (.inr 0), some (.inl x1), some (.inl x2), some (.inl x3), some (.inl x4), some (.inl x5), some (.inl v1)]) (st' := [.inl 1]) (σ1 := σ) rfl ?_
            refine go_goto dc_X10_begin_49 (by rfl) ?_
            refine go_wk (L' := [some (.inr 0), some (.inl x1), some (.inl x2), some (.inl x3), some (.inl x4), some (.inl x5), none]) ⟨rfl, rfl, rfl, rfl, rfl, rfl, trivial⟩ ?_
            exact hB_X10_begin_53 x5 true h
        · replace h := (if_neg hc).symm.trans h
          refine go_ops ok_X10_begin_35_1 (L' := [some (.inr 0), some (.inl x1), some (.inl x2), some (.inl x3), some (.inl x4), some (.inl x5), some (.inl v1)]) (st' := [.inl v1]) (σ1 := σ) rfl ?_
          refine go_S (M1 := m_X2_isKind) (as := [.inl v1]) (st := []) dc_X10_begin_37 ln_10_105 sm_X2_isKind mk_X2_isKind rfl (Nat.le_of_ble_eq_true rfl) (Nat.le_refl _) (v := (some (.inl (b2i (F_X2_isKind v1))))) (σ1 := σ) (lk_X2_isKind l d (by omega) v1 σ _ rfl) _ rfl ?_
          refine go_goto dc_X10_begin_40 (by rfl) ?_
          refine go_wk (L' := [some (.inr 0), some (.inl x1), some (.inl x2), some (.inl x3), some (.inl x4), some (.inl x5), none]) ⟨rfl, rfl, rfl, rfl, rfl, rfl, trivial⟩ ?_
          exact hB_X10_begin_53 x5 (F_X2_isKind v1) h
    refine go_ops ok_X10_begin_0_3 (L' := [some (.inr 0), some (.inl a1), some (.inl a2), some (.inl a3), some (.inl a4), none, none]) (st' := [.inl 3, .inl 1, .inl a1]) (σ1 := σ) rfl ?_
    refine go_S (M1 := m_X10_isIn) (as := [.inl a1, .inl 1, .inl 3]) (st := []) dc_X10_begin_3 ln_10_94 sm_X10_isIn mk_X10_isIn rfl (Nat.le_of_ble_eq_true rfl) (Nat.le_refl _) (v := (some (.inl (b2i (F_X10_isIn a1 1 3))))) (σ1 := σ) (lk_X10_isIn l d (by omega) a1 1 3 σ _ rfl) _ rfl ?_
    rcases Decidable.em (¬ (F_X10_isIn a1 1 3) = true) with hc | hc
    · replace h := (if_neg hc).symm.trans h
      have h9 := Option.some.inj h
      subst h9
      exact go_SX (M1 := m_X10_demandArgument) (as := [.inl (b2i (F_X10_isIn a1 1 3))]) (st := []) dc_X10_begin_6 ln_10_98 sm_X10_demandArgument rfl mk_X10_demandArgument rfl (Nat.le_of_ble_eq_true rfl) (Nat.le_refl _) (lkX_X10_demandArgument l d hl (by omega) _ hc LAYC σ) _ rfl
    replace hc := Decidable.not_not.mp hc
    replace h := (if_pos hc).symm.trans h
    refine go_S (M1 := m_X10_demandArgument) (as := [.inl (b2i (F_X10_isIn a1 1 3))]) (st := []) dc_X10_begin_6 ln_10_98 sm_X10_demandArgument mk_X10_demandArgument rfl (Nat.le_of_ble_eq_true rfl) (Nat.le_refl _) (v := none) (σ1 := σ) (lk_X10_demandArgument l d _ hc _ σ) _ rfl ?_
    refine go_ops ok_X10_begin_9_2 (L' := [some (.inr 0), some (.inl a1), some (.inl a2), some (.inl a3), some (.inl a4), some (.inl 0), none]) (st' := []) (σ1 := σ) rfl ?_
    obtain ⟨y3, e4, h⟩ := bind_inv h
    refine hL_X10_begin_12 a1 a2 a3 a4 σ 4 0 y3 e4 ?_
    rcases y3 with z5 | r6
    rotate_left
    · show r6 = q
      cases h; rfl
    show Go l m_X10_begin (d + 1) LAYC (ozI q.1) q.2 62 [some (.inr 0), some (.inl a1), some (.inl a2), some (.inl a3), some (.inl a4), none, none] [] σ
    rw [Sum.elim_inl] at h
    refine go_ops ok_X10_begin_62_1 (L' := [some (.inr 0), some (.inl a1), some (.inl a2), some (.inl a3), some (.inl a4), none, none]) (st' := [.inr 0]) (σ1 := σ) rfl ?_
    obtain ⟨q7, e8, h⟩ := bnd_inv h
    refine go_V (M1 := m_X10_forgetEngines) (as := []) (st := []) (k := 0) (ci := 10) dc_X10_begin_63 ln_10_115 im_X10_forgetEngines (by decide) rfl rfl mk_X10_forgetEngines rfl (Nat.le_of_ble_eq_true rfl) (Nat.le_refl _) (v := none) (σ1 := q7) (lk_X10_forgetEngines l d (by omega) σ q7 e8.symm) _ rfl ?_
    refine go_ops ok_X10_begin_66_2 (L' := [some (.inr 0), some (.inl a1), some (.inl a2), some (.inl a3), some (.inl a4), none, none]) (st' := [.inr 27]) (σ1 := q7) rfl ?_
    obtain ⟨q9, e10, h⟩ := bnd_inv h
    refine go_V (M1 := m_X1_clear) (as := []) (st := []) (k := 27) (ci := 1) dc_X10_begin_70 ln_10_196 im_X1_clear (by decide) rfl rfl mk_X1_clear rfl (Nat.le_of_ble_eq_true rfl) (Nat.le_refl _) (v := none) (σ1 := q9) (lk_X1_clear l d (by omega) q7 q9 e10.symm) _ rfl ?_
    refine go_ops ok_X10_begin_73_6 (L' := [some (.inr 0), some (.inl a1), some (.inl a2), some (.inl a3), some (.inl a4), none, none]) (st' := [.inl a4, .inl a3, .inl a2, .inl a1, .inr 24]) (σ1 := q9) rfl ?_
    obtain ⟨q11, e12, h⟩ := bind_inv h
    refine go_V (M1 := m_X4_start) (as := [.inl a1, .inl a2, .inl a3, .inl a4]) (st := []) (k := 24) (ci := 4) dc_X10_begin_82 ln_10_199 im_X4_start (by decide) rfl rfl mk_X4_start rfl (Nat.le_of_ble_eq_true rfl) (Nat.le_refl _) (v := (some (.inl q11.1))) (σ1 := q11.2) (lk_X4_start l d (by omega) a1 a2 a3 a4 q9 q11 e12) _ rfl ?_
    have h9 := Option.some.inj h
    subst h9
    exact go_iret dc_X10_begin_85 rfl
  have hf := go_co (as := [.inr 0, .inl a1, .inl a2, .inl a3, .inl a4]) mk_X10_begin (fun _ _ => by decide +kernel) (by rfl) (Nat.le_of_ble_eq_true rfl) key
  exact hf
theorem dc_X10_add_4 : decode m_X10_add.2.2.1 4 = .ok (.invokevirtual 202, 3) := by decide +kernel
theorem dc_X10_add_15 : decode m_X10_add.2.2.1 15 = .ok (.invokevirtual 172, 3) := by decide +kernel
theorem dc_X10_add_24 : decode m_X10_add.2.2.1 24 = .ok (.if_icmp .ge 61, 3) := by decide +kernel
theorem dc_X10_add_32 : decode m_X10_add.2.2.1 32 = .ok (.invokestatic 101, 3) := by decide +kernel
theorem dc_X10_add_41 : decode m_X10_add.2.2.1 41 = .ok (.if_icmp .ge 24, 3) := by decide +kernel
theorem dc_X10_add_56 : decode m_X10_add.2.2.1 56 = .ok (.invokevirtual 206, 3) := by decide +kernel
theorem dc_X10_add_59 : decode m_X10_add.2.2.1 59 = .ok (.invokevirtual 175, 3) := by decide +kernel
theorem dc_X10_add_62 : decode m_X10_add.2.2.1 62 = .ok (.goto 14, 3) := by decide +kernel
theorem dc_X10_add_68 : decode m_X10_add.2.2.1 68 = .ok (.if_icmp .ne 7, 3) := by decide +kernel
theorem dc_X10_add_72 : decode m_X10_add.2.2.1 72 = .ok (.goto 4, 3) := by decide +kernel
theorem dc_X10_add_76 : decode m_X10_add.2.2.1 76 = .ok (.invokestatic 98, 3) := by decide +kernel
theorem dc_X10_add_82 : decode m_X10_add.2.2.1 82 = .ok (.goto (-61), 3) := by decide +kernel
theorem dc_X10_add_92 : decode m_X10_add.2.2.1 92 = .ok (.invokevirtual 207, 3) := by decide +kernel
theorem dc_X10_add_95 : decode m_X10_add.2.2.1 95 = .ok (.invokestatic 98, 3) := by decide +kernel
theorem dc_X10_add_103 : decode m_X10_add.2.2.1 103 = .ok (.invokestatic 94, 3) := by decide +kernel
theorem dc_X10_add_106 : decode m_X10_add.2.2.1 106 = .ok (.invokestatic 98, 3) := by decide +kernel
theorem dc_X10_add_113 : decode m_X10_add.2.2.1 113 = .ok (.invokevirtual 210, 3) := by decide +kernel
theorem dc_X10_add_116 : decode m_X10_add.2.2.1 116 = .ok (.ifCond .eq 19, 3) := by decide +kernel
theorem dc_X10_add_123 : decode m_X10_add.2.2.1 123 = .ok (.invokevirtual 212, 3) := by decide +kernel
theorem dc_X10_add_128 : decode m_X10_add.2.2.1 128 = .ok (.if_icmp .ge 7, 3) := by decide +kernel
theorem dc_X10_add_132 : decode m_X10_add.2.2.1 132 = .ok (.goto 4, 3) := by decide +kernel
theorem dc_X10_add_136 : decode m_X10_add.2.2.1 136 = .ok (.invokestatic 112, 3) := by decide +kernel
theorem dc_X10_add_140 : decode m_X10_add.2.2.1 140 = .ok (.invokevirtual 115, 3) := by decide +kernel
theorem dc_X10_add_152 : decode m_X10_add.2.2.1 152 = .ok (.invokevirtual 215, 3) := by decide +kernel
theorem dc_X10_add_155 : decode m_X10_add.2.2.1 155 = .ok (.ireturn, 1) := by decide +kernel
theorem ok_X10_add_0_2 : oks m_X10_add.1 m_X10_add.2.2.1 0 [(.aload_n 0, 1, (0, 0, 0)), (.getfield 40, 3, (10, 4, 0))] = true ∧ plen 0 [(.aload_n 0, 1, (0, 0, 0)), (.getfield 40, 3, (10, 4, 0))] = 4 := by decide +kernel
theorem ok_X10_add_7_6 : oks m_X10_add.1 m_X10_add.2.2.1 7 [(.istore 5, 2, (0, 0, 0)), (.aload_n 0, 1, (0, 0, 0)), (.iload 5, 2, (0, 0, 0)), (.iload_n 1, 1, (0, 0, 0)), (.iload_n 2, 1, (0, 0, 0)), (.iload_n 3, 1, (0, 0, 0))] = true ∧ plen 7 [(.istore 5, 2, (0, 0, 0)), (.aload_n 0, 1, (0, 0, 0)), (.iload 5, 2, (0, 0, 0)), (.iload_n 1, 1, (0, 0, 0)), (.iload_n 2, 1, (0, 0, 0)), (.iload_n 3, 1, (0, 0, 0))] = 15 := by decide +kernel
theorem ok_X10_add_18_2 : oks m_X10_add.1 m_X10_add.2.2.1 18 [(.iconst 0, 1, (0, 0, 0)), (.istore 6, 2, (0, 0, 0))] = true ∧ plen 18 [(.iconst 0, 1, (0, 0, 0)), (.istore 6, 2, (0, 0, 0))] = 21 := by decide +kernel
theorem ok_X10_add_21_2 : oks m_X10_add.1 m_X10_add.2.2.1 21 [(.iload 6, 2, (0, 0, 0)), (.iconst 3, 1, (0, 0, 0))] = true ∧ plen 21 [(.iload 6, 2, (0, 0, 0)), (.iconst 3, 1, (0, 0, 0))] = 24 := by decide +kernel
theorem ok_X10_add_27_4 : oks m_X10_add.1 m_X10_add.2.2.1 27 [(.iload 6, 2, (0, 0, 0)), (.iload_n 1, 1, (0, 0, 0)), (.iload_n 2, 1, (0, 0, 0)), (.iload_n 3, 1, (0, 0, 0))] = true ∧ plen 27 [(.iload 6, 2, (0, 0, 0)), (.iload_n 1, 1, (0, 0, 0)), (.iload_n 2, 1, (0, 0, 0)), (.iload_n 3, 1, (0, 0, 0))] = 32 := by decide +kernel
theorem ok_X10_add_35_3 : oks m_X10_add.1 m_X10_add.2.2.1 35 [(.istore 7, 2, (0, 0, 0)), (.iload 6, 2, (0, 0, 0)), (.iload 5, 2, (0, 0, 0))] = true ∧ plen 35 [(.istore 7, 2, (0, 0, 0)), (.iload 6, 2, (0, 0, 0)), (.iload 5, 2, (0, 0, 0))] = 41 := by decide +kernel
theorem ok_X10_add_44_6 : oks m_X10_add.1 m_X10_add.2.2.1 44 [(.aload_n 0, 1, (0, 0, 0)), (.getfield 26, 3, (10, 2, 0)), (.iload 7, 2, (0, 0, 0)), (.aload_n 0, 1, (0, 0, 0)), (.getfield 40, 3, (10, 4, 0)), (.iload 6, 2, (0, 0, 0))] = true ∧ plen 44 [(.aload_n 0, 1, (0, 0, 0)), (.getfield 26, 3, (10, 2, 0)), (.iload 7, 2, (0, 0, 0)), (.aload_n 0, 1, (0, 0, 0)), (.getfield 40, 3, (10, 4, 0)), (.iload 6, 2, (0, 0, 0))] = 56 := by decide +kernel
theorem ok_X10_add_65_2 : oks m_X10_add.1 m_X10_add.2.2.1 65 [(.iload 7, 2, (0, 0, 0)), (.iconst (-1), 1, (0, 0, 0))] = true ∧ plen 65 [(.iload 7, 2, (0, 0, 0)), (.iconst (-1), 1, (0, 0, 0))] = 68 := by decide +kernel
theorem ok_X10_add_71_1 : oks m_X10_add.1 m_X10_add.2.2.1 71 [(.iconst 1, 1, (0, 0, 0))] = true ∧ plen 71 [(.iconst 1, 1, (0, 0, 0))] = 72 := by decide +kernel
theorem ok_X10_add_75_1 : oks m_X10_add.1 m_X10_add.2.2.1 75 [(.iconst 0, 1, (0, 0, 0))] = true ∧ plen 75 [(.iconst 0, 1, (0, 0, 0))] = 76 := by decide +kernel
theorem ok_X10_add_79_1 : oks m_X10_add.1 m_X10_add.2.2.1 79 [(.iinc 6 1, 3, (0, 0, 0))] = true ∧ plen 79 [(.iinc 6 1, 3, (0, 0, 0))] = 82 := by decide +kernel
theorem ok_X10_add_85_5 : oks m_X10_add.1 m_X10_add.2.2.1 85 [(.aload_n 0, 1, (0, 0, 0)), (.getfield 26, 3, (10, 2, 0)), (.iload_n 1, 1, (0, 0, 0)), (.iload_n 2, 1, (0, 0, 0)), (.iload_n 3, 1, (0, 0, 0))] = true ∧ plen 85 [(.aload_n 0, 1, (0, 0, 0)), (.getfield 26, 3, (10, 2, 0)), (.iload_n 1, 1, (0, 0, 0)), (.iload_n 2, 1, (0, 0, 0)), (.iload_n 3, 1, (0, 0, 0))] = 92 := by decide +kernel
theorem ok_X10_add_98_3 : oks m_X10_add.1 m_X10_add.2.2.1 98 [(.iload 4, 2, (0, 0, 0)), (.iconst 0, 1, (0, 0, 0)), (.bipush 99, 2, (0, 0, 0))] = true ∧ plen 98 [(.iload 4, 2, (0, 0, 0)), (.iconst 0, 1, (0, 0, 0)), (.bipush 99, 2, (0, 0, 0))] = 103 := by decide +kernel
theorem ok_X10_add_109_2 : oks m_X10_add.1 m_X10_add.2.2.1 109 [(.aload_n 0, 1, (0, 0, 0)), (.getfield 40, 3, (10, 4, 0))] = true ∧ plen 109 [(.aload_n 0, 1, (0, 0, 0)), (.getfield 40, 3, (10, 4, 0))] = 113 := by decide +kernel
theorem ok_X10_add_119_2 : oks m_X10_add.1 m_X10_add.2.2.1 119 [(.aload_n 0, 1, (0, 0, 0)), (.getfield 40, 3, (10, 4, 0))] = true ∧ plen 119 [(.aload_n 0, 1, (0, 0, 0)), (.getfield 40, 3, (10, 4, 0))] = 123 := by decide +kernel
theorem ok_X10_add_126_1 : oks m_X10_add.1 m_X10_add.2.2.1 126 [(.bipush 8, 2, (0, 0, 0))] = true ∧ plen 126 [(.bipush 8, 2, (0, 0, 0))] = 128 := by decide +kernel
theorem ok_X10_add_131_1 : oks m_X10_add.1 m_X10_add.2.2.1 131 [(.iconst 1, 1, (0, 0, 0))] = true ∧ plen 131 [(.iconst 1, 1, (0, 0, 0))] = 132 := by decide +kernel
theorem ok_X10_add_135_1 : oks m_X10_add.1 m_X10_add.2.2.1 135 [(.iconst 0, 1, (0, 0, 0))] = true ∧ plen 135 [(.iconst 0, 1, (0, 0, 0))] = 136 := by decide +kernel
theorem ok_X10_add_139_1 : oks m_X10_add.1 m_X10_add.2.2.1 139 [(.aload_n 0, 1, (0, 0, 0))] = true ∧ plen 139 [(.aload_n 0, 1, (0, 0, 0))] = 140 := by decide +kernel
theorem ok_X10_add_143_6 : oks m_X10_add.1 m_X10_add.2.2.1 143 [(.aload_n 0, 1, (0, 0, 0)), (.getfield 40, 3, (10, 4, 0)), (.iload_n 1, 1, (0, 0, 0)), (.iload_n 2, 1, (0, 0, 0)), (.iload_n 3, 1, (0, 0, 0)), (.iload 4, 2, (0, 0, 0))] = true ∧ plen 143 [(.aload_n 0, 1, (0, 0, 0)), (.getfield 40, 3, (10, 4, 0)), (.iload_n 1, 1, (0, 0, 0)), (.iload_n 2, 1, (0, 0, 0)), (.iload_n 3, 1, (0, 0, 0)), (.iload 4, 2, (0, 0, 0))] = 152 := by decide +kernel
def B_X10_add_76 (x6 : Int) (y0 : Bool) (σ : Sg) : Option (Int ⊕ (Unit ⊕ ((Int ⊕ Nat) × Sg))) :=
if y0 = true then
some (.inl (wrap (x6 + 1)))
else some (.inr (.inr (.inr 1, σ)))
def L_X10_add_21 (x1 : Int) (x2 : Int) (x3 : Int) (x5 : Int) (σ : Sg) (x6 : Int) : Option (Int ⊕ (Unit ⊕ ((Int ⊕ Nat) × Sg))) :=
if 3 ≤ x6 then
some (.inr (.inl ()))
else
bnd (F_X10_pick x6 x1 x2 x3) fun v6 =>
if x5 ≤ x6 then
if v6 = (-1) then
B_X10_add_76 x6 true σ
else
B_X10_add_76 x6 false σ
else
B_X10_add_76 x6 (F_X5_fits v6 (F_X4_kindOf x6 σ) σ) σ
def B_X10_add_136 (x1 : Int) (x2 : Int) (x3 : Int) (x4 : Int) (y0 : Bool) (σ : Sg) : Option ((Int ⊕ Nat) × Sg) :=
if y0 = true then
bnd (F_X10_forgetEngines σ) fun q12 =>
(F_X4_append x1 x2 x3 x4 q12).bind fun q14 =>
some (.inl q14.1, q14.2)
else some (.inr 2, σ)
def B_X10_add_135 (x1 : Int) (x2 : Int) (x3 : Int) (x4 : Int) (σ : Sg) : Option ((Int ⊕ Nat) × Sg) :=
B_X10_add_136 x1 x2 x3 x4 false σ
def F_X10_add (a1 : Int) (a2 : Int) (a3 : Int) (a4 : Int) (σ : Sg) : Option ((Int ⊕ Nat) × Sg) :=
bnd (F_X4_columns σ) fun v1 =>
xb (F_X10_demandPatterns v1 a1 a2 a3 σ) (fun E σ => some (.inr E, σ)) fun v3 s4 =>
(iter (fun a : Int => L_X10_add_21 a1 a2 a3 v1 s4 a) 4 0).bind fun y8 => Sum.elim (fun z10 =>
if (F_X5_bindApart a1 a2 a3 s4) = true then
if (F_X10_isIn a4 0 99) = true then
if (F_X4_isThere s4) = true then
if 8 ≤ (F_X4_count s4) then
B_X10_add_135 a1 a2 a3 a4 s4
else
B_X10_add_136 a1 a2 a3 a4 true s4
else
B_X10_add_135 a1 a2 a3 a4 s4
else some (.inr 1, s4)
else some (.inr 1, s4)) (fun r11 => some r11) y8
theorem lk_X10_add (l : Launch) (hl : l.stackTraces = false) (d : Nat) (hd : 8 ≤ d) (a1 : Int) (a2 : Int) (a3 : Int) (a4 : Int) (σ : Sg) (q : ((Int ⊕ Nat) × Sg)) (h : F_X10_add a1 a2 a3 a4 σ = some q) : outZ (ozI q.1) l d m_X10_add.2.1 m_X10_add.2.2.1 m_X10_add.2.2.2.1 m_X10_add.2.2.2.2 [.inr 0, .inl a1, .inl a2, .inl a3, .inl a4] (LAYC, σ) (LAYC, q.2) := by
  obtain ⟨d, rfl⟩ : ∃ e, d = e + 1 := ⟨d - 1, by omega⟩
  have key : Go l m_X10_add (d + 1) LAYC (ozI q.1) q.2 0 [some (.inr 0), some (.inl a1), some (.inl a2), some (.inl a3), some (.inl a4), none, none, none] [] σ := by
    unfold F_X10_add at h
    have hL_X10_add_21 : ∀ (x1 : Int) (x2 : Int) (x3 : Int) (x4 : Int) (x5 : Int) (σ : Sg) (n : Nat) (a : Int) (y : (Unit ⊕ ((Int ⊕ Nat) × Sg))), iter (fun a : Int => L_X10_add_21 x1 x2 x3 x5 σ a) n a = some y → (Sum.elim (fun y : Unit => Go l m_X10_add (d + 1) LAYC (ozI q.1) q.2 85 [some (.inr 0), some (.inl x1), some (.inl x2), some (.inl x3), some (.inl x4), none, none, none] [] σ) (fun r : ((Int ⊕ Nat) × Sg) => r = q)) y → (fun a : Int => Go l m_X10_add (d + 1) LAYC (ozI q.1) q.2 21 [some (.inr 0), some (.inl x1), some (.inl x2), some (.inl x3), some (.inl x4), some (.inl x5), some (.inl a), none] [] σ) a := by
      intro x1 x2 x3 x4 x5 σ
      refine go_iter (G := fun a : Int => Go l m_X10_add (d + 1) LAYC (ozI q.1) q.2 21 [some (.inr 0), some (.inl x1), some (.inl x2), some (.inl x3), some (.inl x4), some (.inl x5), some (.inl a), none] [] σ) (K := Sum.elim (fun y : Unit => Go l m_X10_add (d + 1) LAYC (ozI q.1) q.2 85 [some (.inr 0), some (.inl x1), some (.inl x2), some (.inl x3), some (.inl x4), none, none, none] [] σ) (fun r : ((Int ⊕ Nat) × Sg) => r = q)) ?_
      rintro x6 w h hK
      replace h : L_X10_add_21 x1 x2 x3 x5 σ x6 = some w := h
      show Go l m_X10_add (d + 1) LAYC (ozI q.1) q.2 21 [some (.inr 0), some (.inl x1), some (.inl x2), some (.inl x3), some (.inl x4), some (.inl x5), some (.inl x6), none] [] σ
      unfold L_X10_add_21 at h
      have hB_X10_add_76 : ∀ (x6 : Int) (y0 : Bool), B_X10_add_76 x6 y0 σ = some w → Go l m_X10_add (d + 1) LAYC (ozI q.1) q.2 76 [some (.inr 0), some (.inl x1), some (.inl x2), some (.inl x3), some (.inl x4), some (.inl x5), some (.inl x6), none] [.inl (b2i y0)] σ := by
        intro x6 y0 h
        unfold B_X10_add_76 at h
        rcases Decidable.em (¬ y0 = true) with hc | hc
        · replace h := (if_neg hc).symm.trans h
          cases h
          have hK2 : _ = q := hK
          subst hK2
          exact go_SX (M1 := m_X10_demandArgument) (as := [.inl (b2i y0)]) (st := []) dc_X10_add_76 ln_10_98 sm_X10_demandArgument rfl mk_X10_demandArgument rfl (Nat.le_of_ble_eq_true rfl) (Nat.le_refl _) (lkX_X10_demandArgument l d hl (by omega) _ hc LAYC σ) _ rfl
        replace hc := Decidable.not_not.mp hc
        replace h := (if_pos hc).symm.trans h
        refine go_S (M1 := m_X10_demandArgument) (as := [.inl (b2i y0)]) (st := []) dc_X10_add_76 ln_10_98 sm_X10_demandArgument mk_X10_demandArgument rfl (Nat.le_of_ble_eq_true rfl) (Nat.le_refl _) (v := none) (σ1 := σ) (lk_X10_demandArgument l d _ hc _ σ) _ rfl ?_
        refine go_ops ok_X10_add_79_1 (L' := [some (.inr 0), some (.inl x1), some (.inl x2), some (.inl x3), some (.inl x4), some (.inl x5), some (.inl (wrap (x6 + 1))), none]) (st' := []) (σ1 := σ) rfl ?_
        refine go_goto dc_X10_add_82 (by rfl) ?_
        cases h
        exact hK
      refine go_ops ok_X10_add_21_2 (L' := [some (.inr 0), some (.inl x1), some (.inl x2), some (.inl x3), some (.inl x4), some (.inl x5), some (.inl x6), none]) (st' := [.inl 3, .inl x6]) (σ1 := σ) rfl ?_
      refine go_icmp_ge dc_X10_add_24 (by rfl) (fun hc => ?_) (fun hc => ?_)
      · replace h := (if_pos hc).symm.trans h
        cases h
        refine go_wk (L' := [some (.inr 0), some (.inl x1), some (.inl x2), some (.inl x3), some (.inl x4), none, none, none]) ⟨rfl, rfl, rfl, rfl, rfl, trivial⟩ ?_
        exact hK
      · replace h := (if_neg hc).symm.trans h
        refine go_ops ok_X10_add_27_4 (L' := [some (.inr 0), some (.inl x1), some (.inl x2), some (.inl x3), some (.inl x4), some (.inl x5), some (.inl x6), none]) (st' := [.inl x3, .inl x2, .inl x1, .inl x6]) (σ1 := σ) rfl ?_
        refine go_S (M1 := m_X10_pick) (as := [.inl x6, .inl x1, .inl x2, .inl x3]) (st := []) dc_X10_add_32 ln_10_101 sm_X10_pick mk_X10_pick rfl (Nat.le_of_ble_eq_true rfl) (Nat.le_refl _) (v := (some (.inl (F_X10_pick x6 x1 x2 x3)))) (σ1 := σ) (lk_X10_pick l d (by omega) x6 x1 x2 x3 σ _ rfl) _ rfl ?_
        obtain ⟨v6, e7, h⟩ := bnd_inv h
        refine go_ops ok_X10_add_35_3 (L' := [some (.inr 0), some (.inl x1), some (.inl x2), some (.inl x3), some (.inl x4), some (.inl x5), some (.inl x6), some (.inl v6)]) (st' := [.inl x5, .inl x6]) (σ1 := σ) (by subst e7; rfl) ?_
        refine go_icmp_ge dc_X10_add_41 (by rfl) (fun hc => ?_) (fun hc => ?_)
        · replace h := (if_pos hc).symm.trans h
          refine go_ops ok_X10_add_65_2 (L' := [some (.inr 0), some (.inl x1), some (.inl x2), some (.inl x3), some (.inl x4), some (.inl x5), some (.inl x6), some (.inl v6)]) (st' := [.inl (-1), .inl v6]) (σ1 := σ) rfl ?_
          refine go_icmp_ne dc_X10_add_68 (by rfl) (fun hc => ?_) (fun hc => ?_)
          · replace h := (if_neg hc).symm.trans h
            refine go_ops ok_X10_add_75_1 (L' := [some (.inr 0), some (.inl x1), some (.inl x2), some (.inl x3), some (.inl x4), some (.inl x5), some (.inl x6), some (.inl v6)]) (st' := [.inl 0]) (σ1 := σ) rfl ?_
            refine go_wk (L' := [some (.inr 0), some (.inl x1), some (.inl x2), some (.inl x3), some (.inl x4), some (.inl x5), some (.inl x6), none]) ⟨rfl, rfl, rfl, rfl, rfl, rfl, rfl, trivial⟩ ?_
            exact hB_X10_add_76 x6 false h
          · replace h := (if_pos hc).symm.trans h
            refine go_ops ok_X10_add_71_1 (L' := [some (.inr 0), some (.inl x1), some (.inl x2), some (.inl x3), some (.inl x4), some (.inl x5), some (.inl x6), some (.inl v6)]) (st' := [.inl 1]) (σ1 := σ) rfl ?_
            refine go_goto dc_X10_add_72 (by rfl) ?_
            refine go_wk (L' := [some (.inr 0), some (.inl x1), some (.inl x2), some (.inl x3), some (.inl x4), some (.inl x5), some (.inl x6), none]) ⟨rfl, rfl, rfl, rfl, rfl, rfl, rfl, trivial⟩ ?_
            exact hB_X10_add_76 x6 true h
        · replace h := (if_neg hc).symm.trans h
          refine go_ops ok_X10_add_44_6 (L' := [some (.inr 0), some (.inl x1), some (.inl x2), some (.inl x3), some (.inl x4), some (.inl x5), some (.inl x6), some (.inl v6)]) (st' := [.inl x6, .inr 24, .inl v6, .inr 10]) (σ1 := σ) rfl ?_
          refine go_V (M1 := m_X4_kindOf) (as := [.inl x6]) (st := [.inl v6, .inr 10]) (k := 24) (ci := 4) dc_X10_add_56 ln_10_206 im_X4_kindOf (by decide) rfl rfl mk_X4_kindOf rfl (Nat.le_of_ble_eq_true rfl) (Nat.le_refl _) (v := (some (.inl (F_X4_kindOf x6 σ)))) (σ1 := σ) (lk_X4_kindOf l d (by omega) x6 σ _ rfl) _ rfl ?_
          refine go_V (M1 := m_X5_fits) (as := [.inl v6, .inl (F_X4_kindOf x6 σ)]) (st := []) (k := 10) (ci := 5) dc_X10_add_59 ln_10_175 im_X5_fits (by decide) rfl rfl mk_X5_fits rfl (Nat.le_of_ble_eq_true rfl) (Nat.le_refl _) (v := (some (.inl (b2i (F_X5_fits v6 (F_X4_kindOf x6 σ) σ))))) (σ1 := σ) (lk_X5_fits l d (by omega) v6 (F_X4_kindOf x6 σ) σ _ rfl) _ rfl ?_
          refine go_goto dc_X10_add_62 (by rfl) ?_
          refine go_wk (L' := [some (.inr 0), some (.inl x1), some (.inl x2), some (.inl x3), some (.inl x4), some (.inl x5), some (.inl x6), none]) ⟨rfl, rfl, rfl, rfl, rfl, rfl, rfl, trivial⟩ ?_
          exact hB_X10_add_76 x6 (F_X5_fits v6 (F_X4_kindOf x6 σ) σ) h
    have hB_X10_add_136 : ∀ (x1 : Int) (x2 : Int) (x3 : Int) (x4 : Int) (y0 : Bool) (σ : Sg), B_X10_add_136 x1 x2 x3 x4 y0 σ = some q → Go l m_X10_add (d + 1) LAYC (ozI q.1) q.2 136 [some (.inr 0), some (.inl x1), some (.inl x2), some (.inl x3), some (.inl x4), none, none, none] [.inl (b2i y0)] σ := by
      intro x1 x2 x3 x4 y0 σ h
      unfold B_X10_add_136 at h
      rcases Decidable.em (¬ y0 = true) with hc | hc
      · replace h := (if_neg hc).symm.trans h
        have h9 := Option.some.inj h
        subst h9
        exact go_SX (M1 := m_X10_demandState) (as := [.inl (b2i y0)]) (st := []) dc_X10_add_136 ln_10_112 sm_X10_demandState rfl mk_X10_demandState rfl (Nat.le_of_ble_eq_true rfl) (Nat.le_refl _) (lkX_X10_demandState l d hl (by omega) _ hc LAYC σ) _ rfl
      replace hc := Decidable.not_not.mp hc
      replace h := (if_pos hc).symm.trans h
      refine go_S (M1 := m_X10_demandState) (as := [.inl (b2i y0)]) (st := []) dc_X10_add_136 ln_10_112 sm_X10_demandState mk_X10_demandState rfl (Nat.le_of_ble_eq_true rfl) (Nat.le_refl _) (v := none) (σ1 := σ) (lk_X10_demandState l d _ hc _ σ) _ rfl ?_
      refine go_ops ok_X10_add_139_1 (L' := [some (.inr 0), some (.inl x1), some (.inl x2), some (.inl x3), some (.inl x4), none, none, none]) (st' := [.inr 0]) (σ1 := σ) rfl ?_
      obtain ⟨q12, e13, h⟩ := bnd_inv h
      refine go_V (M1 := m_X10_forgetEngines) (as := []) (st := []) (k := 0) (ci := 10) dc_X10_add_140 ln_10_115 im_X10_forgetEngines (by decide) rfl rfl mk_X10_forgetEngines rfl (Nat.le_of_ble_eq_true rfl) (Nat.le_refl _) (v := none) (σ1 := q12) (lk_X10_forgetEngines l d (by omega) σ q12 e13.symm) _ rfl ?_
      refine go_ops ok_X10_add_143_6 (L' := [some (.inr 0), some (.inl x1), some (.inl x2), some (.inl x3), some (.inl x4), none, none, none]) (st' := [.inl x4, .inl x3, .inl x2, .inl x1, .inr 24]) (σ1 := q12) rfl ?_
      obtain ⟨q14, e15, h⟩ := bind_inv h
      refine go_V (M1 := m_X4_append) (as := [.inl x1, .inl x2, .inl x3, .inl x4]) (st := []) (k := 24) (ci := 4) dc_X10_add_152 ln_10_215 im_X4_append (by decide) rfl rfl mk_X4_append rfl (Nat.le_of_ble_eq_true rfl) (Nat.le_refl _) (v := (some (.inl q14.1))) (σ1 := q14.2) (lk_X4_append l d (by omega) x1 x2 x3 x4 q12 q14 e15) _ rfl ?_
      have h9 := Option.some.inj h
      subst h9
      exact go_iret dc_X10_add_155 rfl
    have hB_X10_add_135 : ∀ (x1 : Int) (x2 : Int) (x3 : Int) (x4 : Int) (σ : Sg), B_X10_add_135 x1 x2 x3 x4 σ = some q → Go l m_X10_add (d + 1) LAYC (ozI q.1) q.2 135 [some (.inr 0), some (.inl x1), some (.inl x2), some (.inl x3), some (.inl x4), none, none, none] [] σ := by
      intro x1 x2 x3 x4 σ h
      unfold B_X10_add_135 at h
      refine go_ops ok_X10_add_135_1 (L' := [some (.inr 0), some (.inl x1), some (.inl x2), some (.inl x3), some (.inl x4), none, none, none]) (st' := [.inl 0]) (σ1 := σ) rfl ?_
      exact hB_X10_add_136 x1 x2 x3 x4 false σ h
    refine go_ops ok_X10_add_0_2 (L' := [some (.inr 0), some (.inl a1), some (.inl a2), some (.inl a3), some (.inl a4), none, none, none]) (st' := [.inr 24]) (σ1 := σ) rfl ?_
    refine go_V (M1 := m_X4_columns) (as := []) (st := []) (k := 24) (ci := 4) dc_X10_add_4 ln_10_202 im_X4_columns (by decide) rfl rfl mk_X4_columns rfl (Nat.le_of_ble_eq_true rfl) (Nat.le_refl _) (v := (some (.inl (F_X4_columns σ)))) (σ1 := σ) (lk_X4_columns l d (by omega) σ _ rfl) _ rfl ?_
    obtain ⟨v1, e2, h⟩ := bnd_inv h
    refine go_ops ok_X10_add_7_6 (L' := [some (.inr 0), some (.inl a1), some (.inl a2), some (.inl a3), some (.inl a4), some (.inl v1), none, none]) (st' := [.inl a3, .inl a2, .inl a1, .inl v1, .inr 0]) (σ1 := σ) (by subst e2; rfl) ?_
    rcases xb_inv h with ⟨E1, s4, e5, h⟩ | ⟨v3, s4, e5, h⟩
    · have h9 := Option.some.inj h
      subst h9
      exact go_VX (M1 := m_X10_demandPatterns) (as := [.inl v1, .inl a1, .inl a2, .inl a3]) (st := []) (k := 0) (ci := 10) dc_X10_add_15 ln_10_172 im_X10_demandPatterns (by decide) rfl rfl mk_X10_demandPatterns rfl (Nat.le_of_ble_eq_true rfl) (Nat.le_refl _) (lk_X10_demandPatterns l hl d (by omega) v1 a1 a2 a3 σ _ e5) _ rfl
    refine go_V (M1 := m_X10_demandPatterns) (as := [.inl v1, .inl a1, .inl a2, .inl a3]) (st := []) (k := 0) (ci := 10) dc_X10_add_15 ln_10_172 im_X10_demandPatterns (by decide) rfl rfl mk_X10_demandPatterns rfl (Nat.le_of_ble_eq_true rfl) (Nat.le_refl _) (v := none) (σ1 := s4) (lk_X10_demandPatterns l hl d (by omega) v1 a1 a2 a3 σ _ e5) _ rfl ?_
    refine go_ops ok_X10_add_18_2 (L' := [some (.inr 0), some (.inl a1), some (.inl a2), some (.inl a3), some (.inl a4), some (.inl v1), some (.inl 0), none]) (st' := []) (σ1 := s4) rfl ?_
    obtain ⟨y8, e9, h⟩ := bind_inv h
    refine hL_X10_add_21 a1 a2 a3 a4 v1 s4 4 0 y8 e9 ?_
    rcases y8 with z10 | r11
    rotate_left
    · show r11 = q
      cases h; rfl
    show Go l m_X10_add (d + 1) LAYC (ozI q.1) q.2 85 [some (.inr 0), some (.inl a1), some (.inl a2), some (.inl a3), some (.inl a4), none, none, none] [] s4
    rw [Sum.elim_inl] at h
    refine go_ops ok_X10_add_85_5 (L' := [some (.inr 0), some (.inl a1), some (.inl a2), some (.inl a3), some (.inl a4), none, none, none]) (st' := [.inl a3, .inl a2, .inl a1, .inr 10]) (σ1 := s4) rfl ?_
    refine go_V (M1 := m_X5_bindApart) (as := [.inl a1, .inl a2, .inl a3]) (st := []) (k := 10) (ci := 5) dc_X10_add_92 ln_10_207 im_X5_bindApart (by decide) rfl rfl mk_X5_bindApart rfl (Nat.le_of_ble_eq_true rfl) (Nat.le_refl _) (v := (some (.inl (b2i (F_X5_bindApart a1 a2 a3 s4))))) (σ1 := s4) (lk_X5_bindApart l d (by omega) a1 a2 a3 s4 _ rfl) _ rfl ?_
    rcases Decidable.em (¬ (F_X5_bindApart a1 a2 a3 s4) = true) with hc | hc
    · replace h := (if_neg hc).symm.trans h
      have h9 := Option.some.inj h
      subst h9
      exact go_SX (M1 := m_X10_demandArgument) (as := [.inl (b2i (F_X5_bindApart a1 a2 a3 s4))]) (st := []) dc_X10_add_95 ln_10_98 sm_X10_demandArgument rfl mk_X10_demandArgument rfl (Nat.le_of_ble_eq_true rfl) (Nat.le_refl _) (lkX_X10_demandArgument l d hl (by omega) _ hc LAYC s4) _ rfl
    replace hc := Decidable.not_not.mp hc
    replace h := (if_pos hc).symm.trans h
    refine go_S (M1 := m_X10_demandArgument) (as := [.inl (b2i (F_X5_bindApart a1 a2 a3 s4))]) (st := []) dc_X10_add_95 ln_10_98 sm_X10_demandArgument mk_X10_demandArgument rfl (Nat.le_of_ble_eq_true rfl) (Nat.le_refl _) (v := none) (σ1 := s4) (lk_X10_demandArgument l d _ hc _ s4) _ rfl ?_
    refine go_ops ok_X10_add_98_3 (L' := [some (.inr 0), some (.inl a1), some (.inl a2), some (.inl a3), some (.inl a4), none, none, none]) (st' := [.inl 99, .inl 0, .inl a4]) (σ1 := s4) rfl ?_
    refine go_S (M1 := m_X10_isIn) (as := [.inl a4, .inl 0, .inl 99]) (st := []) dc_X10_add_103 ln_10_94 sm_X10_isIn mk_X10_isIn rfl (Nat.le_of_ble_eq_true rfl) (Nat.le_refl _) (v := (some (.inl (b2i (F_X10_isIn a4 0 99))))) (σ1 := s4) (lk_X10_isIn l d (by omega) a4 0 99 s4 _ rfl) _ rfl ?_
    rcases Decidable.em (¬ (F_X10_isIn a4 0 99) = true) with hc | hc
    · replace h := (if_neg hc).symm.trans h
      have h9 := Option.some.inj h
      subst h9
      exact go_SX (M1 := m_X10_demandArgument) (as := [.inl (b2i (F_X10_isIn a4 0 99))]) (st := []) dc_X10_add_106 ln_10_98 sm_X10_demandArgument rfl mk_X10_demandArgument rfl (Nat.le_of_ble_eq_true rfl) (Nat.le_refl _) (lkX_X10_demandArgument l d hl (by omega) _ hc LAYC s4) _ rfl
    replace hc := Decidable.not_not.mp hc
    replace h := (if_pos hc).symm.trans h
    refine go_S (M1 := m_X10_demandArgument) (as := [.inl (b2i (F_X10_isIn a4 0 99))]) (st := []) dc_X10_add_106 ln_10_98 sm_X10_demandArgument mk_X10_demandArgument rfl (Nat.le_of_ble_eq_true rfl) (Nat.le_refl _) (v := none) (σ1 := s4) (lk_X10_demandArgument l d _ hc _ s4) _ rfl ?_
    refine go_ops ok_X10_add_109_2 (L' := [some (.inr 0), some (.inl a1), some (.inl a2), some (.inl a3), some (.inl a4), none, none, none]) (st' := [.inr 24]) (σ1 := s4) rfl ?_
    refine go_V (M1 := m_X4_isThere) (as := []) (st := []) (k := 24) (ci := 4) dc_X10_add_113 ln_10_210 im_X4_isThere (by decide) rfl rfl mk_X4_isThere rfl (Nat.le_of_ble_eq_true rfl) (Nat.le_refl _) (v := (some (.inl (b2i (F_X4_isThere s4))))) (σ1 := s4) (lk_X4_isThere l d (by omega) s4 _ rfl) _ rfl ?_
    refine go_ifb_eq dc_X10_add_116 (by rfl) (fun hc => ?_) (fun hc => ?_)
    · replace h := (if_neg hc).symm.trans h
      exact hB_X10_add_135 a1 a2 a3 a4 s4 h
    · replace h := (if_pos hc).symm.trans h
      refine go_ops ok_X10_add_119_2 (L' := [some (.inr 0), some (.inl a1), some (.inl a2), some (.inl a3), some (.inl a4), none, none, none]) (st' := [.inr 24]) (σ1 := s4) rfl ?_
      refine go_V (M1 := m_X4_count) (as := []) (st := []) (k := 24) (ci := 4) dc_X10_add_123 ln_10_212 im_X4_count (by decide) rfl rfl mk_X4_count rfl (Nat.le_of_ble_eq_true rfl) (Nat.le_refl _) (v := (some (.inl (F_X4_count s4)))) (σ1 := s4) (lk_X4_count l d (by omega) s4 _ rfl) _ rfl ?_
      refine go_ops ok_X10_add_126_1 (L' := [some (.inr 0), some (.inl a1), some (.inl a2), some (.inl a3), some (.inl a4), none, none, none]) (st' := [.inl 8, .inl (F_X4_count s4)]) (σ1 := s4) rfl ?_
      refine go_icmp_ge dc_X10_add_128 (by rfl) (fun hc => ?_) (fun hc => ?_)
      · replace h := (if_pos hc).symm.trans h
        exact hB_X10_add_135 a1 a2 a3 a4 s4 h
      · replace h := (if_neg hc).symm.trans h
        refine go_ops ok_X10_add_131_1 (L' := [some (.inr 0), some (.inl a1), some (.inl a2), some (.inl a3), some (.inl a4), none, none, none]) (st' := [.inl 1]) (σ1 := s4) rfl ?_
        refine go_goto dc_X10_add_132 (by rfl) ?_
        exact hB_X10_add_136 a1 a2 a3 a4 true s4 h
  have hf := go_co (as := [.inr 0, .inl a1, .inl a2, .inl a3, .inl a4]) mk_X10_add (fun _ _ => by decide +kernel) (by rfl) (Nat.le_of_ble_eq_true rfl) key
  exact hf
theorem dc_X10_bindsOther_4 : decode m_X10_bindsOther.2.2.1 4 = .ok (.if_icmp .gt 13, 3) := by decide +kernel
theorem dc_X10_bindsOther_11 : decode m_X10_bindsOther.2.2.1 11 = .ok (.invokevirtual 165, 3) := by decide +kernel
theorem dc_X10_bindsOther_14 : decode m_X10_bindsOther.2.2.1 14 = .ok (.ifCond .ne 5, 3) := by decide +kernel
theorem dc_X10_bindsOther_18 : decode m_X10_bindsOther.2.2.1 18 = .ok (.ireturn, 1) := by decide +kernel
theorem dc_X10_bindsOther_21 : decode m_X10_bindsOther.2.2.1 21 = .ok (.invokevirtual 233, 3) := by decide +kernel
theorem dc_X10_bindsOther_28 : decode m_X10_bindsOther.2.2.1 28 = .ok (.invokevirtual 304, 3) := by decide +kernel
theorem dc_X10_bindsOther_36 : decode m_X10_bindsOther.2.2.1 36 = .ok (.if_icmp .ne 21, 3) := by decide +kernel
theorem dc_X10_bindsOther_43 : decode m_X10_bindsOther.2.2.1 43 = .ok (.if_icmp .ne 14, 3) := by decide +kernel
theorem dc_X10_bindsOther_48 : decode m_X10_bindsOther.2.2.1 48 = .ok (.if_icmp .eq 7, 3) := by decide +kernel
theorem dc_X10_bindsOther_52 : decode m_X10_bindsOther.2.2.1 52 = .ok (.goto 4, 3) := by decide +kernel
theorem dc_X10_bindsOther_56 : decode m_X10_bindsOther.2.2.1 56 = .ok (.ireturn, 1) := by decide +kernel
theorem dc_X10_bindsOther_64 : decode m_X10_bindsOther.2.2.1 64 = .ok (.invokevirtual 307, 3) := by decide +kernel
theorem dc_X10_bindsOther_67 : decode m_X10_bindsOther.2.2.1 67 = .ok (.if_icmp .ge 68, 3) := by decide +kernel
theorem dc_X10_bindsOther_76 : decode m_X10_bindsOther.2.2.1 76 = .ok (.if_icmp .ne 17, 3) := by decide +kernel
theorem dc_X10_bindsOther_85 : decode m_X10_bindsOther.2.2.1 85 = .ok (.invokevirtual 148, 3) := by decide +kernel
theorem dc_X10_bindsOther_90 : decode m_X10_bindsOther.2.2.1 90 = .ok (.goto 14, 3) := by decide +kernel
theorem dc_X10_bindsOther_95 : decode m_X10_bindsOther.2.2.1 95 = .ok (.invokevirtual 310, 3) := by decide +kernel
theorem dc_X10_bindsOther_98 : decode m_X10_bindsOther.2.2.1 98 = .ok (.ifCond .eq 6, 3) := by decide +kernel
theorem dc_X10_bindsOther_110 : decode m_X10_bindsOther.2.2.1 110 = .ok (.invokevirtual 243, 3) := by decide +kernel
theorem dc_X10_bindsOther_121 : decode m_X10_bindsOther.2.2.1 121 = .ok (.invokestatic 300, 3) := by decide +kernel
theorem dc_X10_bindsOther_124 : decode m_X10_bindsOther.2.2.1 124 = .ok (.ifCond .eq 5, 3) := by decide +kernel
theorem dc_X10_bindsOther_128 : decode m_X10_bindsOther.2.2.1 128 = .ok (.ireturn, 1) := by decide +kernel
theorem dc_X10_bindsOther_132 : decode m_X10_bindsOther.2.2.1 132 = .ok (.goto (-72), 3) := by decide +kernel
theorem dc_X10_bindsOther_136 : decode m_X10_bindsOther.2.2.1 136 = .ok (.ireturn, 1) := by decide +kernel
theorem ok_X10_bindsOther_0_2 : oks m_X10_bindsOther.1 m_X10_bindsOther.2.2.1 0 [(.iload 5, 2, (0, 0, 0)), (.bipush 40, 2, (0, 0, 0))] = true ∧ plen 0 [(.iload 5, 2, (0, 0, 0)), (.bipush 40, 2, (0, 0, 0))] = 4 := by decide +kernel
theorem ok_X10_bindsOther_7_3 : oks m_X10_bindsOther.1 m_X10_bindsOther.2.2.1 7 [(.aload_n 0, 1, (0, 0, 0)), (.iload_n 2, 1, (0, 0, 0)), (.iload 4, 2, (0, 0, 0))] = true ∧ plen 7 [(.aload_n 0, 1, (0, 0, 0)), (.iload_n 2, 1, (0, 0, 0)), (.iload 4, 2, (0, 0, 0))] = 11 := by decide +kernel
theorem ok_X10_bindsOther_17_1 : oks m_X10_bindsOther.1 m_X10_bindsOther.2.2.1 17 [(.iconst 0, 1, (0, 0, 0))] = true ∧ plen 17 [(.iconst 0, 1, (0, 0, 0))] = 18 := by decide +kernel
theorem ok_X10_bindsOther_19_2 : oks m_X10_bindsOther.1 m_X10_bindsOther.2.2.1 19 [(.aload_n 0, 1, (0, 0, 0)), (.iload_n 2, 1, (0, 0, 0))] = true ∧ plen 19 [(.aload_n 0, 1, (0, 0, 0)), (.iload_n 2, 1, (0, 0, 0))] = 21 := by decide +kernel
theorem ok_X10_bindsOther_24_3 : oks m_X10_bindsOther.1 m_X10_bindsOther.2.2.1 24 [(.istore 6, 2, (0, 0, 0)), (.aload_n 0, 1, (0, 0, 0)), (.iload_n 2, 1, (0, 0, 0))] = true ∧ plen 24 [(.istore 6, 2, (0, 0, 0)), (.aload_n 0, 1, (0, 0, 0)), (.iload_n 2, 1, (0, 0, 0))] = 28 := by decide +kernel
theorem ok_X10_bindsOther_31_3 : oks m_X10_bindsOther.1 m_X10_bindsOther.2.2.1 31 [(.istore 7, 2, (0, 0, 0)), (.iload 6, 2, (0, 0, 0)), (.iconst 1, 1, (0, 0, 0))] = true ∧ plen 31 [(.istore 7, 2, (0, 0, 0)), (.iload 6, 2, (0, 0, 0)), (.iconst 1, 1, (0, 0, 0))] = 36 := by decide +kernel
theorem ok_X10_bindsOther_39_2 : oks m_X10_bindsOther.1 m_X10_bindsOther.2.2.1 39 [(.iload 7, 2, (0, 0, 0)), (.iload 4, 2, (0, 0, 0))] = true ∧ plen 39 [(.iload 7, 2, (0, 0, 0)), (.iload 4, 2, (0, 0, 0))] = 43 := by decide +kernel
theorem ok_X10_bindsOther_46_2 : oks m_X10_bindsOther.1 m_X10_bindsOther.2.2.1 46 [(.iload_n 3, 1, (0, 0, 0)), (.iconst 4, 1, (0, 0, 0))] = true ∧ plen 46 [(.iload_n 3, 1, (0, 0, 0)), (.iconst 4, 1, (0, 0, 0))] = 48 := by decide +kernel
theorem ok_X10_bindsOther_51_1 : oks m_X10_bindsOther.1 m_X10_bindsOther.2.2.1 51 [(.iconst 1, 1, (0, 0, 0))] = true ∧ plen 51 [(.iconst 1, 1, (0, 0, 0))] = 52 := by decide +kernel
theorem ok_X10_bindsOther_55_1 : oks m_X10_bindsOther.1 m_X10_bindsOther.2.2.1 55 [(.iconst 0, 1, (0, 0, 0))] = true ∧ plen 55 [(.iconst 0, 1, (0, 0, 0))] = 56 := by decide +kernel
theorem ok_X10_bindsOther_57_2 : oks m_X10_bindsOther.1 m_X10_bindsOther.2.2.1 57 [(.iconst 0, 1, (0, 0, 0)), (.istore 8, 2, (0, 0, 0))] = true ∧ plen 57 [(.iconst 0, 1, (0, 0, 0)), (.istore 8, 2, (0, 0, 0))] = 60 := by decide +kernel
theorem ok_X10_bindsOther_60_3 : oks m_X10_bindsOther.1 m_X10_bindsOther.2.2.1 60 [(.iload 8, 2, (0, 0, 0)), (.aload_n 0, 1, (0, 0, 0)), (.iload_n 2, 1, (0, 0, 0))] = true ∧ plen 60 [(.iload 8, 2, (0, 0, 0)), (.aload_n 0, 1, (0, 0, 0)), (.iload_n 2, 1, (0, 0, 0))] = 64 := by decide +kernel
theorem ok_X10_bindsOther_70_4 : oks m_X10_bindsOther.1 m_X10_bindsOther.2.2.1 70 [(.iload_n 3, 1, (0, 0, 0)), (.istore 9, 2, (0, 0, 0)), (.iload 6, 2, (0, 0, 0)), (.iconst 3, 1, (0, 0, 0))] = true ∧ plen 70 [(.iload_n 3, 1, (0, 0, 0)), (.istore 9, 2, (0, 0, 0)), (.iload 6, 2, (0, 0, 0)), (.iconst 3, 1, (0, 0, 0))] = 76 := by decide +kernel
theorem ok_X10_bindsOther_79_4 : oks m_X10_bindsOther.1 m_X10_bindsOther.2.2.1 79 [(.aload_n 1, 1, (0, 0, 0)), (.iload_n 3, 1, (0, 0, 0)), (.iload 7, 2, (0, 0, 0)), (.iload 8, 2, (0, 0, 0))] = true ∧ plen 79 [(.aload_n 1, 1, (0, 0, 0)), (.iload_n 3, 1, (0, 0, 0)), (.iload 7, 2, (0, 0, 0)), (.iload 8, 2, (0, 0, 0))] = 85 := by decide +kernel
theorem ok_X10_bindsOther_88_1 : oks m_X10_bindsOther.1 m_X10_bindsOther.2.2.1 88 [(.istore 9, 2, (0, 0, 0))] = true ∧ plen 88 [(.istore 9, 2, (0, 0, 0))] = 90 := by decide +kernel
theorem ok_X10_bindsOther_93_2 : oks m_X10_bindsOther.1 m_X10_bindsOther.2.2.1 93 [(.aload_n 0, 1, (0, 0, 0)), (.iload_n 2, 1, (0, 0, 0))] = true ∧ plen 93 [(.aload_n 0, 1, (0, 0, 0)), (.iload_n 2, 1, (0, 0, 0))] = 95 := by decide +kernel
theorem ok_X10_bindsOther_101_2 : oks m_X10_bindsOther.1 m_X10_bindsOther.2.2.1 101 [(.iconst 4, 1, (0, 0, 0)), (.istore 9, 2, (0, 0, 0))] = true ∧ plen 101 [(.iconst 4, 1, (0, 0, 0)), (.istore 9, 2, (0, 0, 0))] = 104 := by decide +kernel
theorem ok_X10_bindsOther_104_5 : oks m_X10_bindsOther.1 m_X10_bindsOther.2.2.1 104 [(.aload_n 0, 1, (0, 0, 0)), (.aload_n 1, 1, (0, 0, 0)), (.aload_n 0, 1, (0, 0, 0)), (.iload_n 2, 1, (0, 0, 0)), (.iload 8, 2, (0, 0, 0))] = true ∧ plen 104 [(.aload_n 0, 1, (0, 0, 0)), (.aload_n 1, 1, (0, 0, 0)), (.aload_n 0, 1, (0, 0, 0)), (.iload_n 2, 1, (0, 0, 0)), (.iload 8, 2, (0, 0, 0))] = 110 := by decide +kernel
theorem ok_X10_bindsOther_113_5 : oks m_X10_bindsOther.1 m_X10_bindsOther.2.2.1 113 [(.iload 9, 2, (0, 0, 0)), (.iload 4, 2, (0, 0, 0)), (.iload 5, 2, (0, 0, 0)), (.iconst 1, 1, (0, 0, 0)), (.iadd, 1, (0, 0, 0))] = true ∧ plen 113 [(.iload 9, 2, (0, 0, 0)), (.iload 4, 2, (0, 0, 0)), (.iload 5, 2, (0, 0, 0)), (.iconst 1, 1, (0, 0, 0)), (.iadd, 1, (0, 0, 0))] = 121 := by decide +kernel
theorem ok_X10_bindsOther_127_1 : oks m_X10_bindsOther.1 m_X10_bindsOther.2.2.1 127 [(.iconst 1, 1, (0, 0, 0))] = true ∧ plen 127 [(.iconst 1, 1, (0, 0, 0))] = 128 := by decide +kernel
theorem ok_X10_bindsOther_129_1 : oks m_X10_bindsOther.1 m_X10_bindsOther.2.2.1 129 [(.iinc 8 1, 3, (0, 0, 0))] = true ∧ plen 129 [(.iinc 8 1, 3, (0, 0, 0))] = 132 := by decide +kernel
theorem ok_X10_bindsOther_135_1 : oks m_X10_bindsOther.1 m_X10_bindsOther.2.2.1 135 [(.iconst 0, 1, (0, 0, 0))] = true ∧ plen 135 [(.iconst 0, 1, (0, 0, 0))] = 136 := by decide +kernel
def B_X10_bindsOther_104 (rec : Int → Int → Int → Int → Sg → Option Bool) (x2 : Int) (x4 : Int) (x5 : Int) (x8 : Int) (x9 : Int) (σ : Sg) : Option (Int ⊕ (Unit ⊕ Bool)) :=
(rec (F_X5_partOf x2 x8 σ) x9 x4 (wrap (x5 + 1)) σ).bind fun q5 =>
if q5 = true then
some (.inr (.inr true))
else
some (.inl (wrap (x8 + 1)))
def L_X10_bindsOther_60 (rec : Int → Int → Int → Int → Sg → Option Bool) (x2 : Int) (x3 : Int) (x4 : Int) (x5 : Int) (x6 : Int) (x7 : Int) (σ : Sg) (x8 : Int) : Option (Int ⊕ (Unit ⊕ Bool)) :=
if (F_X5_partCount x2 σ) ≤ x8 then
some (.inr (.inl ()))
else
if x6 = 3 then
bnd (F_X2_fieldKind x3 x7 x8 σ) fun v7 =>
B_X10_bindsOther_104 rec x2 x4 x5 x8 v7 σ
else
if (F_X5_isList x2 σ) = true then
B_X10_bindsOther_104 rec x2 x4 x5 x8 4 σ
else
B_X10_bindsOther_104 rec x2 x4 x5 x8 x3 σ
def B_X10_bindsOther_57 (rec : Int → Int → Int → Int → Sg → Option Bool) (x2 : Int) (x3 : Int) (x4 : Int) (x5 : Int) (x6 : Int) (x7 : Int) (σ : Sg) : Option Bool :=
(iter (fun a : Int => L_X10_bindsOther_60 rec x2 x3 x4 x5 x6 x7 σ a) 3000 0).bind fun y9 => Sum.elim (fun z11 =>
some false) (fun r12 => some r12) y9
def G_X10_bindsOther (rec : Int → Int → Int → Int → Sg → Option Bool) (a2 : Int) (a3 : Int) (a4 : Int) (a5 : Int) (σ : Sg) : Option Bool :=
if 40 < a5 then
some false
else
if (F_X5_binds a2 a4 σ) = true then
bnd (F_X5_sortOf a2 σ) fun v1 =>
bnd (F_X5_lowOf a2 σ) fun v3 =>
if v1 = 1 then
if v3 = a4 then
if a3 = 4 then
some false
else
some true
else
B_X10_bindsOther_57 rec a2 a3 a4 a5 v1 v3 σ
else
B_X10_bindsOther_57 rec a2 a3 a4 a5 v1 v3 σ
else
some false
theorem lk_X10_bindsOther (l : Launch) (Dr : Nat) (rec : Int → Int → Int → Int → Sg → Option Bool) (hrec : ∀ d, Dr ≤ d → ∀ (a2 : Int) (a3 : Int) (a4 : Int) (a5 : Int) (σ : Sg) (q : Bool), rec a2 a3 a4 a5 σ = some q → CT l d m_X10_bindsOther.2.1 m_X10_bindsOther.2.2.1 m_X10_bindsOther.2.2.2.1 m_X10_bindsOther.2.2.2.2 [.inr 10, .inr 1, .inl a2, .inl a3, .inl a4, .inl a5] (LAYC, σ) (some (.inl (b2i q))) (LAYC, σ)) (d : Nat) (hd : Dr + 1 ≤ d) (hdB : 5 ≤ d) (a2 : Int) (a3 : Int) (a4 : Int) (a5 : Int) (σ : Sg) (q : Bool) (h : G_X10_bindsOther rec a2 a3 a4 a5 σ = some q) : CT l d m_X10_bindsOther.2.1 m_X10_bindsOther.2.2.1 m_X10_bindsOther.2.2.2.1 m_X10_bindsOther.2.2.2.2 [.inr 10, .inr 1, .inl a2, .inl a3, .inl a4, .inl a5] (LAYC, σ) (some (.inl (b2i q))) (LAYC, σ) := by
  obtain ⟨d, rfl⟩ : ∃ e, d = e + 1 := ⟨d - 1, by omega⟩
  have key : Go l m_X10_bindsOther (d + 1) LAYC (.inl (some (.inl (b2i q)))) σ 0 [some (.inr 10), some (.inr 1), some (.inl a2), some (.inl a3), some (.inl a4), some (.inl a5), none, none, none, none] [] σ := by
    unfold G_X10_bindsOther at h
    have hL_X10_bindsOther_60 : ∀ (x2 : Int) (x3 : Int) (x4 : Int) (x5 : Int) (x6 : Int) (x7 : Int) (σ : Sg) (n : Nat) (a : Int) (y : (Unit ⊕ Bool)), iter (fun a : Int => L_X10_bindsOther_60 rec x2 x3 x4 x5 x6 x7 σ a) n a = some y → (Sum.elim (fun y : Unit => Go l m_X10_bindsOther (d + 1) LAYC (.inl (some (.inl (b2i q)))) σ 135 [none, none, none, none, none, none, none, none, none, none] [] σ) (fun r : Bool => r = q)) y → (fun a : Int => Go l m_X10_bindsOther (d + 1) LAYC (.inl (some (.inl (b2i q)))) σ 60 [some (.inr 10), some (.inr 1), some (.inl x2), some (.inl x3), some (.inl x4), some (.inl x5), some (.inl x6), some (.inl x7), some (.inl a), none] [] σ) a := by
      intro x2 x3 x4 x5 x6 x7 σ
      refine go_iter (G := fun a : Int => Go l m_X10_bindsOther (d + 1) LAYC (.inl (some (.inl (b2i q)))) σ 60 [some (.inr 10), some (.inr 1), some (.inl x2), some (.inl x3), some (.inl x4), some (.inl x5), some (.inl x6), some (.inl x7), some (.inl a), none] [] σ) (K := Sum.elim (fun y : Unit => Go l m_X10_bindsOther (d + 1) LAYC (.inl (some (.inl (b2i q)))) σ 135 [none, none, none, none, none, none, none, none, none, none] [] σ) (fun r : Bool => r = q)) ?_
      rintro x8 w h hK
      replace h : L_X10_bindsOther_60 rec x2 x3 x4 x5 x6 x7 σ x8 = some w := h
      show Go l m_X10_bindsOther (d + 1) LAYC (.inl (some (.inl (b2i q)))) σ 60 [some (.inr 10), some (.inr 1), some (.inl x2), some (.inl x3), some (.inl x4), some (.inl x5), some (.inl x6), some (.inl x7), some (.inl x8), none] [] σ
      unfold L_X10_bindsOther_60 at h
      have hB_X10_bindsOther_104 : ∀ (x8 : Int) (x9 : Int), B_X10_bindsOther_104 rec x2 x4 x5 x8 x9 σ = some w → Go l m_X10_bindsOther (d + 1) LAYC (.inl (some (.inl (b2i q)))) σ 104 [some (.inr 10), some (.inr 1), some (.inl x2), some (.inl x3), some (.inl x4), some (.inl x5), some (.inl x6), some (.inl x7), some (.inl x8), some (.inl x9)] [] σ := by
        intro x8 x9 h
        unfold B_X10_bindsOther_104 at h
        refine go_ops ok_X10_bindsOther_104_5 (L' := [some (.inr 10), some (.inr 1), some (.inl x2), some (.inl x3), some (.inl x4), some (.inl x5), some (.inl x6), some (.inl x7), some (.inl x8), some (.inl x9)]) (st' := [.inl x8, .inl x2, .inr 10, .inr 1, .inr 10]) (σ1 := σ) rfl ?_
        refine go_V (M1 := m_X5_partOf) (as := [.inl x2, .inl x8]) (st := [.inr 1, .inr 10]) (k := 10) (ci := 5) dc_X10_bindsOther_110 ln_10_243 im_X5_partOf (by decide) rfl rfl mk_X5_partOf rfl (Nat.le_of_ble_eq_true rfl) (Nat.le_refl _) (v := (some (.inl (F_X5_partOf x2 x8 σ)))) (σ1 := σ) (lk_X5_partOf l d (by omega) x2 x8 σ _ rfl) _ rfl ?_
        refine go_ops ok_X10_bindsOther_113_5 (L' := [some (.inr 10), some (.inr 1), some (.inl x2), some (.inl x3), some (.inl x4), some (.inl x5), some (.inl x6), some (.inl x7), some (.inl x8), some (.inl x9)]) (st' := [.inl (wrap (x5 + 1)), .inl x4, .inl x9, .inl (F_X5_partOf x2 x8 σ), .inr 1, .inr 10]) (σ1 := σ) rfl ?_
        obtain ⟨q5, e6, h⟩ := bind_inv h
        refine go_S (M1 := m_X10_bindsOther) (as := [.inr 10, .inr 1, .inl (F_X5_partOf x2 x8 σ), .inl x9, .inl x4, .inl (wrap (x5 + 1))]) (st := []) dc_X10_bindsOther_121 ln_10_300 sm_X10_bindsOther mk_X10_bindsOther rfl (Nat.le_of_ble_eq_true rfl) (Nat.le_refl _) (v := (some (.inl (b2i q5)))) (σ1 := σ) (hrec d (by omega) (F_X5_partOf x2 x8 σ) x9 x4 (wrap (x5 + 1)) σ q5 e6) _ rfl ?_
        refine go_ifb_eq dc_X10_bindsOther_124 (by rfl) (fun hc => ?_) (fun hc => ?_)
        · replace h := (if_neg hc).symm.trans h
          refine go_ops ok_X10_bindsOther_129_1 (L' := [some (.inr 10), some (.inr 1), some (.inl x2), some (.inl x3), some (.inl x4), some (.inl x5), some (.inl x6), some (.inl x7), some (.inl (wrap (x8 + 1))), some (.inl x9)]) (st' := []) (σ1 := σ) rfl ?_
          refine go_goto dc_X10_bindsOther_132 (by rfl) ?_
          cases h
          refine go_wk (L' := [some (.inr 10), some (.inr 1), some (.inl x2), some (.inl x3), some (.inl x4), some (.inl x5), some (.inl x6), some (.inl x7), some (.inl (wrap (x8 + 1))), none]) ⟨rfl, rfl, rfl, rfl, rfl, rfl, rfl, rfl, rfl, trivial⟩ ?_
          exact hK
        · replace h := (if_pos hc).symm.trans h
          refine go_ops ok_X10_bindsOther_127_1 (L' := [some (.inr 10), some (.inr 1), some (.inl x2), some (.inl x3), some (.inl x4), some (.inl x5), some (.inl x6), some (.inl x7), some (.inl x8), some (.inl x9)]) (st' := [.inl 1]) (σ1 := σ) rfl ?_
          cases h
          have hK2 : _ = q := hK
          subst hK2
          exact go_zret (x := true) dc_X10_bindsOther_128 rfl
      refine go_ops ok_X10_bindsOther_60_3 (L' := [some (.inr 10), some (.inr 1), some (.inl x2), some (.inl x3), some (.inl x4), some (.inl x5), some (.inl x6), some (.inl x7), some (.inl x8), none]) (st' := [.inl x2, .inr 10, .inl x8]) (σ1 := σ) rfl ?_
      refine go_V (M1 := m_X5_partCount) (as := [.inl x2]) (st := [.inl x8]) (k := 10) (ci := 5) dc_X10_bindsOther_64 ln_10_307 im_X5_partCount (by decide) rfl rfl mk_X5_partCount rfl (Nat.le_of_ble_eq_true rfl) (Nat.le_refl _) (v := (some (.inl (F_X5_partCount x2 σ)))) (σ1 := σ) (lk_X5_partCount l d (by omega) x2 σ _ rfl) _ rfl ?_
      refine go_icmp_ge dc_X10_bindsOther_67 (by rfl) (fun hc => ?_) (fun hc => ?_)
      · replace h := (if_pos hc).symm.trans h
        cases h
        refine go_wk (L' := [none, none, none, none, none, none, none, none, none, none]) trivial ?_
        exact hK
      · replace h := (if_neg hc).symm.trans h
        refine go_ops ok_X10_bindsOther_70_4 (L' := [some (.inr 10), some (.inr 1), some (.inl x2), some (.inl x3), some (.inl x4), some (.inl x5), some (.inl x6), some (.inl x7), some (.inl x8), some (.inl x3)]) (st' := [.inl 3, .inl x6]) (σ1 := σ) rfl ?_
        refine go_icmp_ne dc_X10_bindsOther_76 (by rfl) (fun hc => ?_) (fun hc => ?_)
        · replace h := (if_neg hc).symm.trans h
          refine go_ops ok_X10_bindsOther_93_2 (L' := [some (.inr 10), some (.inr 1), some (.inl x2), some (.inl x3), some (.inl x4), some (.inl x5), some (.inl x6), some (.inl x7), some (.inl x8), some (.inl x3)]) (st' := [.inl x2, .inr 10]) (σ1 := σ) rfl ?_
          refine go_V (M1 := m_X5_isList) (as := [.inl x2]) (st := []) (k := 10) (ci := 5) dc_X10_bindsOther_95 ln_10_310 im_X5_isList (by decide) rfl rfl mk_X5_isList rfl (Nat.le_of_ble_eq_true rfl) (Nat.le_refl _) (v := (some (.inl (b2i (F_X5_isList x2 σ))))) (σ1 := σ) (lk_X5_isList l d (by omega) x2 σ _ rfl) _ rfl ?_
          refine go_ifb_eq dc_X10_bindsOther_98 (by rfl) (fun hc => ?_) (fun hc => ?_)
          · replace h := (if_neg hc).symm.trans h
            exact hB_X10_bindsOther_104 x8 x3 h
          · replace h := (if_pos hc).symm.trans h
            refine go_ops ok_X10_bindsOther_101_2 (L' := [some (.inr 10), some (.inr 1), some (.inl x2), some (.inl x3), some (.inl x4), some (.inl x5), some (.inl x6), some (.inl x7), some (.inl x8), some (.inl 4)]) (st' := []) (σ1 := σ) rfl ?_
            exact hB_X10_bindsOther_104 x8 4 h
        · replace h := (if_pos hc).symm.trans h
          refine go_ops ok_X10_bindsOther_79_4 (L' := [some (.inr 10), some (.inr 1), some (.inl x2), some (.inl x3), some (.inl x4), some (.inl x5), some (.inl x6), some (.inl x7), some (.inl x8), some (.inl x3)]) (st' := [.inl x8, .inl x7, .inl x3, .inr 1]) (σ1 := σ) rfl ?_
          refine go_V (M1 := m_X2_fieldKind) (as := [.inl x3, .inl x7, .inl x8]) (st := []) (k := 1) (ci := 2) dc_X10_bindsOther_85 ln_10_148 im_X2_fieldKind (by decide) rfl rfl mk_X2_fieldKind rfl (Nat.le_of_ble_eq_true rfl) (Nat.le_refl _) (v := (some (.inl (F_X2_fieldKind x3 x7 x8 σ)))) (σ1 := σ) (lk_X2_fieldKind l d (by omega) x3 x7 x8 σ _ rfl) _ rfl ?_
          obtain ⟨v7, e8, h⟩ := bnd_inv h
          refine go_ops ok_X10_bindsOther_88_1 (L' := [some (.inr 10), some (.inr 1), some (.inl x2), some (.inl x3), some (.inl x4), some (.inl x5), some (.inl x6), some (.inl x7), some (.inl x8), some (.inl v7)]) (st' := []) (σ1 := σ) (by subst e8; rfl) ?_
          refine go_goto dc_X10_bindsOther_90 (by rfl) ?_
          exact hB_X10_bindsOther_104 x8 v7 h
    have hB_X10_bindsOther_57 : ∀ (x2 : Int) (x3 : Int) (x4 : Int) (x5 : Int) (x6 : Int) (x7 : Int) (σ : Sg), B_X10_bindsOther_57 rec x2 x3 x4 x5 x6 x7 σ = some q → Go l m_X10_bindsOther (d + 1) LAYC (.inl (some (.inl (b2i q)))) σ 57 [some (.inr 10), some (.inr 1), some (.inl x2), some (.inl x3), some (.inl x4), some (.inl x5), some (.inl x6), some (.inl x7), none, none] [] σ := by
      intro x2 x3 x4 x5 x6 x7 σ h
      unfold B_X10_bindsOther_57 at h
      refine go_ops ok_X10_bindsOther_57_2 (L' := [some (.inr 10), some (.inr 1), some (.inl x2), some (.inl x3), some (.inl x4), some (.inl x5), some (.inl x6), some (.inl x7), some (.inl 0), none]) (st' := []) (σ1 := σ) rfl ?_
      obtain ⟨y9, e10, h⟩ := bind_inv h
      refine hL_X10_bindsOther_60 x2 x3 x4 x5 x6 x7 σ 3000 0 y9 e10 ?_
      rcases y9 with z11 | r12
      rotate_left
      · show r12 = q
        cases h; rfl
      show Go l m_X10_bindsOther (d + 1) LAYC (.inl (some (.inl (b2i q)))) σ 135 [none, none, none, none, none, none, none, none, none, none] [] σ
      rw [Sum.elim_inl] at h
      refine go_ops ok_X10_bindsOther_135_1 (L' := [none, none, none, none, none, none, none, none, none, none]) (st' := [.inl 0]) (σ1 := σ) rfl ?_
      have h9 := Option.some.inj h
      subst h9
      exact go_zret (x := false) dc_X10_bindsOther_136 rfl
    refine go_ops ok_X10_bindsOther_0_2 (L' := [some (.inr 10), some (.inr 1), some (.inl a2), some (.inl a3), some (.inl a4), some (.inl a5), none, none, none, none]) (st' := [.inl 40, .inl a5]) (σ1 := σ) rfl ?_
    refine go_icmp_gt dc_X10_bindsOther_4 (by rfl) (fun hc => ?_) (fun hc => ?_)
    · replace h := (if_pos hc).symm.trans h
      refine go_ops ok_X10_bindsOther_17_1 (L' := [some (.inr 10), some (.inr 1), some (.inl a2), some (.inl a3), some (.inl a4), some (.inl a5), none, none, none, none]) (st' := [.inl 0]) (σ1 := σ) rfl ?_
      have h9 := Option.some.inj h
      subst h9
      exact go_zret (x := false) dc_X10_bindsOther_18 rfl
    · replace h := (if_neg hc).symm.trans h
      refine go_ops ok_X10_bindsOther_7_3 (L' := [some (.inr 10), some (.inr 1), some (.inl a2), some (.inl a3), some (.inl a4), some (.inl a5), none, none, none, none]) (st' := [.inl a4, .inl a2, .inr 10]) (σ1 := σ) rfl ?_
      refine go_V (M1 := m_X5_binds) (as := [.inl a2, .inl a4]) (st := []) (k := 10) (ci := 5) dc_X10_bindsOther_11 ln_10_165 im_X5_binds (by decide) rfl rfl mk_X5_binds rfl (Nat.le_of_ble_eq_true rfl) (Nat.le_refl _) (v := (some (.inl (b2i (F_X5_binds a2 a4 σ))))) (σ1 := σ) (lk_X5_binds l d (by omega) a2 a4 σ _ rfl) _ rfl ?_
      refine go_ifb_ne dc_X10_bindsOther_14 (by rfl) (fun hc => ?_) (fun hc => ?_)
      · replace h := (if_pos hc).symm.trans h
        refine go_ops ok_X10_bindsOther_19_2 (L' := [some (.inr 10), some (.inr 1), some (.inl a2), some (.inl a3), some (.inl a4), some (.inl a5), none, none, none, none]) (st' := [.inl a2, .inr 10]) (σ1 := σ) rfl ?_
        refine go_V (M1 := m_X5_sortOf) (as := [.inl a2]) (st := []) (k := 10) (ci := 5) dc_X10_bindsOther_21 ln_10_233 im_X5_sortOf (by decide) rfl rfl mk_X5_sortOf rfl (Nat.le_of_ble_eq_true rfl) (Nat.le_refl _) (v := (some (.inl (F_X5_sortOf a2 σ)))) (σ1 := σ) (lk_X5_sortOf l d (by omega) a2 σ _ rfl) _ rfl ?_
        obtain ⟨v1, e2, h⟩ := bnd_inv h
        refine go_ops ok_X10_bindsOther_24_3 (L' := [some (.inr 10), some (.inr 1), some (.inl a2), some (.inl a3), some (.inl a4), some (.inl a5), some (.inl v1), none, none, none]) (st' := [.inl a2, .inr 10]) (σ1 := σ) (by subst e2; rfl) ?_
        refine go_V (M1 := m_X5_lowOf) (as := [.inl a2]) (st := []) (k := 10) (ci := 5) dc_X10_bindsOther_28 ln_10_304 im_X5_lowOf (by decide) rfl rfl mk_X5_lowOf rfl (Nat.le_of_ble_eq_true rfl) (Nat.le_refl _) (v := (some (.inl (F_X5_lowOf a2 σ)))) (σ1 := σ) (lk_X5_lowOf l d (by omega) a2 σ _ rfl) _ rfl ?_
        obtain ⟨v3, e4, h⟩ := bnd_inv h
        refine go_ops ok_X10_bindsOther_31_3 (L' := [some (.inr 10), some (.inr 1), some (.inl a2), some (.inl a3), some (.inl a4), some (.inl a5), some (.inl v1), some (.inl v3), none, none]) (st' := [.inl 1, .inl v1]) (σ1 := σ) (by subst e4; rfl) ?_
        refine go_icmp_ne dc_X10_bindsOther_36 (by rfl) (fun hc => ?_) (fun hc => ?_)
        · replace h := (if_neg hc).symm.trans h
          exact hB_X10_bindsOther_57 a2 a3 a4 a5 v1 v3 σ h
        · replace h := (if_pos hc).symm.trans h
          refine go_ops ok_X10_bindsOther_39_2 (L' := [some (.inr 10), some (.inr 1), some (.inl a2), some (.inl a3), some (.inl a4), some (.inl a5), some (.inl v1), some (.inl v3), none, none]) (st' := [.inl a4, .inl v3]) (σ1 := σ) rfl ?_
          refine go_icmp_ne dc_X10_bindsOther_43 (by rfl) (fun hc => ?_) (fun hc => ?_)
          · replace h := (if_neg hc).symm.trans h
            exact hB_X10_bindsOther_57 a2 a3 a4 a5 v1 v3 σ h
          · replace h := (if_pos hc).symm.trans h
            refine go_ops ok_X10_bindsOther_46_2 (L' := [some (.inr 10), some (.inr 1), some (.inl a2), some (.inl a3), some (.inl a4), some (.inl a5), some (.inl v1), some (.inl v3), none, none]) (st' := [.inl 4, .inl a3]) (σ1 := σ) rfl ?_
            refine go_icmp_eq dc_X10_bindsOther_48 (by rfl) (fun hc => ?_) (fun hc => ?_)
            · replace h := (if_pos hc).symm.trans h
              refine go_ops ok_X10_bindsOther_55_1 (L' := [some (.inr 10), some (.inr 1), some (.inl a2), some (.inl a3), some (.inl a4), some (.inl a5), some (.inl v1), some (.inl v3), none, none]) (st' := [.inl 0]) (σ1 := σ) rfl ?_
              have h9 := Option.some.inj h
              subst h9
              exact go_zret (x := false) dc_X10_bindsOther_56 rfl
            · replace h := (if_neg hc).symm.trans h
              refine go_ops ok_X10_bindsOther_51_1 (L' := [some (.inr 10), some (.inr 1), some (.inl a2), some (.inl a3), some (.inl a4), some (.inl a5), some (.inl v1), some (.inl v3), none, none]) (st' := [.inl 1]) (σ1 := σ) rfl ?_
              refine go_goto dc_X10_bindsOther_52 (by rfl) ?_
              have h9 := Option.some.inj h
              subst h9
              exact go_zret (x := true) dc_X10_bindsOther_56 rfl
      · replace h := (if_neg hc).symm.trans h
        refine go_ops ok_X10_bindsOther_17_1 (L' := [some (.inr 10), some (.inr 1), some (.inl a2), some (.inl a3), some (.inl a4), some (.inl a5), none, none, none, none]) (st' := [.inl 0]) (σ1 := σ) rfl ?_
        have h9 := Option.some.inj h
        subst h9
        exact go_zret (x := false) dc_X10_bindsOther_18 rfl
  have hf := go_ct (as := [.inr 10, .inr 1, .inl a2, .inl a3, .inl a4, .inl a5]) mk_X10_bindsOther (by rfl) (Nat.le_of_ble_eq_true rfl) key
  exact hf
def F_X10_bindsOther : Nat → Int → Int → Int → Int → Sg → Option Bool
  | 0 => fun _ _ _ _ _ => none
  | n + 1 => G_X10_bindsOther (F_X10_bindsOther n)
theorem lkr_X10_bindsOther (l : Launch) : ∀ (n d : Nat), 1 * n + 5 ≤ d → ∀ (a2 : Int) (a3 : Int) (a4 : Int) (a5 : Int) (σ : Sg) (q : Bool), F_X10_bindsOther n a2 a3 a4 a5 σ = some q → CT l d m_X10_bindsOther.2.1 m_X10_bindsOther.2.2.1 m_X10_bindsOther.2.2.2.1 m_X10_bindsOther.2.2.2.2 [.inr 10, .inr 1, .inl a2, .inl a3, .inl a4, .inl a5] (LAYC, σ) (some (.inl (b2i q))) (LAYC, σ)
  | 0, d, hd, a2, a3, a4, a5, σ, q, h => by cases h
  | n + 1, d, hd, a2, a3, a4, a5, σ, q, h => lk_X10_bindsOther l (1 * n + 5) (F_X10_bindsOther n) (fun d hd => lkr_X10_bindsOther l n d hd) d (by omega) (by omega) a2 a3 a4 a5 σ q h
theorem dc_X10_bindsNumber_11 : decode m_X10_bindsNumber.2.2.1 11 = .ok (.invokevirtual 202, 3) := by decide +kernel
theorem dc_X10_bindsNumber_14 : decode m_X10_bindsNumber.2.2.1 14 = .ok (.if_icmp .ge 73, 3) := by decide +kernel
theorem dc_X10_bindsNumber_24 : decode m_X10_bindsNumber.2.2.1 24 = .ok (.invokevirtual 223, 3) := by decide +kernel
theorem dc_X10_bindsNumber_30 : decode m_X10_bindsNumber.2.2.1 30 = .ok (.ifCond .ne 16, 3) := by decide +kernel
theorem dc_X10_bindsNumber_40 : decode m_X10_bindsNumber.2.2.1 40 = .ok (.invokevirtual 165, 3) := by decide +kernel
theorem dc_X10_bindsNumber_43 : decode m_X10_bindsNumber.2.2.1 43 = .ok (.ifCond .eq 7, 3) := by decide +kernel
theorem dc_X10_bindsNumber_47 : decode m_X10_bindsNumber.2.2.1 47 = .ok (.goto 4, 3) := by decide +kernel
theorem dc_X10_bindsNumber_68 : decode m_X10_bindsNumber.2.2.1 68 = .ok (.invokevirtual 206, 3) := by decide +kernel
theorem dc_X10_bindsNumber_73 : decode m_X10_bindsNumber.2.2.1 73 = .ok (.invokestatic 300, 3) := by decide +kernel
theorem dc_X10_bindsNumber_76 : decode m_X10_bindsNumber.2.2.1 76 = .ok (.ifCond .eq 5, 3) := by decide +kernel
theorem dc_X10_bindsNumber_80 : decode m_X10_bindsNumber.2.2.1 80 = .ok (.ireturn, 1) := by decide +kernel
theorem dc_X10_bindsNumber_84 : decode m_X10_bindsNumber.2.2.1 84 = .ok (.goto (-79), 3) := by decide +kernel
theorem dc_X10_bindsNumber_88 : decode m_X10_bindsNumber.2.2.1 88 = .ok (.ireturn, 1) := by decide +kernel
theorem ok_X10_bindsNumber_0_4 : oks m_X10_bindsNumber.1 m_X10_bindsNumber.2.2.1 0 [(.iconst 0, 1, (0, 0, 0)), (.istore_n 3, 1, (0, 0, 0)), (.iconst 0, 1, (0, 0, 0)), (.istore 4, 2, (0, 0, 0))] = true ∧ plen 0 [(.iconst 0, 1, (0, 0, 0)), (.istore_n 3, 1, (0, 0, 0)), (.iconst 0, 1, (0, 0, 0)), (.istore 4, 2, (0, 0, 0))] = 5 := by decide +kernel
theorem ok_X10_bindsNumber_5_3 : oks m_X10_bindsNumber.1 m_X10_bindsNumber.2.2.1 5 [(.iload 4, 2, (0, 0, 0)), (.aload_n 0, 1, (0, 0, 0)), (.getfield 40, 3, (10, 4, 0))] = true ∧ plen 5 [(.iload 4, 2, (0, 0, 0)), (.aload_n 0, 1, (0, 0, 0)), (.getfield 40, 3, (10, 4, 0))] = 11 := by decide +kernel
theorem ok_X10_bindsNumber_17_4 : oks m_X10_bindsNumber.1 m_X10_bindsNumber.2.2.1 17 [(.aload_n 0, 1, (0, 0, 0)), (.getfield 40, 3, (10, 4, 0)), (.iload_n 1, 1, (0, 0, 0)), (.iload 4, 2, (0, 0, 0))] = true ∧ plen 17 [(.aload_n 0, 1, (0, 0, 0)), (.getfield 40, 3, (10, 4, 0)), (.iload_n 1, 1, (0, 0, 0)), (.iload 4, 2, (0, 0, 0))] = 24 := by decide +kernel
theorem ok_X10_bindsNumber_27_2 : oks m_X10_bindsNumber.1 m_X10_bindsNumber.2.2.1 27 [(.istore 5, 2, (0, 0, 0)), (.iload_n 3, 1, (0, 0, 0))] = true ∧ plen 27 [(.istore 5, 2, (0, 0, 0)), (.iload_n 3, 1, (0, 0, 0))] = 30 := by decide +kernel
theorem ok_X10_bindsNumber_33_4 : oks m_X10_bindsNumber.1 m_X10_bindsNumber.2.2.1 33 [(.aload_n 0, 1, (0, 0, 0)), (.getfield 26, 3, (10, 2, 0)), (.iload 5, 2, (0, 0, 0)), (.iload_n 2, 1, (0, 0, 0))] = true ∧ plen 33 [(.aload_n 0, 1, (0, 0, 0)), (.getfield 26, 3, (10, 2, 0)), (.iload 5, 2, (0, 0, 0)), (.iload_n 2, 1, (0, 0, 0))] = 40 := by decide +kernel
theorem ok_X10_bindsNumber_46_1 : oks m_X10_bindsNumber.1 m_X10_bindsNumber.2.2.1 46 [(.iconst 1, 1, (0, 0, 0))] = true ∧ plen 46 [(.iconst 1, 1, (0, 0, 0))] = 47 := by decide +kernel
theorem ok_X10_bindsNumber_50_1 : oks m_X10_bindsNumber.1 m_X10_bindsNumber.2.2.1 50 [(.iconst 0, 1, (0, 0, 0))] = true ∧ plen 50 [(.iconst 0, 1, (0, 0, 0))] = 51 := by decide +kernel
theorem ok_X10_bindsNumber_51_9 : oks m_X10_bindsNumber.1 m_X10_bindsNumber.2.2.1 51 [(.istore_n 3, 1, (0, 0, 0)), (.aload_n 0, 1, (0, 0, 0)), (.getfield 26, 3, (10, 2, 0)), (.aload_n 0, 1, (0, 0, 0)), (.getfield 10, 3, (10, 0, 0)), (.iload 5, 2, (0, 0, 0)), (.aload_n 0, 1, (0, 0, 0)), (.getfield 40, 3, (10, 4, 0)), (.iload 4, 2, (0, 0, 0))] = true ∧ plen 51 [(.istore_n 3, 1, (0, 0, 0)), (.aload_n 0, 1, (0, 0, 0)), (.getfield 26, 3, (10, 2, 0)), (.aload_n 0, 1, (0, 0, 0)), (.getfield 10, 3, (10, 0, 0)), (.iload 5, 2, (0, 0, 0)), (.aload_n 0, 1, (0, 0, 0)), (.getfield 40, 3, (10, 4, 0)), (.iload 4, 2, (0, 0, 0))] = 68 := by decide +kernel
theorem ok_X10_bindsNumber_71_2 : oks m_X10_bindsNumber.1 m_X10_bindsNumber.2.2.1 71 [(.iload_n 2, 1, (0, 0, 0)), (.iconst 0, 1, (0, 0, 0))] = true ∧ plen 71 [(.iload_n 2, 1, (0, 0, 0)), (.iconst 0, 1, (0, 0, 0))] = 73 := by decide +kernel
theorem ok_X10_bindsNumber_79_1 : oks m_X10_bindsNumber.1 m_X10_bindsNumber.2.2.1 79 [(.iconst 0, 1, (0, 0, 0))] = true ∧ plen 79 [(.iconst 0, 1, (0, 0, 0))] = 80 := by decide +kernel
theorem ok_X10_bindsNumber_81_1 : oks m_X10_bindsNumber.1 m_X10_bindsNumber.2.2.1 81 [(.iinc 4 1, 3, (0, 0, 0))] = true ∧ plen 81 [(.iinc 4 1, 3, (0, 0, 0))] = 84 := by decide +kernel
theorem ok_X10_bindsNumber_87_1 : oks m_X10_bindsNumber.1 m_X10_bindsNumber.2.2.1 87 [(.iload_n 3, 1, (0, 0, 0))] = true ∧ plen 87 [(.iload_n 3, 1, (0, 0, 0))] = 88 := by decide +kernel
def B_X10_bindsNumber_51 (x2 : Int) (x4 : Int) (x5 : Int) (y0 : Bool) (σ : Sg) : Option ((Bool × Int) ⊕ (Bool ⊕ Bool)) :=
(F_X10_bindsOther 50 x5 (F_X4_kindOf x4 σ) x2 0 σ).bind fun q3 =>
if q3 = true then
some (.inr (.inr false))
else
some (.inl (y0, wrap (x4 + 1)))
def B_X10_bindsNumber_46 (x2 : Int) (x4 : Int) (x5 : Int) (σ : Sg) : Option ((Bool × Int) ⊕ (Bool ⊕ Bool)) :=
B_X10_bindsNumber_51 x2 x4 x5 true σ
def L_X10_bindsNumber_5 (x1 : Int) (x2 : Int) (σ : Sg) (x3 : Bool) (x4 : Int) : Option ((Bool × Int) ⊕ (Bool ⊕ Bool)) :=
if (F_X4_columns σ) ≤ x4 then
some (.inr (.inl x3))
else
bnd (F_X4_get x1 x4 σ) fun v1 =>
if x3 = true then
B_X10_bindsNumber_46 x2 x4 v1 σ
else
if (F_X5_binds v1 x2 σ) = true then
B_X10_bindsNumber_46 x2 x4 v1 σ
else
B_X10_bindsNumber_51 x2 x4 v1 false σ
def F_X10_bindsNumber (a1 : Int) (a2 : Int) (σ : Sg) : Option Bool :=
(iter (fun a : (Bool × Int) => L_X10_bindsNumber_5 a1 a2 σ a.1 a.2) 3000 (false, 0)).bind fun y5 => Sum.elim (fun z7 =>
some z7) (fun r8 => some r8) y5
theorem lk_X10_bindsNumber (l : Launch) (d : Nat) (hd : 56 ≤ d) (a1 : Int) (a2 : Int) (σ : Sg) (q : Bool) (h : F_X10_bindsNumber a1 a2 σ = some q) : CT l d m_X10_bindsNumber.2.1 m_X10_bindsNumber.2.2.1 m_X10_bindsNumber.2.2.2.1 m_X10_bindsNumber.2.2.2.2 [.inr 0, .inl a1, .inl a2] (LAYC, σ) (some (.inl (b2i q))) (LAYC, σ) := by
  obtain ⟨d, rfl⟩ : ∃ e, d = e + 1 := ⟨d - 1, by omega⟩
  have key : Go l m_X10_bindsNumber (d + 1) LAYC (.inl (some (.inl (b2i q)))) σ 0 [some (.inr 0), some (.inl a1), some (.inl a2), none, none, none] [] σ := by
    unfold F_X10_bindsNumber at h
    have hL_X10_bindsNumber_5 : ∀ (x1 : Int) (x2 : Int) (σ : Sg) (n : Nat) (a : (Bool × Int)) (y : (Bool ⊕ Bool)), iter (fun a : (Bool × Int) => L_X10_bindsNumber_5 x1 x2 σ a.1 a.2) n a = some y → (Sum.elim (fun y : Bool => Go l m_X10_bindsNumber (d + 1) LAYC (.inl (some (.inl (b2i q)))) σ 87 [none, none, none, some (.inl (b2i y)), none, none] [] σ) (fun r : Bool => r = q)) y → (fun a : (Bool × Int) => Go l m_X10_bindsNumber (d + 1) LAYC (.inl (some (.inl (b2i q)))) σ 5 [some (.inr 0), some (.inl x1), some (.inl x2), some (.inl (b2i a.1)), some (.inl a.2), none] [] σ) a := by
      intro x1 x2 σ
      refine go_iter (G := fun a : (Bool × Int) => Go l m_X10_bindsNumber (d + 1) LAYC (.inl (some (.inl (b2i q)))) σ 5 [some (.inr 0), some (.inl x1), some (.inl x2), some (.inl (b2i a.1)), some (.inl a.2), none] [] σ) (K := Sum.elim (fun y : Bool => Go l m_X10_bindsNumber (d + 1) LAYC (.inl (some (.inl (b2i q)))) σ 87 [none, none, none, some (.inl (b2i y)), none, none] [] σ) (fun r : Bool => r = q)) ?_
      rintro ⟨x3, x4⟩ w h hK
      replace h : L_X10_bindsNumber_5 x1 x2 σ x3 x4 = some w := h
      show Go l m_X10_bindsNumber (d + 1) LAYC (.inl (some (.inl (b2i q)))) σ 5 [some (.inr 0), some (.inl x1), some (.inl x2), some (.inl (b2i x3)), some (.inl x4), none] [] σ
      unfold L_X10_bindsNumber_5 at h
      have hB_X10_bindsNumber_51 : ∀ (x4 : Int) (x5 : Int) (y0 : Bool), B_X10_bindsNumber_51 x2 x4 x5 y0 σ = some w → Go l m_X10_bindsNumber (d + 1) LAYC (.inl (some (.inl (b2i q)))) σ 51 [some (.inr 0), some (.inl x1), some (.inl x2), none, some (.inl x4), some (.inl x5)] [.inl (b2i y0)] σ := by
        intro x4 x5 y0 h
        unfold B_X10_bindsNumber_51 at h
        refine go_ops ok_X10_bindsNumber_51_9 (L' := [some (.inr 0), some (.inl x1), some (.inl x2), some (.inl (b2i y0)), some (.inl x4), some (.inl x5)]) (st' := [.inl x4, .inr 24, .inl x5, .inr 1, .inr 10]) (σ1 := σ) rfl ?_
        refine go_V (M1 := m_X4_kindOf) (as := [.inl x4]) (st := [.inl x5, .inr 1, .inr 10]) (k := 24) (ci := 4) dc_X10_bindsNumber_68 ln_10_206 im_X4_kindOf (by decide) rfl rfl mk_X4_kindOf rfl (Nat.le_of_ble_eq_true rfl) (Nat.le_refl _) (v := (some (.inl (F_X4_kindOf x4 σ)))) (σ1 := σ) (lk_X4_kindOf l d (by omega) x4 σ _ rfl) _ rfl ?_
        refine go_ops ok_X10_bindsNumber_71_2 (L' := [some (.inr 0), some (.inl x1), some (.inl x2), some (.inl (b2i y0)), some (.inl x4), some (.inl x5)]) (st' := [.inl 0, .inl x2, .inl (F_X4_kindOf x4 σ), .inl x5, .inr 1, .inr 10]) (σ1 := σ) rfl ?_
        obtain ⟨q3, e4, h⟩ := bind_inv h
        refine go_S (M1 := m_X10_bindsOther) (as := [.inr 10, .inr 1, .inl x5, .inl (F_X4_kindOf x4 σ), .inl x2, .inl 0]) (st := []) dc_X10_bindsNumber_73 ln_10_300 sm_X10_bindsOther mk_X10_bindsOther rfl (Nat.le_of_ble_eq_true rfl) (Nat.le_refl _) (v := (some (.inl (b2i q3)))) (σ1 := σ) (lkr_X10_bindsOther l 50 d (by omega) x5 (F_X4_kindOf x4 σ) x2 0 σ q3 e4) _ rfl ?_
        refine go_ifb_eq dc_X10_bindsNumber_76 (by rfl) (fun hc => ?_) (fun hc => ?_)
        · replace h := (if_neg hc).symm.trans h
          refine go_ops ok_X10_bindsNumber_81_1 (L' := [some (.inr 0), some (.inl x1), some (.inl x2), some (.inl (b2i y0)), some (.inl (wrap (x4 + 1))), some (.inl x5)]) (st' := []) (σ1 := σ) rfl ?_
          refine go_goto dc_X10_bindsNumber_84 (by rfl) ?_
          cases h
          refine go_wk (L' := [some (.inr 0), some (.inl x1), some (.inl x2), some (.inl (b2i y0)), some (.inl (wrap (x4 + 1))), none]) ⟨rfl, rfl, rfl, rfl, rfl, trivial⟩ ?_
          exact hK
        · replace h := (if_pos hc).symm.trans h
          refine go_ops ok_X10_bindsNumber_79_1 (L' := [some (.inr 0), some (.inl x1), some (.inl x2), some (.inl (b2i y0)), some (.inl x4), some (.inl x5)]) (st' := [.inl 0]) (σ1 := σ) rfl ?_
          cases h
          have hK2 : _ = q := hK
          subst hK2
          exact go_zret (x := false) dc_X10_bindsNumber_80 rfl
      have hB_X10_bindsNumber_46 : ∀ (x4 : Int) (x5 : Int), B_X10_bindsNumber_46 x2 x4 x5 σ = some w → Go l m_X10_bindsNumber (d + 1) LAYC (.inl (some (.inl (b2i q)))) σ 46 [some (.inr 0), some (.inl x1), some (.inl x2), none, some (.inl x4), some (.inl x5)] [] σ := by
        intro x4 x5 h
        unfold B_X10_bindsNumber_46 at h
        refine go_ops ok_X10_bindsNumber_46_1 (L' := [some (.inr 0), some (.inl x1), some (.inl x2), none, some (.inl x4), some (.inl x5)]) (st' := [.inl 1]) (σ1 := σ) rfl ?_
        refine go_goto dc_X10_bindsNumber_47 (by rfl) ?_
        exact hB_X10_bindsNumber_51 x4 x5 true h
      refine go_ops ok_X10_bindsNumber_5_3 (L' := [some (.inr 0), some (.inl x1), some (.inl x2), some (.inl (b2i x3)), some (.inl x4), none]) (st' := [.inr 24, .inl x4]) (σ1 := σ) rfl ?_
      refine go_V (M1 := m_X4_columns) (as := []) (st := [.inl x4]) (k := 24) (ci := 4) dc_X10_bindsNumber_11 ln_10_202 im_X4_columns (by decide) rfl rfl mk_X4_columns rfl (Nat.le_of_ble_eq_true rfl) (Nat.le_refl _) (v := (some (.inl (F_X4_columns σ)))) (σ1 := σ) (lk_X4_columns l d (by omega) σ _ rfl) _ rfl ?_
      refine go_icmp_ge dc_X10_bindsNumber_14 (by rfl) (fun hc => ?_) (fun hc => ?_)
      · replace h := (if_pos hc).symm.trans h
        cases h
        refine go_wk (L' := [none, none, none, some (.inl (b2i x3)), none, none]) ⟨rfl, trivial⟩ ?_
        exact hK
      · replace h := (if_neg hc).symm.trans h
        refine go_ops ok_X10_bindsNumber_17_4 (L' := [some (.inr 0), some (.inl x1), some (.inl x2), some (.inl (b2i x3)), some (.inl x4), none]) (st' := [.inl x4, .inl x1, .inr 24]) (σ1 := σ) rfl ?_
        refine go_V (M1 := m_X4_get) (as := [.inl x1, .inl x4]) (st := []) (k := 24) (ci := 4) dc_X10_bindsNumber_24 ln_10_223 im_X4_get (by decide) rfl rfl mk_X4_get rfl (Nat.le_of_ble_eq_true rfl) (Nat.le_refl _) (v := (some (.inl (F_X4_get x1 x4 σ)))) (σ1 := σ) (lk_X4_get l d (by omega) x1 x4 σ _ rfl) _ rfl ?_
        obtain ⟨v1, e2, h⟩ := bnd_inv h
        refine go_ops ok_X10_bindsNumber_27_2 (L' := [some (.inr 0), some (.inl x1), some (.inl x2), some (.inl (b2i x3)), some (.inl x4), some (.inl v1)]) (st' := [.inl (b2i x3)]) (σ1 := σ) (by subst e2; rfl) ?_
        refine go_ifb_ne dc_X10_bindsNumber_30 (by rfl) (fun hc => ?_) (fun hc => ?_)
        · replace h := (if_pos hc).symm.trans h
          refine go_wk (L' := [some (.inr 0), some (.inl x1), some (.inl x2), none, some (.inl x4), some (.inl v1)]) ⟨rfl, rfl, rfl, rfl, rfl, trivial⟩ ?_
          exact hB_X10_bindsNumber_46 x4 v1 h
        · replace h := (if_neg hc).symm.trans h
          refine go_ops ok_X10_bindsNumber_33_4 (L' := [some (.inr 0), some (.inl x1), some (.inl x2), some (.inl (b2i x3)), some (.inl x4), some (.inl v1)]) (st' := [.inl x2, .inl v1, .inr 10]) (σ1 := σ) rfl ?_
          refine go_V (M1 := m_X5_binds) (as := [.inl v1, .inl x2]) (st := []) (k := 10) (ci := 5) dc_X10_bindsNumber_40 ln_10_165 im_X5_binds (by decide) rfl rfl mk_X5_binds rfl (Nat.le_of_ble_eq_true rfl) (Nat.le_refl _) (v := (some (.inl (b2i (F_X5_binds v1 x2 σ))))) (σ1 := σ) (lk_X5_binds l d (by omega) v1 x2 σ _ rfl) _ rfl ?_
          refine go_ifb_eq dc_X10_bindsNumber_43 (by rfl) (fun hc => ?_) (fun hc => ?_)
          · replace h := (if_neg hc).symm.trans h
            refine go_ops ok_X10_bindsNumber_50_1 (L' := [some (.inr 0), some (.inl x1), some (.inl x2), some (.inl (b2i x3)), some (.inl x4), some (.inl v1)]) (st' := [.inl 0]) (σ1 := σ) rfl ?_
            refine go_wk (L' := [some (.inr 0), some (.inl x1), some (.inl x2), none, some (.inl x4), some (.inl v1)]) ⟨rfl, rfl, rfl, rfl, rfl, trivial⟩ ?_
            exact hB_X10_bindsNumber_51 x4 v1 false h
          · replace h := (if_pos hc).symm.trans h
            refine go_wk (L' := [some (.inr 0), some (.inl x1), some (.inl x2), none, some (.inl x4), some (.inl v1)]) ⟨rfl, rfl, rfl, rfl, rfl, trivial⟩ ?_
            exact hB_X10_bindsNumber_46 x4 v1 h
    refine go_ops ok_X10_bindsNumber_0_4 (L' := [some (.inr 0), some (.inl a1), some (.inl a2), some (.inl 0), some (.inl 0), none]) (st' := []) (σ1 := σ) rfl ?_
    obtain ⟨y5, e6, h⟩ := bind_inv h
    refine hL_X10_bindsNumber_5 a1 a2 σ 3000 (false, 0) y5 e6 ?_
    rcases y5 with z7 | r8
    rotate_left
    · show r8 = q
      cases h; rfl
    show Go l m_X10_bindsNumber (d + 1) LAYC (.inl (some (.inl (b2i q)))) σ 87 [none, none, none, some (.inl (b2i z7)), none, none] [] σ
    rw [Sum.elim_inl] at h
    refine go_ops ok_X10_bindsNumber_87_1 (L' := [none, none, none, some (.inl (b2i z7)), none, none]) (st' := [.inl (b2i z7)]) (σ1 := σ) rfl ?_
    have h9 := Option.some.inj h
    subst h9
    exact go_zret (x := z7) dc_X10_bindsNumber_88 rfl
  have hf := go_ct (as := [.inr 0, .inl a1, .inl a2]) mk_X10_bindsNumber (by rfl) (Nat.le_of_ble_eq_true rfl) key
  exact hf
theorem dc_X10_guard_5 : decode m_X10_guard.2.2.1 5 = .ok (.invokevirtual 218, 3) := by decide +kernel
theorem dc_X10_guard_8 : decode m_X10_guard.2.2.1 8 = .ok (.invokestatic 90, 3) := by decide +kernel
theorem dc_X10_guard_13 : decode m_X10_guard.2.2.1 13 = .ok (.if_icmp .eq 12, 3) := by decide +kernel
theorem dc_X10_guard_19 : decode m_X10_guard.2.2.1 19 = .ok (.invokestatic 94, 3) := by decide +kernel
theorem dc_X10_guard_22 : decode m_X10_guard.2.2.1 22 = .ok (.ifCond .eq 7, 3) := by decide +kernel
theorem dc_X10_guard_26 : decode m_X10_guard.2.2.1 26 = .ok (.goto 4, 3) := by decide +kernel
theorem dc_X10_guard_30 : decode m_X10_guard.2.2.1 30 = .ok (.invokestatic 90, 3) := by decide +kernel
theorem dc_X10_guard_34 : decode m_X10_guard.2.2.1 34 = .ok (.invokestatic 159, 3) := by decide +kernel
theorem dc_X10_guard_37 : decode m_X10_guard.2.2.1 37 = .ok (.invokestatic 90, 3) := by decide +kernel
theorem dc_X10_guard_42 : decode m_X10_guard.2.2.1 42 = .ok (.if_icmp .ne 15, 3) := by decide +kernel
theorem dc_X10_guard_46 : decode m_X10_guard.2.2.1 46 = .ok (.ifCond .ne 7, 3) := by decide +kernel
theorem dc_X10_guard_50 : decode m_X10_guard.2.2.1 50 = .ok (.goto 13, 3) := by decide +kernel
theorem dc_X10_guard_54 : decode m_X10_guard.2.2.1 54 = .ok (.goto 9, 3) := by decide +kernel
theorem dc_X10_guard_60 : decode m_X10_guard.2.2.1 60 = .ok (.invokevirtual 220, 3) := by decide +kernel
theorem dc_X10_guard_63 : decode m_X10_guard.2.2.1 63 = .ok (.invokestatic 98, 3) := by decide +kernel
theorem dc_X10_guard_68 : decode m_X10_guard.2.2.1 68 = .ok (.invokestatic 122, 3) := by decide +kernel
theorem dc_X10_guard_71 : decode m_X10_guard.2.2.1 71 = .ok (.invokestatic 98, 3) := by decide +kernel
theorem dc_X10_guard_75 : decode m_X10_guard.2.2.1 75 = .ok (.invokevirtual 115, 3) := by decide +kernel
theorem dc_X10_guard_84 : decode m_X10_guard.2.2.1 84 = .ok (.invokevirtual 223, 3) := by decide +kernel
theorem dc_X10_guard_96 : decode m_X10_guard.2.2.1 96 = .ok (.invokevirtual 226, 3) := by decide +kernel
theorem dc_X10_guard_106 : decode m_X10_guard.2.2.1 106 = .ok (.invokevirtual 226, 3) := by decide +kernel
theorem dc_X10_guard_118 : decode m_X10_guard.2.2.1 118 = .ok (.invokevirtual 226, 3) := by decide +kernel
theorem dc_X10_guard_123 : decode m_X10_guard.2.2.1 123 = .ok (.ireturn, 1) := by decide +kernel
theorem ok_X10_guard_0_3 : oks m_X10_guard.1 m_X10_guard.2.2.1 0 [(.aload_n 0, 1, (0, 0, 0)), (.getfield 40, 3, (10, 4, 0)), (.iload_n 1, 1, (0, 0, 0))] = true ∧ plen 0 [(.aload_n 0, 1, (0, 0, 0)), (.getfield 40, 3, (10, 4, 0)), (.iload_n 1, 1, (0, 0, 0))] = 5 := by decide +kernel
theorem ok_X10_guard_11_2 : oks m_X10_guard.1 m_X10_guard.2.2.1 11 [(.iload_n 2, 1, (0, 0, 0)), (.iconst (-1), 1, (0, 0, 0))] = true ∧ plen 11 [(.iload_n 2, 1, (0, 0, 0)), (.iconst (-1), 1, (0, 0, 0))] = 13 := by decide +kernel
theorem ok_X10_guard_16_3 : oks m_X10_guard.1 m_X10_guard.2.2.1 16 [(.iload_n 2, 1, (0, 0, 0)), (.iconst 0, 1, (0, 0, 0)), (.iconst 3, 1, (0, 0, 0))] = true ∧ plen 16 [(.iload_n 2, 1, (0, 0, 0)), (.iconst 0, 1, (0, 0, 0)), (.iconst 3, 1, (0, 0, 0))] = 19 := by decide +kernel
theorem ok_X10_guard_25_1 : oks m_X10_guard.1 m_X10_guard.2.2.1 25 [(.iconst 1, 1, (0, 0, 0))] = true ∧ plen 25 [(.iconst 1, 1, (0, 0, 0))] = 26 := by decide +kernel
theorem ok_X10_guard_29_1 : oks m_X10_guard.1 m_X10_guard.2.2.1 29 [(.iconst 0, 1, (0, 0, 0))] = true ∧ plen 29 [(.iconst 0, 1, (0, 0, 0))] = 30 := by decide +kernel
theorem ok_X10_guard_33_1 : oks m_X10_guard.1 m_X10_guard.2.2.1 33 [(.iload_n 3, 1, (0, 0, 0))] = true ∧ plen 33 [(.iload_n 3, 1, (0, 0, 0))] = 34 := by decide +kernel
theorem ok_X10_guard_40_2 : oks m_X10_guard.1 m_X10_guard.2.2.1 40 [(.iload_n 2, 1, (0, 0, 0)), (.iconst (-1), 1, (0, 0, 0))] = true ∧ plen 40 [(.iload_n 2, 1, (0, 0, 0)), (.iconst (-1), 1, (0, 0, 0))] = 42 := by decide +kernel
theorem ok_X10_guard_45_1 : oks m_X10_guard.1 m_X10_guard.2.2.1 45 [(.iload_n 3, 1, (0, 0, 0))] = true ∧ plen 45 [(.iload_n 3, 1, (0, 0, 0))] = 46 := by decide +kernel
theorem ok_X10_guard_49_1 : oks m_X10_guard.1 m_X10_guard.2.2.1 49 [(.iconst 1, 1, (0, 0, 0))] = true ∧ plen 49 [(.iconst 1, 1, (0, 0, 0))] = 50 := by decide +kernel
theorem ok_X10_guard_53_1 : oks m_X10_guard.1 m_X10_guard.2.2.1 53 [(.iconst 0, 1, (0, 0, 0))] = true ∧ plen 53 [(.iconst 0, 1, (0, 0, 0))] = 54 := by decide +kernel
theorem ok_X10_guard_57_3 : oks m_X10_guard.1 m_X10_guard.2.2.1 57 [(.aload_n 0, 1, (0, 0, 0)), (.iload_n 1, 1, (0, 0, 0)), (.iload_n 3, 1, (0, 0, 0))] = true ∧ plen 57 [(.aload_n 0, 1, (0, 0, 0)), (.iload_n 1, 1, (0, 0, 0)), (.iload_n 3, 1, (0, 0, 0))] = 60 := by decide +kernel
theorem ok_X10_guard_66_1 : oks m_X10_guard.1 m_X10_guard.2.2.1 66 [(.iload 4, 2, (0, 0, 0))] = true ∧ plen 66 [(.iload 4, 2, (0, 0, 0))] = 68 := by decide +kernel
theorem ok_X10_guard_74_1 : oks m_X10_guard.1 m_X10_guard.2.2.1 74 [(.aload_n 0, 1, (0, 0, 0))] = true ∧ plen 74 [(.aload_n 0, 1, (0, 0, 0))] = 75 := by decide +kernel
theorem ok_X10_guard_78_4 : oks m_X10_guard.1 m_X10_guard.2.2.1 78 [(.aload_n 0, 1, (0, 0, 0)), (.getfield 40, 3, (10, 4, 0)), (.iload_n 1, 1, (0, 0, 0)), (.iconst 4, 1, (0, 0, 0))] = true ∧ plen 78 [(.aload_n 0, 1, (0, 0, 0)), (.getfield 40, 3, (10, 4, 0)), (.iload_n 1, 1, (0, 0, 0)), (.iconst 4, 1, (0, 0, 0))] = 84 := by decide +kernel
theorem ok_X10_guard_87_6 : oks m_X10_guard.1 m_X10_guard.2.2.1 87 [(.istore 5, 2, (0, 0, 0)), (.aload_n 0, 1, (0, 0, 0)), (.getfield 40, 3, (10, 4, 0)), (.iload_n 1, 1, (0, 0, 0)), (.iconst 4, 1, (0, 0, 0)), (.iload_n 2, 1, (0, 0, 0))] = true ∧ plen 87 [(.istore 5, 2, (0, 0, 0)), (.aload_n 0, 1, (0, 0, 0)), (.getfield 40, 3, (10, 4, 0)), (.iload_n 1, 1, (0, 0, 0)), (.iconst 4, 1, (0, 0, 0)), (.iload_n 2, 1, (0, 0, 0))] = 96 := by decide +kernel
theorem ok_X10_guard_99_5 : oks m_X10_guard.1 m_X10_guard.2.2.1 99 [(.aload_n 0, 1, (0, 0, 0)), (.getfield 40, 3, (10, 4, 0)), (.iload_n 1, 1, (0, 0, 0)), (.iconst 5, 1, (0, 0, 0)), (.iload_n 3, 1, (0, 0, 0))] = true ∧ plen 99 [(.aload_n 0, 1, (0, 0, 0)), (.getfield 40, 3, (10, 4, 0)), (.iload_n 1, 1, (0, 0, 0)), (.iconst 5, 1, (0, 0, 0)), (.iload_n 3, 1, (0, 0, 0))] = 106 := by decide +kernel
theorem ok_X10_guard_109_5 : oks m_X10_guard.1 m_X10_guard.2.2.1 109 [(.aload_n 0, 1, (0, 0, 0)), (.getfield 40, 3, (10, 4, 0)), (.iload_n 1, 1, (0, 0, 0)), (.bipush 6, 2, (0, 0, 0)), (.iload 4, 2, (0, 0, 0))] = true ∧ plen 109 [(.aload_n 0, 1, (0, 0, 0)), (.getfield 40, 3, (10, 4, 0)), (.iload_n 1, 1, (0, 0, 0)), (.bipush 6, 2, (0, 0, 0)), (.iload 4, 2, (0, 0, 0))] = 118 := by decide +kernel
theorem ok_X10_guard_121_1 : oks m_X10_guard.1 m_X10_guard.2.2.1 121 [(.iload 5, 2, (0, 0, 0))] = true ∧ plen 121 [(.iload 5, 2, (0, 0, 0))] = 123 := by decide +kernel
def B_X10_guard_63 (x1 : Int) (x2 : Int) (x3 : Int) (x4 : Int) (y0 : Bool) (σ : Sg) : Option ((Int ⊕ Nat) × Sg) :=
if y0 = true then
if (F_X10_isDigit x4) = true then
bnd (F_X10_forgetEngines σ) fun q3 =>
bnd (F_X4_get x1 4 q3) fun v5 =>
bnd (F_X4_set x1 4 x2 q3) fun q7 =>
bnd (F_X4_set x1 5 x3 q7) fun q9 =>
bnd (F_X4_set x1 6 x4 q9) fun q11 =>
some (.inl v5, q11)
else some (.inr 1, σ)
else some (.inr 1, σ)
def B_X10_guard_30 (x1 : Int) (x2 : Int) (x3 : Int) (x4 : Int) (y0 : Bool) (σ : Sg) : Option ((Int ⊕ Nat) × Sg) :=
if y0 = true then
if (F_X10_isName x3) = true then
if x2 = (-1) then
if x3 = 0 then
B_X10_guard_63 x1 x2 x3 x4 true σ
else
B_X10_guard_63 x1 x2 x3 x4 false σ
else
(F_X10_bindsNumber x1 x3 σ).bind fun q1 =>
B_X10_guard_63 x1 x2 x3 x4 q1 σ
else some (.inr 0, σ)
else some (.inr 0, σ)
def B_X10_guard_25 (x1 : Int) (x2 : Int) (x3 : Int) (x4 : Int) (σ : Sg) : Option ((Int ⊕ Nat) × Sg) :=
B_X10_guard_30 x1 x2 x3 x4 true σ
def F_X10_guard (a1 : Int) (a2 : Int) (a3 : Int) (a4 : Int) (σ : Sg) : Option ((Int ⊕ Nat) × Sg) :=
if (F_X4_has a1 σ) = true then
if a2 = (-1) then
B_X10_guard_25 a1 a2 a3 a4 σ
else
if (F_X10_isIn a2 0 3) = true then
B_X10_guard_25 a1 a2 a3 a4 σ
else
B_X10_guard_30 a1 a2 a3 a4 false σ
else some (.inr 0, σ)
theorem lk_X10_guard (l : Launch) (hl : l.stackTraces = false) (d : Nat) (hd : 57 ≤ d) (a1 : Int) (a2 : Int) (a3 : Int) (a4 : Int) (σ : Sg) (q : ((Int ⊕ Nat) × Sg)) (h : F_X10_guard a1 a2 a3 a4 σ = some q) : outZ (ozI q.1) l d m_X10_guard.2.1 m_X10_guard.2.2.1 m_X10_guard.2.2.2.1 m_X10_guard.2.2.2.2 [.inr 0, .inl a1, .inl a2, .inl a3, .inl a4] (LAYC, σ) (LAYC, q.2) := by
  obtain ⟨d, rfl⟩ : ∃ e, d = e + 1 := ⟨d - 1, by omega⟩
  have key : Go l m_X10_guard (d + 1) LAYC (ozI q.1) q.2 0 [some (.inr 0), some (.inl a1), some (.inl a2), some (.inl a3), some (.inl a4), none] [] σ := by
    unfold F_X10_guard at h
    have hB_X10_guard_63 : ∀ (x1 : Int) (x2 : Int) (x3 : Int) (x4 : Int) (y0 : Bool) (σ : Sg), B_X10_guard_63 x1 x2 x3 x4 y0 σ = some q → Go l m_X10_guard (d + 1) LAYC (ozI q.1) q.2 63 [some (.inr 0), some (.inl x1), some (.inl x2), some (.inl x3), some (.inl x4), none] [.inl (b2i y0)] σ := by
      intro x1 x2 x3 x4 y0 σ h
      unfold B_X10_guard_63 at h
      rcases Decidable.em (¬ y0 = true) with hc | hc
      · replace h := (if_neg hc).symm.trans h
        have h9 := Option.some.inj h
        subst h9
        exact go_SX (M1 := m_X10_demandArgument) (as := [.inl (b2i y0)]) (st := []) dc_X10_guard_63 ln_10_98 sm_X10_demandArgument rfl mk_X10_demandArgument rfl (Nat.le_of_ble_eq_true rfl) (Nat.le_refl _) (lkX_X10_demandArgument l d hl (by omega) _ hc LAYC σ) _ rfl
      replace hc := Decidable.not_not.mp hc
      replace h := (if_pos hc).symm.trans h
      refine go_S (M1 := m_X10_demandArgument) (as := [.inl (b2i y0)]) (st := []) dc_X10_guard_63 ln_10_98 sm_X10_demandArgument mk_X10_demandArgument rfl (Nat.le_of_ble_eq_true rfl) (Nat.le_refl _) (v := none) (σ1 := σ) (lk_X10_demandArgument l d _ hc _ σ) _ rfl ?_
      refine go_ops ok_X10_guard_66_1 (L' := [some (.inr 0), some (.inl x1), some (.inl x2), some (.inl x3), some (.inl x4), none]) (st' := [.inl x4]) (σ1 := σ) rfl ?_
      refine go_S (M1 := m_X10_isDigit) (as := [.inl x4]) (st := []) dc_X10_guard_68 ln_10_122 sm_X10_isDigit mk_X10_isDigit rfl (Nat.le_of_ble_eq_true rfl) (Nat.le_refl _) (v := (some (.inl (b2i (F_X10_isDigit x4))))) (σ1 := σ) (lk_X10_isDigit l d (by omega) x4 σ _ rfl) _ rfl ?_
      rcases Decidable.em (¬ (F_X10_isDigit x4) = true) with hc | hc
      · replace h := (if_neg hc).symm.trans h
        have h9 := Option.some.inj h
        subst h9
        exact go_SX (M1 := m_X10_demandArgument) (as := [.inl (b2i (F_X10_isDigit x4))]) (st := []) dc_X10_guard_71 ln_10_98 sm_X10_demandArgument rfl mk_X10_demandArgument rfl (Nat.le_of_ble_eq_true rfl) (Nat.le_refl _) (lkX_X10_demandArgument l d hl (by omega) _ hc LAYC σ) _ rfl
      replace hc := Decidable.not_not.mp hc
      replace h := (if_pos hc).symm.trans h
      refine go_S (M1 := m_X10_demandArgument) (as := [.inl (b2i (F_X10_isDigit x4))]) (st := []) dc_X10_guard_71 ln_10_98 sm_X10_demandArgument mk_X10_demandArgument rfl (Nat.le_of_ble_eq_true rfl) (Nat.le_refl _) (v := none) (σ1 := σ) (lk_X10_demandArgument l d _ hc _ σ) _ rfl ?_
      refine go_ops ok_X10_guard_74_1 (L' := [some (.inr 0), some (.inl x1), some (.inl x2), some (.inl x3), some (.inl x4), none]) (st' := [.inr 0]) (σ1 := σ) rfl ?_
      obtain ⟨q3, e4, h⟩ := bnd_inv h
      refine go_V (M1 := m_X10_forgetEngines) (as := []) (st := []) (k := 0) (ci := 10) dc_X10_guard_75 ln_10_115 im_X10_forgetEngines (by decide) rfl rfl mk_X10_forgetEngines rfl (Nat.le_of_ble_eq_true rfl) (Nat.le_refl _) (v := none) (σ1 := q3) (lk_X10_forgetEngines l d (by omega) σ q3 e4.symm) _ rfl ?_
      refine go_ops ok_X10_guard_78_4 (L' := [some (.inr 0), some (.inl x1), some (.inl x2), some (.inl x3), some (.inl x4), none]) (st' := [.inl 4, .inl x1, .inr 24]) (σ1 := q3) rfl ?_
      refine go_V (M1 := m_X4_get) (as := [.inl x1, .inl 4]) (st := []) (k := 24) (ci := 4) dc_X10_guard_84 ln_10_223 im_X4_get (by decide) rfl rfl mk_X4_get rfl (Nat.le_of_ble_eq_true rfl) (Nat.le_refl _) (v := (some (.inl (F_X4_get x1 4 q3)))) (σ1 := q3) (lk_X4_get l d (by omega) x1 4 q3 _ rfl) _ rfl ?_
      obtain ⟨v5, e6, h⟩ := bnd_inv h
      refine go_ops ok_X10_guard_87_6 (L' := [some (.inr 0), some (.inl x1), some (.inl x2), some (.inl x3), some (.inl x4), some (.inl v5)]) (st' := [.inl x2, .inl 4, .inl x1, .inr 24]) (σ1 := q3) (by subst e6; rfl) ?_
      obtain ⟨q7, e8, h⟩ := bnd_inv h
      refine go_V (M1 := m_X4_set) (as := [.inl x1, .inl 4, .inl x2]) (st := []) (k := 24) (ci := 4) dc_X10_guard_96 ln_10_226 im_X4_set (by decide) rfl rfl mk_X4_set rfl (Nat.le_of_ble_eq_true rfl) (Nat.le_refl _) (v := none) (σ1 := q7) (lk_X4_set l d (by omega) x1 4 x2 q3 q7 e8.symm) _ rfl ?_
      refine go_ops ok_X10_guard_99_5 (L' := [some (.inr 0), some (.inl x1), some (.inl x2), some (.inl x3), some (.inl x4), some (.inl v5)]) (st' := [.inl x3, .inl 5, .inl x1, .inr 24]) (σ1 := q7) rfl ?_
      obtain ⟨q9, e10, h⟩ := bnd_inv h
      refine go_V (M1 := m_X4_set) (as := [.inl x1, .inl 5, .inl x3]) (st := []) (k := 24) (ci := 4) dc_X10_guard_106 ln_10_226 im_X4_set (by decide) rfl rfl mk_X4_set rfl (Nat.le_of_ble_eq_true rfl) (Nat.le_refl _) (v := none) (σ1 := q9) (lk_X4_set l d (by omega) x1 5 x3 q7 q9 e10.symm) _ rfl ?_
      refine go_ops ok_X10_guard_109_5 (L' := [some (.inr 0), some (.inl x1), some (.inl x2), some (.inl x3), some (.inl x4), some (.inl v5)]) (st' := [.inl x4, .inl 6, .inl x1, .inr 24]) (σ1 := q9) rfl ?_
      obtain ⟨q11, e12, h⟩ := bnd_inv h
      refine go_V (M1 := m_X4_set) (as := [.inl x1, .inl 6, .inl x4]) (st := []) (k := 24) (ci := 4) dc_X10_guard_118 ln_10_226 im_X4_set (by decide) rfl rfl mk_X4_set rfl (Nat.le_of_ble_eq_true rfl) (Nat.le_refl _) (v := none) (σ1 := q11) (lk_X4_set l d (by omega) x1 6 x4 q9 q11 e12.symm) _ rfl ?_
      refine go_ops ok_X10_guard_121_1 (L' := [some (.inr 0), some (.inl x1), some (.inl x2), some (.inl x3), some (.inl x4), some (.inl v5)]) (st' := [.inl v5]) (σ1 := q11) rfl ?_
      have h9 := Option.some.inj h
      subst h9
      exact go_iret dc_X10_guard_123 rfl
    have hB_X10_guard_30 : ∀ (x1 : Int) (x2 : Int) (x3 : Int) (x4 : Int) (y0 : Bool) (σ : Sg), B_X10_guard_30 x1 x2 x3 x4 y0 σ = some q → Go l m_X10_guard (d + 1) LAYC (ozI q.1) q.2 30 [some (.inr 0), some (.inl x1), some (.inl x2), some (.inl x3), some (.inl x4), none] [.inl (b2i y0)] σ := by
      intro x1 x2 x3 x4 y0 σ h
      unfold B_X10_guard_30 at h
      rcases Decidable.em (¬ y0 = true) with hc | hc
      · replace h := (if_neg hc).symm.trans h
        have h9 := Option.some.inj h
        subst h9
        exact go_SX (M1 := m_X10_demandIndex) (as := [.inl (b2i y0)]) (st := []) dc_X10_guard_30 ln_10_90 sm_X10_demandIndex rfl mk_X10_demandIndex rfl (Nat.le_of_ble_eq_true rfl) (Nat.le_refl _) (lkX_X10_demandIndex l d hl (by omega) _ hc LAYC σ) _ rfl
      replace hc := Decidable.not_not.mp hc
      replace h := (if_pos hc).symm.trans h
      refine go_S (M1 := m_X10_demandIndex) (as := [.inl (b2i y0)]) (st := []) dc_X10_guard_30 ln_10_90 sm_X10_demandIndex mk_X10_demandIndex rfl (Nat.le_of_ble_eq_true rfl) (Nat.le_refl _) (v := none) (σ1 := σ) (lk_X10_demandIndex l d _ hc _ σ) _ rfl ?_
      refine go_ops ok_X10_guard_33_1 (L' := [some (.inr 0), some (.inl x1), some (.inl x2), some (.inl x3), some (.inl x4), none]) (st' := [.inl x3]) (σ1 := σ) rfl ?_
      refine go_S (M1 := m_X10_isName) (as := [.inl x3]) (st := []) dc_X10_guard_34 ln_10_159 sm_X10_isName mk_X10_isName rfl (Nat.le_of_ble_eq_true rfl) (Nat.le_refl _) (v := (some (.inl (b2i (F_X10_isName x3))))) (σ1 := σ) (lk_X10_isName l d (by omega) x3 σ _ rfl) _ rfl ?_
      rcases Decidable.em (¬ (F_X10_isName x3) = true) with hc | hc
      · replace h := (if_neg hc).symm.trans h
        have h9 := Option.some.inj h
        subst h9
        exact go_SX (M1 := m_X10_demandIndex) (as := [.inl (b2i (F_X10_isName x3))]) (st := []) dc_X10_guard_37 ln_10_90 sm_X10_demandIndex rfl mk_X10_demandIndex rfl (Nat.le_of_ble_eq_true rfl) (Nat.le_refl _) (lkX_X10_demandIndex l d hl (by omega) _ hc LAYC σ) _ rfl
      replace hc := Decidable.not_not.mp hc
      replace h := (if_pos hc).symm.trans h
      refine go_S (M1 := m_X10_demandIndex) (as := [.inl (b2i (F_X10_isName x3))]) (st := []) dc_X10_guard_37 ln_10_90 sm_X10_demandIndex mk_X10_demandIndex rfl (Nat.le_of_ble_eq_true rfl) (Nat.le_refl _) (v := none) (σ1 := σ) (lk_X10_demandIndex l d _ hc _ σ) _ rfl ?_
      refine go_ops ok_X10_guard_40_2 (L' := [some (.inr 0), some (.inl x1), some (.inl x2), some (.inl x3), some (.inl x4), none]) (st' := [.inl (-1), .inl x2]) (σ1 := σ) rfl ?_
      refine go_icmp_ne dc_X10_guard_42 (by rfl) (fun hc => ?_) (fun hc => ?_)
      · replace h := (if_neg hc).symm.trans h
        refine go_ops ok_X10_guard_57_3 (L' := [some (.inr 0), some (.inl x1), some (.inl x2), some (.inl x3), some (.inl x4), none]) (st' := [.inl x3, .inl x1, .inr 0]) (σ1 := σ) rfl ?_
        obtain ⟨q1, e2, h⟩ := bind_inv h
        refine go_V (M1 := m_X10_bindsNumber) (as := [.inl x1, .inl x3]) (st := []) (k := 0) (ci := 10) dc_X10_guard_60 ln_10_220 im_X10_bindsNumber (by decide) rfl rfl mk_X10_bindsNumber rfl (Nat.le_of_ble_eq_true rfl) (Nat.le_refl _) (v := (some (.inl (b2i q1)))) (σ1 := σ) (lk_X10_bindsNumber l d (by omega) x1 x3 σ q1 e2) _ rfl ?_
        exact hB_X10_guard_63 x1 x2 x3 x4 q1 σ h
      · replace h := (if_pos hc).symm.trans h
        refine go_ops ok_X10_guard_45_1 (L' := [some (.inr 0), some (.inl x1), some (.inl x2), some (.inl x3), some (.inl x4), none]) (st' := [.inl x3]) (σ1 := σ) rfl ?_
        refine go_if_ne dc_X10_guard_46 (by rfl) (fun hc => ?_) (fun hc => ?_)
        · replace h := (if_neg hc).symm.trans h
          refine go_ops ok_X10_guard_53_1 (L' := [some (.inr 0), some (.inl x1), some (.inl x2), some (.inl x3), some (.inl x4), none]) (st' := [.inl 0]) (σ1 := σ) rfl ?_
          refine go_goto dc_X10_guard_54 (by rfl) ?_
          exact hB_X10_guard_63 x1 x2 x3 x4 false σ h
        · replace h := (if_pos hc).symm.trans h
          refine go_ops ok_X10_guard_49_1 (L' := [some (.inr 0), some (.inl x1), some (.inl x2), some (.inl x3), some (.inl x4), none]) (st' := [.inl 1]) (σ1 := σ) rfl ?_
          refine go_goto dc_X10_guard_50 (by rfl) ?_
          exact hB_X10_guard_63 x1 x2 x3 x4 true σ h
    have hB_X10_guard_25 : ∀ (x1 : Int) (x2 : Int) (x3 : Int) (x4 : Int) (σ : Sg), B_X10_guard_25 x1 x2 x3 x4 σ = some q → Go l m_X10_guard (d + 1) LAYC (ozI q.1) q.2 25 [some (.inr 0), some (.inl x1), some (.inl x2), some (.inl x3), some (.inl x4), none] [] σ := by
      intro x1 x2 x3 x4 σ h
      unfold B_X10_guard_25 at h
      refine go_ops ok_X10_guard_25_1 (L' := [some (.inr 0), some (.inl x1), some (.inl x2), some (.inl x3), some (.inl x4), none]) (st' := [.inl 1]) (σ1 := σ) rfl ?_
      refine go_goto dc_X10_guard_26 (by rfl) ?_
      exact hB_X10_guard_30 x1 x2 x3 x4 true σ h
    refine go_ops ok_X10_guard_0_3 (L' := [some (.inr 0), some (.inl a1), some (.inl a2), some (.inl a3), some (.inl a4), none]) (st' := [.inl a1, .inr 24]) (σ1 := σ) rfl ?_
    refine go_V (M1 := m_X4_has) (as := [.inl a1]) (st := []) (k := 24) (ci := 4) dc_X10_guard_5 ln_10_218 im_X4_has (by decide) rfl rfl mk_X4_has rfl (Nat.le_of_ble_eq_true rfl) (Nat.le_refl _) (v := (some (.inl (b2i (F_X4_has a1 σ))))) (σ1 := σ) (lk_X4_has l d (by omega) a1 σ _ rfl) _ rfl ?_
    rcases Decidable.em (¬ (F_X4_has a1 σ) = true) with hc | hc
    · replace h := (if_neg hc).symm.trans h
      have h9 := Option.some.inj h
      subst h9
      exact go_SX (M1 := m_X10_demandIndex) (as := [.inl (b2i (F_X4_has a1 σ))]) (st := []) dc_X10_guard_8 ln_10_90 sm_X10_demandIndex rfl mk_X10_demandIndex rfl (Nat.le_of_ble_eq_true rfl) (Nat.le_refl _) (lkX_X10_demandIndex l d hl (by omega) _ hc LAYC σ) _ rfl
    replace hc := Decidable.not_not.mp hc
    replace h := (if_pos hc).symm.trans h
    refine go_S (M1 := m_X10_demandIndex) (as := [.inl (b2i (F_X4_has a1 σ))]) (st := []) dc_X10_guard_8 ln_10_90 sm_X10_demandIndex mk_X10_demandIndex rfl (Nat.le_of_ble_eq_true rfl) (Nat.le_refl _) (v := none) (σ1 := σ) (lk_X10_demandIndex l d _ hc _ σ) _ rfl ?_
    refine go_ops ok_X10_guard_11_2 (L' := [some (.inr 0), some (.inl a1), some (.inl a2), some (.inl a3), some (.inl a4), none]) (st' := [.inl (-1), .inl a2]) (σ1 := σ) rfl ?_
    refine go_icmp_eq dc_X10_guard_13 (by rfl) (fun hc => ?_) (fun hc => ?_)
    · replace h := (if_pos hc).symm.trans h
      exact hB_X10_guard_25 a1 a2 a3 a4 σ h
    · replace h := (if_neg hc).symm.trans h
      refine go_ops ok_X10_guard_16_3 (L' := [some (.inr 0), some (.inl a1), some (.inl a2), some (.inl a3), some (.inl a4), none]) (st' := [.inl 3, .inl 0, .inl a2]) (σ1 := σ) rfl ?_
      refine go_S (M1 := m_X10_isIn) (as := [.inl a2, .inl 0, .inl 3]) (st := []) dc_X10_guard_19 ln_10_94 sm_X10_isIn mk_X10_isIn rfl (Nat.le_of_ble_eq_true rfl) (Nat.le_refl _) (v := (some (.inl (b2i (F_X10_isIn a2 0 3))))) (σ1 := σ) (lk_X10_isIn l d (by omega) a2 0 3 σ _ rfl) _ rfl ?_
      refine go_ifb_eq dc_X10_guard_22 (by rfl) (fun hc => ?_) (fun hc => ?_)
      · replace h := (if_neg hc).symm.trans h
        refine go_ops ok_X10_guard_29_1 (L' := [some (.inr 0), some (.inl a1), some (.inl a2), some (.inl a3), some (.inl a4), none]) (st' := [.inl 0]) (σ1 := σ) rfl ?_
        exact hB_X10_guard_30 a1 a2 a3 a4 false σ h
      · replace h := (if_pos hc).symm.trans h
        exact hB_X10_guard_25 a1 a2 a3 a4 σ h
  have hf := go_co (as := [.inr 0, .inl a1, .inl a2, .inl a3, .inl a4]) mk_X10_guard (fun _ _ => by decide +kernel) (by rfl) (Nat.le_of_ble_eq_true rfl) key
  exact hf
theorem dc_X10_split_5 : decode m_X10_split.2.2.1 5 = .ok (.invokevirtual 218, 3) := by decide +kernel
theorem dc_X10_split_8 : decode m_X10_split.2.2.1 8 = .ok (.ifCond .eq 18, 3) := by decide +kernel
theorem dc_X10_split_16 : decode m_X10_split.2.2.1 16 = .ok (.invokevirtual 230, 3) := by decide +kernel
theorem dc_X10_split_19 : decode m_X10_split.2.2.1 19 = .ok (.ifCond .eq 7, 3) := by decide +kernel
theorem dc_X10_split_23 : decode m_X10_split.2.2.1 23 = .ok (.goto 4, 3) := by decide +kernel
theorem dc_X10_split_27 : decode m_X10_split.2.2.1 27 = .ok (.invokestatic 90, 3) := by decide +kernel
theorem dc_X10_split_36 : decode m_X10_split.2.2.1 36 = .ok (.invokevirtual 223, 3) := by decide +kernel
theorem dc_X10_split_46 : decode m_X10_split.2.2.1 46 = .ok (.invokevirtual 223, 3) := by decide +kernel
theorem dc_X10_split_50 : decode m_X10_split.2.2.1 50 = .ok (.if_icmp .ne 7, 3) := by decide +kernel
theorem dc_X10_split_54 : decode m_X10_split.2.2.1 54 = .ok (.goto 4, 3) := by decide +kernel
theorem dc_X10_split_58 : decode m_X10_split.2.2.1 58 = .ok (.invokestatic 112, 3) := by decide +kernel
theorem dc_X10_split_66 : decode m_X10_split.2.2.1 66 = .ok (.invokevirtual 233, 3) := by decide +kernel
theorem dc_X10_split_70 : decode m_X10_split.2.2.1 70 = .ok (.if_icmp .ne 18, 3) := by decide +kernel
theorem dc_X10_split_78 : decode m_X10_split.2.2.1 78 = .ok (.invokevirtual 236, 3) := by decide +kernel
theorem dc_X10_split_81 : decode m_X10_split.2.2.1 81 = .ok (.ifCond .ne 7, 3) := by decide +kernel
theorem dc_X10_split_85 : decode m_X10_split.2.2.1 85 = .ok (.goto 4, 3) := by decide +kernel
theorem dc_X10_split_89 : decode m_X10_split.2.2.1 89 = .ok (.invokestatic 112, 3) := by decide +kernel
theorem dc_X10_split_96 : decode m_X10_split.2.2.1 96 = .ok (.invokevirtual 212, 3) := by decide +kernel
theorem dc_X10_split_101 : decode m_X10_split.2.2.1 101 = .ok (.if_icmp .ge 7, 3) := by decide +kernel
theorem dc_X10_split_105 : decode m_X10_split.2.2.1 105 = .ok (.goto 4, 3) := by decide +kernel
theorem dc_X10_split_109 : decode m_X10_split.2.2.1 109 = .ok (.invokestatic 112, 3) := by decide +kernel
theorem dc_X10_split_113 : decode m_X10_split.2.2.1 113 = .ok (.invokevirtual 115, 3) := by decide +kernel
theorem dc_X10_split_121 : decode m_X10_split.2.2.1 121 = .ok (.invokevirtual 239, 3) := by decide +kernel
theorem dc_X10_split_136 : decode m_X10_split.2.2.1 136 = .ok (.invokevirtual 243, 3) := by decide +kernel
theorem dc_X10_split_139 : decode m_X10_split.2.2.1 139 = .ok (.invokevirtual 226, 3) := by decide +kernel
theorem dc_X10_split_156 : decode m_X10_split.2.2.1 156 = .ok (.invokevirtual 243, 3) := by decide +kernel
theorem dc_X10_split_159 : decode m_X10_split.2.2.1 159 = .ok (.invokevirtual 226, 3) := by decide +kernel
theorem dc_X10_split_166 : decode m_X10_split.2.2.1 166 = .ok (.invokevirtual 212, 3) := by decide +kernel
theorem dc_X10_split_169 : decode m_X10_split.2.2.1 169 = .ok (.ireturn, 1) := by decide +kernel
theorem ok_X10_split_0_3 : oks m_X10_split.1 m_X10_split.2.2.1 0 [(.aload_n 0, 1, (0, 0, 0)), (.getfield 40, 3, (10, 4, 0)), (.iload_n 1, 1, (0, 0, 0))] = true ∧ plen 0 [(.aload_n 0, 1, (0, 0, 0)), (.getfield 40, 3, (10, 4, 0)), (.iload_n 1, 1, (0, 0, 0))] = 5 := by decide +kernel
theorem ok_X10_split_11_3 : oks m_X10_split.1 m_X10_split.2.2.1 11 [(.aload_n 0, 1, (0, 0, 0)), (.getfield 40, 3, (10, 4, 0)), (.iload_n 2, 1, (0, 0, 0))] = true ∧ plen 11 [(.aload_n 0, 1, (0, 0, 0)), (.getfield 40, 3, (10, 4, 0)), (.iload_n 2, 1, (0, 0, 0))] = 16 := by decide +kernel
theorem ok_X10_split_22_1 : oks m_X10_split.1 m_X10_split.2.2.1 22 [(.iconst 1, 1, (0, 0, 0))] = true ∧ plen 22 [(.iconst 1, 1, (0, 0, 0))] = 23 := by decide +kernel
theorem ok_X10_split_26_1 : oks m_X10_split.1 m_X10_split.2.2.1 26 [(.iconst 0, 1, (0, 0, 0))] = true ∧ plen 26 [(.iconst 0, 1, (0, 0, 0))] = 27 := by decide +kernel
theorem ok_X10_split_30_4 : oks m_X10_split.1 m_X10_split.2.2.1 30 [(.aload_n 0, 1, (0, 0, 0)), (.getfield 40, 3, (10, 4, 0)), (.iload_n 1, 1, (0, 0, 0)), (.iload_n 2, 1, (0, 0, 0))] = true ∧ plen 30 [(.aload_n 0, 1, (0, 0, 0)), (.getfield 40, 3, (10, 4, 0)), (.iload_n 1, 1, (0, 0, 0)), (.iload_n 2, 1, (0, 0, 0))] = 36 := by decide +kernel
theorem ok_X10_split_39_5 : oks m_X10_split.1 m_X10_split.2.2.1 39 [(.istore_n 3, 1, (0, 0, 0)), (.aload_n 0, 1, (0, 0, 0)), (.getfield 40, 3, (10, 4, 0)), (.iload_n 1, 1, (0, 0, 0)), (.iconst 4, 1, (0, 0, 0))] = true ∧ plen 39 [(.istore_n 3, 1, (0, 0, 0)), (.aload_n 0, 1, (0, 0, 0)), (.getfield 40, 3, (10, 4, 0)), (.iload_n 1, 1, (0, 0, 0)), (.iconst 4, 1, (0, 0, 0))] = 46 := by decide +kernel
theorem ok_X10_split_49_1 : oks m_X10_split.1 m_X10_split.2.2.1 49 [(.iconst (-1), 1, (0, 0, 0))] = true ∧ plen 49 [(.iconst (-1), 1, (0, 0, 0))] = 50 := by decide +kernel
theorem ok_X10_split_53_1 : oks m_X10_split.1 m_X10_split.2.2.1 53 [(.iconst 1, 1, (0, 0, 0))] = true ∧ plen 53 [(.iconst 1, 1, (0, 0, 0))] = 54 := by decide +kernel
theorem ok_X10_split_57_1 : oks m_X10_split.1 m_X10_split.2.2.1 57 [(.iconst 0, 1, (0, 0, 0))] = true ∧ plen 57 [(.iconst 0, 1, (0, 0, 0))] = 58 := by decide +kernel
theorem ok_X10_split_61_3 : oks m_X10_split.1 m_X10_split.2.2.1 61 [(.aload_n 0, 1, (0, 0, 0)), (.getfield 26, 3, (10, 2, 0)), (.iload_n 3, 1, (0, 0, 0))] = true ∧ plen 61 [(.aload_n 0, 1, (0, 0, 0)), (.getfield 26, 3, (10, 2, 0)), (.iload_n 3, 1, (0, 0, 0))] = 66 := by decide +kernel
theorem ok_X10_split_69_1 : oks m_X10_split.1 m_X10_split.2.2.1 69 [(.iconst 4, 1, (0, 0, 0))] = true ∧ plen 69 [(.iconst 4, 1, (0, 0, 0))] = 70 := by decide +kernel
theorem ok_X10_split_73_3 : oks m_X10_split.1 m_X10_split.2.2.1 73 [(.aload_n 0, 1, (0, 0, 0)), (.getfield 26, 3, (10, 2, 0)), (.iload_n 3, 1, (0, 0, 0))] = true ∧ plen 73 [(.aload_n 0, 1, (0, 0, 0)), (.getfield 26, 3, (10, 2, 0)), (.iload_n 3, 1, (0, 0, 0))] = 78 := by decide +kernel
theorem ok_X10_split_84_1 : oks m_X10_split.1 m_X10_split.2.2.1 84 [(.iconst 1, 1, (0, 0, 0))] = true ∧ plen 84 [(.iconst 1, 1, (0, 0, 0))] = 85 := by decide +kernel
theorem ok_X10_split_88_1 : oks m_X10_split.1 m_X10_split.2.2.1 88 [(.iconst 0, 1, (0, 0, 0))] = true ∧ plen 88 [(.iconst 0, 1, (0, 0, 0))] = 89 := by decide +kernel
theorem ok_X10_split_92_2 : oks m_X10_split.1 m_X10_split.2.2.1 92 [(.aload_n 0, 1, (0, 0, 0)), (.getfield 40, 3, (10, 4, 0))] = true ∧ plen 92 [(.aload_n 0, 1, (0, 0, 0)), (.getfield 40, 3, (10, 4, 0))] = 96 := by decide +kernel
theorem ok_X10_split_99_1 : oks m_X10_split.1 m_X10_split.2.2.1 99 [(.bipush 8, 2, (0, 0, 0))] = true ∧ plen 99 [(.bipush 8, 2, (0, 0, 0))] = 101 := by decide +kernel
theorem ok_X10_split_104_1 : oks m_X10_split.1 m_X10_split.2.2.1 104 [(.iconst 1, 1, (0, 0, 0))] = true ∧ plen 104 [(.iconst 1, 1, (0, 0, 0))] = 105 := by decide +kernel
theorem ok_X10_split_108_1 : oks m_X10_split.1 m_X10_split.2.2.1 108 [(.iconst 0, 1, (0, 0, 0))] = true ∧ plen 108 [(.iconst 0, 1, (0, 0, 0))] = 109 := by decide +kernel
theorem ok_X10_split_112_1 : oks m_X10_split.1 m_X10_split.2.2.1 112 [(.aload_n 0, 1, (0, 0, 0))] = true ∧ plen 112 [(.aload_n 0, 1, (0, 0, 0))] = 113 := by decide +kernel
theorem ok_X10_split_116_3 : oks m_X10_split.1 m_X10_split.2.2.1 116 [(.aload_n 0, 1, (0, 0, 0)), (.getfield 40, 3, (10, 4, 0)), (.iload_n 1, 1, (0, 0, 0))] = true ∧ plen 116 [(.aload_n 0, 1, (0, 0, 0)), (.getfield 40, 3, (10, 4, 0)), (.iload_n 1, 1, (0, 0, 0))] = 121 := by decide +kernel
theorem ok_X10_split_124_8 : oks m_X10_split.1 m_X10_split.2.2.1 124 [(.aload_n 0, 1, (0, 0, 0)), (.getfield 40, 3, (10, 4, 0)), (.iload_n 1, 1, (0, 0, 0)), (.iload_n 2, 1, (0, 0, 0)), (.aload_n 0, 1, (0, 0, 0)), (.getfield 26, 3, (10, 2, 0)), (.iload_n 3, 1, (0, 0, 0)), (.iconst 0, 1, (0, 0, 0))] = true ∧ plen 124 [(.aload_n 0, 1, (0, 0, 0)), (.getfield 40, 3, (10, 4, 0)), (.iload_n 1, 1, (0, 0, 0)), (.iload_n 2, 1, (0, 0, 0)), (.aload_n 0, 1, (0, 0, 0)), (.getfield 26, 3, (10, 2, 0)), (.iload_n 3, 1, (0, 0, 0)), (.iconst 0, 1, (0, 0, 0))] = 136 := by decide +kernel
theorem ok_X10_split_142_10 : oks m_X10_split.1 m_X10_split.2.2.1 142 [(.aload_n 0, 1, (0, 0, 0)), (.getfield 40, 3, (10, 4, 0)), (.iload_n 1, 1, (0, 0, 0)), (.iconst 1, 1, (0, 0, 0)), (.iadd, 1, (0, 0, 0)), (.iload_n 2, 1, (0, 0, 0)), (.aload_n 0, 1, (0, 0, 0)), (.getfield 26, 3, (10, 2, 0)), (.iload_n 3, 1, (0, 0, 0)), (.iconst 1, 1, (0, 0, 0))] = true ∧ plen 142 [(.aload_n 0, 1, (0, 0, 0)), (.getfield 40, 3, (10, 4, 0)), (.iload_n 1, 1, (0, 0, 0)), (.iconst 1, 1, (0, 0, 0)), (.iadd, 1, (0, 0, 0)), (.iload_n 2, 1, (0, 0, 0)), (.aload_n 0, 1, (0, 0, 0)), (.getfield 26, 3, (10, 2, 0)), (.iload_n 3, 1, (0, 0, 0)), (.iconst 1, 1, (0, 0, 0))] = 156 := by decide +kernel
theorem ok_X10_split_162_2 : oks m_X10_split.1 m_X10_split.2.2.1 162 [(.aload_n 0, 1, (0, 0, 0)), (.getfield 40, 3, (10, 4, 0))] = true ∧ plen 162 [(.aload_n 0, 1, (0, 0, 0)), (.getfield 40, 3, (10, 4, 0))] = 166 := by decide +kernel
def B_X10_split_109 (x1 : Int) (x2 : Int) (x3 : Int) (y0 : Bool) (σ : Sg) : Option ((Int ⊕ Nat) × Sg) :=
if y0 = true then
bnd (F_X10_forgetEngines σ) fun q3 =>
(F_X4_doubleCase x1 q3).bind fun q5 =>
bnd (F_X4_set x1 x2 (F_X5_partOf x3 0 q5) q5) fun q7 =>
bnd (F_X4_set (wrap (x1 + 1)) x2 (F_X5_partOf x3 1 q7) q7) fun q9 =>
some (.inl (F_X4_count q9), q9)
else some (.inr 2, σ)
def B_X10_split_89 (x1 : Int) (x2 : Int) (x3 : Int) (y0 : Bool) (σ : Sg) : Option ((Int ⊕ Nat) × Sg) :=
if y0 = true then
if 8 ≤ (F_X4_count σ) then
B_X10_split_109 x1 x2 x3 false σ
else
B_X10_split_109 x1 x2 x3 true σ
else some (.inr 2, σ)
def B_X10_split_88 (x1 : Int) (x2 : Int) (x3 : Int) (σ : Sg) : Option ((Int ⊕ Nat) × Sg) :=
B_X10_split_89 x1 x2 x3 false σ
def B_X10_split_58 (x1 : Int) (x2 : Int) (x3 : Int) (y0 : Bool) (σ : Sg) : Option ((Int ⊕ Nat) × Sg) :=
if y0 = true then
if (F_X5_sortOf x3 σ) = 4 then
if (F_X5_hasView x3 σ) = true then
B_X10_split_88 x1 x2 x3 σ
else
B_X10_split_89 x1 x2 x3 true σ
else
B_X10_split_88 x1 x2 x3 σ
else some (.inr 2, σ)
def B_X10_split_27 (x1 : Int) (x2 : Int) (y0 : Bool) (σ : Sg) : Option ((Int ⊕ Nat) × Sg) :=
if y0 = true then
bnd (F_X4_get x1 x2 σ) fun v1 =>
if (F_X4_get x1 4 σ) = (-1) then
B_X10_split_58 x1 x2 v1 true σ
else
B_X10_split_58 x1 x2 v1 false σ
else some (.inr 0, σ)
def B_X10_split_26 (x1 : Int) (x2 : Int) (σ : Sg) : Option ((Int ⊕ Nat) × Sg) :=
B_X10_split_27 x1 x2 false σ
def F_X10_split (a1 : Int) (a2 : Int) (σ : Sg) : Option ((Int ⊕ Nat) × Sg) :=
if (F_X4_has a1 σ) = true then
if (F_X4_hasColumn a2 σ) = true then
B_X10_split_27 a1 a2 true σ
else
B_X10_split_26 a1 a2 σ
else
B_X10_split_26 a1 a2 σ
theorem lk_X10_split (l : Launch) (hl : l.stackTraces = false) (d : Nat) (hd : 7 ≤ d) (a1 : Int) (a2 : Int) (σ : Sg) (q : ((Int ⊕ Nat) × Sg)) (h : F_X10_split a1 a2 σ = some q) : outZ (ozI q.1) l d m_X10_split.2.1 m_X10_split.2.2.1 m_X10_split.2.2.2.1 m_X10_split.2.2.2.2 [.inr 0, .inl a1, .inl a2] (LAYC, σ) (LAYC, q.2) := by
  obtain ⟨d, rfl⟩ : ∃ e, d = e + 1 := ⟨d - 1, by omega⟩
  have key : Go l m_X10_split (d + 1) LAYC (ozI q.1) q.2 0 [some (.inr 0), some (.inl a1), some (.inl a2), none] [] σ := by
    unfold F_X10_split at h
    have hB_X10_split_109 : ∀ (x1 : Int) (x2 : Int) (x3 : Int) (y0 : Bool) (σ : Sg), B_X10_split_109 x1 x2 x3 y0 σ = some q → Go l m_X10_split (d + 1) LAYC (ozI q.1) q.2 109 [some (.inr 0), some (.inl x1), some (.inl x2), some (.inl x3)] [.inl (b2i y0)] σ := by
      intro x1 x2 x3 y0 σ h
      unfold B_X10_split_109 at h
      rcases Decidable.em (¬ y0 = true) with hc | hc
      · replace h := (if_neg hc).symm.trans h
        have h9 := Option.some.inj h
        subst h9
        exact go_SX (M1 := m_X10_demandState) (as := [.inl (b2i y0)]) (st := []) dc_X10_split_109 ln_10_112 sm_X10_demandState rfl mk_X10_demandState rfl (Nat.le_of_ble_eq_true rfl) (Nat.le_refl _) (lkX_X10_demandState l d hl (by omega) _ hc LAYC σ) _ rfl
      replace hc := Decidable.not_not.mp hc
      replace h := (if_pos hc).symm.trans h
      refine go_S (M1 := m_X10_demandState) (as := [.inl (b2i y0)]) (st := []) dc_X10_split_109 ln_10_112 sm_X10_demandState mk_X10_demandState rfl (Nat.le_of_ble_eq_true rfl) (Nat.le_refl _) (v := none) (σ1 := σ) (lk_X10_demandState l d _ hc _ σ) _ rfl ?_
      refine go_ops ok_X10_split_112_1 (L' := [some (.inr 0), some (.inl x1), some (.inl x2), some (.inl x3)]) (st' := [.inr 0]) (σ1 := σ) rfl ?_
      obtain ⟨q3, e4, h⟩ := bnd_inv h
      refine go_V (M1 := m_X10_forgetEngines) (as := []) (st := []) (k := 0) (ci := 10) dc_X10_split_113 ln_10_115 im_X10_forgetEngines (by decide) rfl rfl mk_X10_forgetEngines rfl (Nat.le_of_ble_eq_true rfl) (Nat.le_refl _) (v := none) (σ1 := q3) (lk_X10_forgetEngines l d (by omega) σ q3 e4.symm) _ rfl ?_
      refine go_ops ok_X10_split_116_3 (L' := [some (.inr 0), some (.inl x1), some (.inl x2), some (.inl x3)]) (st' := [.inl x1, .inr 24]) (σ1 := q3) rfl ?_
      obtain ⟨q5, e6, h⟩ := bind_inv h
      refine go_V (M1 := m_X4_doubleCase) (as := [.inl x1]) (st := []) (k := 24) (ci := 4) dc_X10_split_121 ln_10_239 im_X4_doubleCase (by decide) rfl rfl mk_X4_doubleCase rfl (Nat.le_of_ble_eq_true rfl) (Nat.le_refl _) (v := none) (σ1 := q5) (lk_X4_doubleCase l d (by omega) x1 q3 q5 e6) _ rfl ?_
      refine go_ops ok_X10_split_124_8 (L' := [some (.inr 0), some (.inl x1), some (.inl x2), some (.inl x3)]) (st' := [.inl 0, .inl x3, .inr 10, .inl x2, .inl x1, .inr 24]) (σ1 := q5) rfl ?_
      refine go_V (M1 := m_X5_partOf) (as := [.inl x3, .inl 0]) (st := [.inl x2, .inl x1, .inr 24]) (k := 10) (ci := 5) dc_X10_split_136 ln_10_243 im_X5_partOf (by decide) rfl rfl mk_X5_partOf rfl (Nat.le_of_ble_eq_true rfl) (Nat.le_refl _) (v := (some (.inl (F_X5_partOf x3 0 q5)))) (σ1 := q5) (lk_X5_partOf l d (by omega) x3 0 q5 _ rfl) _ rfl ?_
      obtain ⟨q7, e8, h⟩ := bnd_inv h
      refine go_V (M1 := m_X4_set) (as := [.inl x1, .inl x2, .inl (F_X5_partOf x3 0 q5)]) (st := []) (k := 24) (ci := 4) dc_X10_split_139 ln_10_226 im_X4_set (by decide) rfl rfl mk_X4_set rfl (Nat.le_of_ble_eq_true rfl) (Nat.le_refl _) (v := none) (σ1 := q7) (lk_X4_set l d (by omega) x1 x2 (F_X5_partOf x3 0 q5) q5 q7 e8.symm) _ rfl ?_
      refine go_ops ok_X10_split_142_10 (L' := [some (.inr 0), some (.inl x1), some (.inl x2), some (.inl x3)]) (st' := [.inl 1, .inl x3, .inr 10, .inl x2, .inl (wrap (x1 + 1)), .inr 24]) (σ1 := q7) rfl ?_
      refine go_V (M1 := m_X5_partOf) (as := [.inl x3, .inl 1]) (st := [.inl x2, .inl (wrap (x1 + 1)), .inr 24]) (k := 10) (ci := 5) dc_X10_split_156 ln_10_243 im_X5_partOf (by decide) rfl rfl mk_X5_partOf rfl (Nat.le_of_ble_eq_true rfl) (Nat.le_refl _) (v := (some (.inl (F_X5_partOf x3 1 q7)))) (σ1 := q7) (lk_X5_partOf l d (by omega) x3 1 q7 _ rfl) _ rfl ?_
      obtain ⟨q9, e10, h⟩ := bnd_inv h
      refine go_V (M1 := m_X4_set) (as := [.inl (wrap (x1 + 1)), .inl x2, .inl (F_X5_partOf x3 1 q7)]) (st := []) (k := 24) (ci := 4) dc_X10_split_159 ln_10_226 im_X4_set (by decide) rfl rfl mk_X4_set rfl (Nat.le_of_ble_eq_true rfl) (Nat.le_refl _) (v := none) (σ1 := q9) (lk_X4_set l d (by omega) (wrap (x1 + 1)) x2 (F_X5_partOf x3 1 q7) q7 q9 e10.symm) _ rfl ?_
      refine go_ops ok_X10_split_162_2 (L' := [some (.inr 0), some (.inl x1), some (.inl x2), some (.inl x3)]) (st' := [.inr 24]) (σ1 := q9) rfl ?_
      refine go_V (M1 := m_X4_count) (as := []) (st := []) (k := 24) (ci := 4) dc_X10_split_166 ln_10_212 im_X4_count (by decide) rfl rfl mk_X4_count rfl (Nat.le_of_ble_eq_true rfl) (Nat.le_refl _) (v := (some (.inl (F_X4_count q9)))) (σ1 := q9) (lk_X4_count l d (by omega) q9 _ rfl) _ rfl ?_
      have h9 := Option.some.inj h
      subst h9
      exact go_iret dc_X10_split_169 rfl
    have hB_X10_split_89 : ∀ (x1 : Int) (x2 : Int) (x3 : Int) (y0 : Bool) (σ : Sg), B_X10_split_89 x1 x2 x3 y0 σ = some q → Go l m_X10_split (d + 1) LAYC (ozI q.1) q.2 89 [some (.inr 0), some (.inl x1), some (.inl x2), some (.inl x3)] [.inl (b2i y0)] σ := by
      intro x1 x2 x3 y0 σ h
      unfold B_X10_split_89 at h
      rcases Decidable.em (¬ y0 = true) with hc | hc
      · replace h := (if_neg hc).symm.trans h
        have h9 := Option.some.inj h
        subst h9
        exact go_SX (M1 := m_X10_demandState) (as := [.inl (b2i y0)]) (st := []) dc_X10_split_89 ln_10_112 sm_X10_demandState rfl mk_X10_demandState rfl (Nat.le_of_ble_eq_true rfl) (Nat.le_refl _) (lkX_X10_demandState l d hl (by omega) _ hc LAYC σ) _ rfl
      replace hc := Decidable.not_not.mp hc
      replace h := (if_pos hc).symm.trans h
      refine go_S (M1 := m_X10_demandState) (as := [.inl (b2i y0)]) (st := []) dc_X10_split_89 ln_10_112 sm_X10_demandState mk_X10_demandState rfl (Nat.le_of_ble_eq_true rfl) (Nat.le_refl _) (v := none) (σ1 := σ) (lk_X10_demandState l d _ hc _ σ) _ rfl ?_
      refine go_ops ok_X10_split_92_2 (L' := [some (.inr 0), some (.inl x1), some (.inl x2), some (.inl x3)]) (st' := [.inr 24]) (σ1 := σ) rfl ?_
      refine go_V (M1 := m_X4_count) (as := []) (st := []) (k := 24) (ci := 4) dc_X10_split_96 ln_10_212 im_X4_count (by decide) rfl rfl mk_X4_count rfl (Nat.le_of_ble_eq_true rfl) (Nat.le_refl _) (v := (some (.inl (F_X4_count σ)))) (σ1 := σ) (lk_X4_count l d (by omega) σ _ rfl) _ rfl ?_
      refine go_ops ok_X10_split_99_1 (L' := [some (.inr 0), some (.inl x1), some (.inl x2), some (.inl x3)]) (st' := [.inl 8, .inl (F_X4_count σ)]) (σ1 := σ) rfl ?_
      refine go_icmp_ge dc_X10_split_101 (by rfl) (fun hc => ?_) (fun hc => ?_)
      · replace h := (if_pos hc).symm.trans h
        refine go_ops ok_X10_split_108_1 (L' := [some (.inr 0), some (.inl x1), some (.inl x2), some (.inl x3)]) (st' := [.inl 0]) (σ1 := σ) rfl ?_
        exact hB_X10_split_109 x1 x2 x3 false σ h
      · replace h := (if_neg hc).symm.trans h
        refine go_ops ok_X10_split_104_1 (L' := [some (.inr 0), some (.inl x1), some (.inl x2), some (.inl x3)]) (st' := [.inl 1]) (σ1 := σ) rfl ?_
        refine go_goto dc_X10_split_105 (by rfl) ?_
        exact hB_X10_split_109 x1 x2 x3 true σ h
    have hB_X10_split_88 : ∀ (x1 : Int) (x2 : Int) (x3 : Int) (σ : Sg), B_X10_split_88 x1 x2 x3 σ = some q → Go l m_X10_split (d + 1) LAYC (ozI q.1) q.2 88 [some (.inr 0), some (.inl x1), some (.inl x2), some (.inl x3)] [] σ := by
      intro x1 x2 x3 σ h
      unfold B_X10_split_88 at h
      refine go_ops ok_X10_split_88_1 (L' := [some (.inr 0), some (.inl x1), some (.inl x2), some (.inl x3)]) (st' := [.inl 0]) (σ1 := σ) rfl ?_
      exact hB_X10_split_89 x1 x2 x3 false σ h
    have hB_X10_split_58 : ∀ (x1 : Int) (x2 : Int) (x3 : Int) (y0 : Bool) (σ : Sg), B_X10_split_58 x1 x2 x3 y0 σ = some q → Go l m_X10_split (d + 1) LAYC (ozI q.1) q.2 58 [some (.inr 0), some (.inl x1), some (.inl x2), some (.inl x3)] [.inl (b2i y0)] σ := by
      intro x1 x2 x3 y0 σ h
      unfold B_X10_split_58 at h
      rcases Decidable.em (¬ y0 = true) with hc | hc
      · replace h := (if_neg hc).symm.trans h
        have h9 := Option.some.inj h
        subst h9
        exact go_SX (M1 := m_X10_demandState) (as := [.inl (b2i y0)]) (st := []) dc_X10_split_58 ln_10_112 sm_X10_demandState rfl mk_X10_demandState rfl (Nat.le_of_ble_eq_true rfl) (Nat.le_refl _) (lkX_X10_demandState l d hl (by omega) _ hc LAYC σ) _ rfl
      replace hc := Decidable.not_not.mp hc
      replace h := (if_pos hc).symm.trans h
      refine go_S (M1 := m_X10_demandState) (as := [.inl (b2i y0)]) (st := []) dc_X10_split_58 ln_10_112 sm_X10_demandState mk_X10_demandState rfl (Nat.le_of_ble_eq_true rfl) (Nat.le_refl _) (v := none) (σ1 := σ) (lk_X10_demandState l d _ hc _ σ) _ rfl ?_
      refine go_ops ok_X10_split_61_3 (L' := [some (.inr 0), some (.inl x1), some (.inl x2), some (.inl x3)]) (st' := [.inl x3, .inr 10]) (σ1 := σ) rfl ?_
      refine go_V (M1 := m_X5_sortOf) (as := [.inl x3]) (st := []) (k := 10) (ci := 5) dc_X10_split_66 ln_10_233 im_X5_sortOf (by decide) rfl rfl mk_X5_sortOf rfl (Nat.le_of_ble_eq_true rfl) (Nat.le_refl _) (v := (some (.inl (F_X5_sortOf x3 σ)))) (σ1 := σ) (lk_X5_sortOf l d (by omega) x3 σ _ rfl) _ rfl ?_
      refine go_ops ok_X10_split_69_1 (L' := [some (.inr 0), some (.inl x1), some (.inl x2), some (.inl x3)]) (st' := [.inl 4, .inl (F_X5_sortOf x3 σ)]) (σ1 := σ) rfl ?_
      refine go_icmp_ne dc_X10_split_70 (by rfl) (fun hc => ?_) (fun hc => ?_)
      · replace h := (if_neg hc).symm.trans h
        exact hB_X10_split_88 x1 x2 x3 σ h
      · replace h := (if_pos hc).symm.trans h
        refine go_ops ok_X10_split_73_3 (L' := [some (.inr 0), some (.inl x1), some (.inl x2), some (.inl x3)]) (st' := [.inl x3, .inr 10]) (σ1 := σ) rfl ?_
        refine go_V (M1 := m_X5_hasView) (as := [.inl x3]) (st := []) (k := 10) (ci := 5) dc_X10_split_78 ln_10_236 im_X5_hasView (by decide) rfl rfl mk_X5_hasView rfl (Nat.le_of_ble_eq_true rfl) (Nat.le_refl _) (v := (some (.inl (b2i (F_X5_hasView x3 σ))))) (σ1 := σ) (lk_X5_hasView l d (by omega) x3 σ _ rfl) _ rfl ?_
        refine go_ifb_ne dc_X10_split_81 (by rfl) (fun hc => ?_) (fun hc => ?_)
        · replace h := (if_pos hc).symm.trans h
          exact hB_X10_split_88 x1 x2 x3 σ h
        · replace h := (if_neg hc).symm.trans h
          refine go_ops ok_X10_split_84_1 (L' := [some (.inr 0), some (.inl x1), some (.inl x2), some (.inl x3)]) (st' := [.inl 1]) (σ1 := σ) rfl ?_
          refine go_goto dc_X10_split_85 (by rfl) ?_
          exact hB_X10_split_89 x1 x2 x3 true σ h
    have hB_X10_split_27 : ∀ (x1 : Int) (x2 : Int) (y0 : Bool) (σ : Sg), B_X10_split_27 x1 x2 y0 σ = some q → Go l m_X10_split (d + 1) LAYC (ozI q.1) q.2 27 [some (.inr 0), some (.inl x1), some (.inl x2), none] [.inl (b2i y0)] σ := by
      intro x1 x2 y0 σ h
      unfold B_X10_split_27 at h
      rcases Decidable.em (¬ y0 = true) with hc | hc
      · replace h := (if_neg hc).symm.trans h
        have h9 := Option.some.inj h
        subst h9
        exact go_SX (M1 := m_X10_demandIndex) (as := [.inl (b2i y0)]) (st := []) dc_X10_split_27 ln_10_90 sm_X10_demandIndex rfl mk_X10_demandIndex rfl (Nat.le_of_ble_eq_true rfl) (Nat.le_refl _) (lkX_X10_demandIndex l d hl (by omega) _ hc LAYC σ) _ rfl
      replace hc := Decidable.not_not.mp hc
      replace h := (if_pos hc).symm.trans h
      refine go_S (M1 := m_X10_demandIndex) (as := [.inl (b2i y0)]) (st := []) dc_X10_split_27 ln_10_90 sm_X10_demandIndex mk_X10_demandIndex rfl (Nat.le_of_ble_eq_true rfl) (Nat.le_refl _) (v := none) (σ1 := σ) (lk_X10_demandIndex l d _ hc _ σ) _ rfl ?_
      refine go_ops ok_X10_split_30_4 (L' := [some (.inr 0), some (.inl x1), some (.inl x2), none]) (st' := [.inl x2, .inl x1, .inr 24]) (σ1 := σ) rfl ?_
      refine go_V (M1 := m_X4_get) (as := [.inl x1, .inl x2]) (st := []) (k := 24) (ci := 4) dc_X10_split_36 ln_10_223 im_X4_get (by decide) rfl rfl mk_X4_get rfl (Nat.le_of_ble_eq_true rfl) (Nat.le_refl _) (v := (some (.inl (F_X4_get x1 x2 σ)))) (σ1 := σ) (lk_X4_get l d (by omega) x1 x2 σ _ rfl) _ rfl ?_
      obtain ⟨v1, e2, h⟩ := bnd_inv h
      refine go_ops ok_X10_split_39_5 (L' := [some (.inr 0), some (.inl x1), some (.inl x2), some (.inl v1)]) (st' := [.inl 4, .inl x1, .inr 24]) (σ1 := σ) (by subst e2; rfl) ?_
      refine go_V (M1 := m_X4_get) (as := [.inl x1, .inl 4]) (st := []) (k := 24) (ci := 4) dc_X10_split_46 ln_10_223 im_X4_get (by decide) rfl rfl mk_X4_get rfl (Nat.le_of_ble_eq_true rfl) (Nat.le_refl _) (v := (some (.inl (F_X4_get x1 4 σ)))) (σ1 := σ) (lk_X4_get l d (by omega) x1 4 σ _ rfl) _ rfl ?_
      refine go_ops ok_X10_split_49_1 (L' := [some (.inr 0), some (.inl x1), some (.inl x2), some (.inl v1)]) (st' := [.inl (-1), .inl (F_X4_get x1 4 σ)]) (σ1 := σ) rfl ?_
      refine go_icmp_ne dc_X10_split_50 (by rfl) (fun hc => ?_) (fun hc => ?_)
      · replace h := (if_neg hc).symm.trans h
        refine go_ops ok_X10_split_57_1 (L' := [some (.inr 0), some (.inl x1), some (.inl x2), some (.inl v1)]) (st' := [.inl 0]) (σ1 := σ) rfl ?_
        exact hB_X10_split_58 x1 x2 v1 false σ h
      · replace h := (if_pos hc).symm.trans h
        refine go_ops ok_X10_split_53_1 (L' := [some (.inr 0), some (.inl x1), some (.inl x2), some (.inl v1)]) (st' := [.inl 1]) (σ1 := σ) rfl ?_
        refine go_goto dc_X10_split_54 (by rfl) ?_
        exact hB_X10_split_58 x1 x2 v1 true σ h
    have hB_X10_split_26 : ∀ (x1 : Int) (x2 : Int) (σ : Sg), B_X10_split_26 x1 x2 σ = some q → Go l m_X10_split (d + 1) LAYC (ozI q.1) q.2 26 [some (.inr 0), some (.inl x1), some (.inl x2), none] [] σ := by
      intro x1 x2 σ h
      unfold B_X10_split_26 at h
      refine go_ops ok_X10_split_26_1 (L' := [some (.inr 0), some (.inl x1), some (.inl x2), none]) (st' := [.inl 0]) (σ1 := σ) rfl ?_
      exact hB_X10_split_27 x1 x2 false σ h
    refine go_ops ok_X10_split_0_3 (L' := [some (.inr 0), some (.inl a1), some (.inl a2), none]) (st' := [.inl a1, .inr 24]) (σ1 := σ) rfl ?_
    refine go_V (M1 := m_X4_has) (as := [.inl a1]) (st := []) (k := 24) (ci := 4) dc_X10_split_5 ln_10_218 im_X4_has (by decide) rfl rfl mk_X4_has rfl (Nat.le_of_ble_eq_true rfl) (Nat.le_refl _) (v := (some (.inl (b2i (F_X4_has a1 σ))))) (σ1 := σ) (lk_X4_has l d (by omega) a1 σ _ rfl) _ rfl ?_
    refine go_ifb_eq dc_X10_split_8 (by rfl) (fun hc => ?_) (fun hc => ?_)
    · replace h := (if_neg hc).symm.trans h
      exact hB_X10_split_26 a1 a2 σ h
    · replace h := (if_pos hc).symm.trans h
      refine go_ops ok_X10_split_11_3 (L' := [some (.inr 0), some (.inl a1), some (.inl a2), none]) (st' := [.inl a2, .inr 24]) (σ1 := σ) rfl ?_
      refine go_V (M1 := m_X4_hasColumn) (as := [.inl a2]) (st := []) (k := 24) (ci := 4) dc_X10_split_16 ln_10_230 im_X4_hasColumn (by decide) rfl rfl mk_X4_hasColumn rfl (Nat.le_of_ble_eq_true rfl) (Nat.le_refl _) (v := (some (.inl (b2i (F_X4_hasColumn a2 σ))))) (σ1 := σ) (lk_X4_hasColumn l d (by omega) a2 σ _ rfl) _ rfl ?_
      refine go_ifb_eq dc_X10_split_19 (by rfl) (fun hc => ?_) (fun hc => ?_)
      · replace h := (if_neg hc).symm.trans h
        exact hB_X10_split_26 a1 a2 σ h
      · replace h := (if_pos hc).symm.trans h
        refine go_ops ok_X10_split_22_1 (L' := [some (.inr 0), some (.inl a1), some (.inl a2), none]) (st' := [.inl 1]) (σ1 := σ) rfl ?_
        refine go_goto dc_X10_split_23 (by rfl) ?_
        exact hB_X10_split_27 a1 a2 true σ h
  have hf := go_co (as := [.inr 0, .inl a1, .inl a2]) mk_X10_split (fun _ _ => by decide +kernel) (by rfl) (Nat.le_of_ble_eq_true rfl) key
  exact hf
theorem dc_X10_merge_5 : decode m_X10_merge.2.2.1 5 = .ok (.invokevirtual 218, 3) := by decide +kernel
theorem dc_X10_merge_8 : decode m_X10_merge.2.2.1 8 = .ok (.ifCond .eq 31, 3) := by decide +kernel
theorem dc_X10_merge_16 : decode m_X10_merge.2.2.1 16 = .ok (.invokevirtual 212, 3) := by decide +kernel
theorem dc_X10_merge_21 : decode m_X10_merge.2.2.1 21 = .ok (.if_icmp .ge 18, 3) := by decide +kernel
theorem dc_X10_merge_29 : decode m_X10_merge.2.2.1 29 = .ok (.invokevirtual 230, 3) := by decide +kernel
theorem dc_X10_merge_32 : decode m_X10_merge.2.2.1 32 = .ok (.ifCond .eq 7, 3) := by decide +kernel
theorem dc_X10_merge_36 : decode m_X10_merge.2.2.1 36 = .ok (.goto 4, 3) := by decide +kernel
theorem dc_X10_merge_40 : decode m_X10_merge.2.2.1 40 = .ok (.invokestatic 90, 3) := by decide +kernel
theorem dc_X10_merge_53 : decode m_X10_merge.2.2.1 53 = .ok (.invokevirtual 223, 3) := by decide +kernel
theorem dc_X10_merge_64 : decode m_X10_merge.2.2.1 64 = .ok (.invokevirtual 223, 3) := by decide +kernel
theorem dc_X10_merge_76 : decode m_X10_merge.2.2.1 76 = .ok (.invokevirtual 246, 3) := by decide +kernel
theorem dc_X10_merge_79 : decode m_X10_merge.2.2.1 79 = .ok (.invokestatic 112, 3) := by decide +kernel
theorem dc_X10_merge_88 : decode m_X10_merge.2.2.1 88 = .ok (.invokevirtual 236, 3) := by decide +kernel
theorem dc_X10_merge_91 : decode m_X10_merge.2.2.1 91 = .ok (.ifCond .ne 19, 3) := by decide +kernel
theorem dc_X10_merge_100 : decode m_X10_merge.2.2.1 100 = .ok (.invokevirtual 236, 3) := by decide +kernel
theorem dc_X10_merge_103 : decode m_X10_merge.2.2.1 103 = .ok (.ifCond .ne 7, 3) := by decide +kernel
theorem dc_X10_merge_107 : decode m_X10_merge.2.2.1 107 = .ok (.goto 4, 3) := by decide +kernel
theorem dc_X10_merge_111 : decode m_X10_merge.2.2.1 111 = .ok (.invokestatic 112, 3) := by decide +kernel
theorem dc_X10_merge_122 : decode m_X10_merge.2.2.1 122 = .ok (.invokevirtual 181, 3) := by decide +kernel
theorem dc_X10_merge_125 : decode m_X10_merge.2.2.1 125 = .ok (.invokestatic 112, 3) := by decide +kernel
theorem dc_X10_merge_136 : decode m_X10_merge.2.2.1 136 = .ok (.invokevirtual 184, 3) := by decide +kernel
theorem dc_X10_merge_152 : decode m_X10_merge.2.2.1 152 = .ok (.invokevirtual 155, 3) := by decide +kernel
theorem dc_X10_merge_158 : decode m_X10_merge.2.2.1 158 = .ok (.invokevirtual 115, 3) := by decide +kernel
theorem dc_X10_merge_166 : decode m_X10_merge.2.2.1 166 = .ok (.invokevirtual 249, 3) := by decide +kernel
theorem dc_X10_merge_177 : decode m_X10_merge.2.2.1 177 = .ok (.invokevirtual 226, 3) := by decide +kernel
theorem dc_X10_merge_188 : decode m_X10_merge.2.2.1 188 = .ok (.invokevirtual 226, 3) := by decide +kernel
theorem dc_X10_merge_195 : decode m_X10_merge.2.2.1 195 = .ok (.invokevirtual 212, 3) := by decide +kernel
theorem dc_X10_merge_198 : decode m_X10_merge.2.2.1 198 = .ok (.ireturn, 1) := by decide +kernel
theorem ok_X10_merge_0_3 : oks m_X10_merge.1 m_X10_merge.2.2.1 0 [(.aload_n 0, 1, (0, 0, 0)), (.getfield 40, 3, (10, 4, 0)), (.iload_n 1, 1, (0, 0, 0))] = true ∧ plen 0 [(.aload_n 0, 1, (0, 0, 0)), (.getfield 40, 3, (10, 4, 0)), (.iload_n 1, 1, (0, 0, 0))] = 5 := by decide +kernel
theorem ok_X10_merge_11_3 : oks m_X10_merge.1 m_X10_merge.2.2.1 11 [(.iload_n 1, 1, (0, 0, 0)), (.aload_n 0, 1, (0, 0, 0)), (.getfield 40, 3, (10, 4, 0))] = true ∧ plen 11 [(.iload_n 1, 1, (0, 0, 0)), (.aload_n 0, 1, (0, 0, 0)), (.getfield 40, 3, (10, 4, 0))] = 16 := by decide +kernel
theorem ok_X10_merge_19_2 : oks m_X10_merge.1 m_X10_merge.2.2.1 19 [(.iconst 1, 1, (0, 0, 0)), (.isub, 1, (0, 0, 0))] = true ∧ plen 19 [(.iconst 1, 1, (0, 0, 0)), (.isub, 1, (0, 0, 0))] = 21 := by decide +kernel
theorem ok_X10_merge_24_3 : oks m_X10_merge.1 m_X10_merge.2.2.1 24 [(.aload_n 0, 1, (0, 0, 0)), (.getfield 40, 3, (10, 4, 0)), (.iload_n 2, 1, (0, 0, 0))] = true ∧ plen 24 [(.aload_n 0, 1, (0, 0, 0)), (.getfield 40, 3, (10, 4, 0)), (.iload_n 2, 1, (0, 0, 0))] = 29 := by decide +kernel
theorem ok_X10_merge_35_1 : oks m_X10_merge.1 m_X10_merge.2.2.1 35 [(.iconst 1, 1, (0, 0, 0))] = true ∧ plen 35 [(.iconst 1, 1, (0, 0, 0))] = 36 := by decide +kernel
theorem ok_X10_merge_39_1 : oks m_X10_merge.1 m_X10_merge.2.2.1 39 [(.iconst 0, 1, (0, 0, 0))] = true ∧ plen 39 [(.iconst 0, 1, (0, 0, 0))] = 40 := by decide +kernel
theorem ok_X10_merge_43_8 : oks m_X10_merge.1 m_X10_merge.2.2.1 43 [(.iload_n 1, 1, (0, 0, 0)), (.iconst 1, 1, (0, 0, 0)), (.iadd, 1, (0, 0, 0)), (.istore_n 3, 1, (0, 0, 0)), (.aload_n 0, 1, (0, 0, 0)), (.getfield 40, 3, (10, 4, 0)), (.iload_n 1, 1, (0, 0, 0)), (.iload_n 2, 1, (0, 0, 0))] = true ∧ plen 43 [(.iload_n 1, 1, (0, 0, 0)), (.iconst 1, 1, (0, 0, 0)), (.iadd, 1, (0, 0, 0)), (.istore_n 3, 1, (0, 0, 0)), (.aload_n 0, 1, (0, 0, 0)), (.getfield 40, 3, (10, 4, 0)), (.iload_n 1, 1, (0, 0, 0)), (.iload_n 2, 1, (0, 0, 0))] = 53 := by decide +kernel
theorem ok_X10_merge_56_5 : oks m_X10_merge.1 m_X10_merge.2.2.1 56 [(.istore 4, 2, (0, 0, 0)), (.aload_n 0, 1, (0, 0, 0)), (.getfield 40, 3, (10, 4, 0)), (.iload_n 3, 1, (0, 0, 0)), (.iload_n 2, 1, (0, 0, 0))] = true ∧ plen 56 [(.istore 4, 2, (0, 0, 0)), (.aload_n 0, 1, (0, 0, 0)), (.getfield 40, 3, (10, 4, 0)), (.iload_n 3, 1, (0, 0, 0)), (.iload_n 2, 1, (0, 0, 0))] = 64 := by decide +kernel
theorem ok_X10_merge_67_6 : oks m_X10_merge.1 m_X10_merge.2.2.1 67 [(.istore 5, 2, (0, 0, 0)), (.aload_n 0, 1, (0, 0, 0)), (.getfield 40, 3, (10, 4, 0)), (.iload_n 1, 1, (0, 0, 0)), (.iload_n 3, 1, (0, 0, 0)), (.iload_n 2, 1, (0, 0, 0))] = true ∧ plen 67 [(.istore 5, 2, (0, 0, 0)), (.aload_n 0, 1, (0, 0, 0)), (.getfield 40, 3, (10, 4, 0)), (.iload_n 1, 1, (0, 0, 0)), (.iload_n 3, 1, (0, 0, 0)), (.iload_n 2, 1, (0, 0, 0))] = 76 := by decide +kernel
theorem ok_X10_merge_82_3 : oks m_X10_merge.1 m_X10_merge.2.2.1 82 [(.aload_n 0, 1, (0, 0, 0)), (.getfield 26, 3, (10, 2, 0)), (.iload 4, 2, (0, 0, 0))] = true ∧ plen 82 [(.aload_n 0, 1, (0, 0, 0)), (.getfield 26, 3, (10, 2, 0)), (.iload 4, 2, (0, 0, 0))] = 88 := by decide +kernel
theorem ok_X10_merge_94_3 : oks m_X10_merge.1 m_X10_merge.2.2.1 94 [(.aload_n 0, 1, (0, 0, 0)), (.getfield 26, 3, (10, 2, 0)), (.iload 5, 2, (0, 0, 0))] = true ∧ plen 94 [(.aload_n 0, 1, (0, 0, 0)), (.getfield 26, 3, (10, 2, 0)), (.iload 5, 2, (0, 0, 0))] = 100 := by decide +kernel
theorem ok_X10_merge_106_1 : oks m_X10_merge.1 m_X10_merge.2.2.1 106 [(.iconst 1, 1, (0, 0, 0))] = true ∧ plen 106 [(.iconst 1, 1, (0, 0, 0))] = 107 := by decide +kernel
theorem ok_X10_merge_110_1 : oks m_X10_merge.1 m_X10_merge.2.2.1 110 [(.iconst 0, 1, (0, 0, 0))] = true ∧ plen 110 [(.iconst 0, 1, (0, 0, 0))] = 111 := by decide +kernel
theorem ok_X10_merge_114_4 : oks m_X10_merge.1 m_X10_merge.2.2.1 114 [(.aload_n 0, 1, (0, 0, 0)), (.getfield 26, 3, (10, 2, 0)), (.iload 4, 2, (0, 0, 0)), (.iload 5, 2, (0, 0, 0))] = true ∧ plen 114 [(.aload_n 0, 1, (0, 0, 0)), (.getfield 26, 3, (10, 2, 0)), (.iload 4, 2, (0, 0, 0)), (.iload 5, 2, (0, 0, 0))] = 122 := by decide +kernel
theorem ok_X10_merge_128_4 : oks m_X10_merge.1 m_X10_merge.2.2.1 128 [(.aload_n 0, 1, (0, 0, 0)), (.getfield 26, 3, (10, 2, 0)), (.iload 4, 2, (0, 0, 0)), (.iload 5, 2, (0, 0, 0))] = true ∧ plen 128 [(.aload_n 0, 1, (0, 0, 0)), (.getfield 26, 3, (10, 2, 0)), (.iload 4, 2, (0, 0, 0)), (.iload 5, 2, (0, 0, 0))] = 136 := by decide +kernel
theorem ok_X10_merge_139_9 : oks m_X10_merge.1 m_X10_merge.2.2.1 139 [(.istore 6, 2, (0, 0, 0)), (.aload_n 0, 1, (0, 0, 0)), (.iconst 4, 1, (0, 0, 0)), (.iload 6, 2, (0, 0, 0)), (.iconst 0, 1, (0, 0, 0)), (.iconst 0, 1, (0, 0, 0)), (.iload 4, 2, (0, 0, 0)), (.iload 5, 2, (0, 0, 0)), (.iconst (-1), 1, (0, 0, 0))] = true ∧ plen 139 [(.istore 6, 2, (0, 0, 0)), (.aload_n 0, 1, (0, 0, 0)), (.iconst 4, 1, (0, 0, 0)), (.iload 6, 2, (0, 0, 0)), (.iconst 0, 1, (0, 0, 0)), (.iconst 0, 1, (0, 0, 0)), (.iload 4, 2, (0, 0, 0)), (.iload 5, 2, (0, 0, 0)), (.iconst (-1), 1, (0, 0, 0))] = 152 := by decide +kernel
theorem ok_X10_merge_155_2 : oks m_X10_merge.1 m_X10_merge.2.2.1 155 [(.istore 7, 2, (0, 0, 0)), (.aload_n 0, 1, (0, 0, 0))] = true ∧ plen 155 [(.istore 7, 2, (0, 0, 0)), (.aload_n 0, 1, (0, 0, 0))] = 158 := by decide +kernel
theorem ok_X10_merge_161_3 : oks m_X10_merge.1 m_X10_merge.2.2.1 161 [(.aload_n 0, 1, (0, 0, 0)), (.getfield 40, 3, (10, 4, 0)), (.iload_n 3, 1, (0, 0, 0))] = true ∧ plen 161 [(.aload_n 0, 1, (0, 0, 0)), (.getfield 40, 3, (10, 4, 0)), (.iload_n 3, 1, (0, 0, 0))] = 166 := by decide +kernel
theorem ok_X10_merge_169_5 : oks m_X10_merge.1 m_X10_merge.2.2.1 169 [(.aload_n 0, 1, (0, 0, 0)), (.getfield 40, 3, (10, 4, 0)), (.iload_n 1, 1, (0, 0, 0)), (.iload_n 2, 1, (0, 0, 0)), (.iload 7, 2, (0, 0, 0))] = true ∧ plen 169 [(.aload_n 0, 1, (0, 0, 0)), (.getfield 40, 3, (10, 4, 0)), (.iload_n 1, 1, (0, 0, 0)), (.iload_n 2, 1, (0, 0, 0)), (.iload 7, 2, (0, 0, 0))] = 177 := by decide +kernel
theorem ok_X10_merge_180_5 : oks m_X10_merge.1 m_X10_merge.2.2.1 180 [(.aload_n 0, 1, (0, 0, 0)), (.getfield 40, 3, (10, 4, 0)), (.iload_n 1, 1, (0, 0, 0)), (.bipush 7, 2, (0, 0, 0)), (.iconst 0, 1, (0, 0, 0))] = true ∧ plen 180 [(.aload_n 0, 1, (0, 0, 0)), (.getfield 40, 3, (10, 4, 0)), (.iload_n 1, 1, (0, 0, 0)), (.bipush 7, 2, (0, 0, 0)), (.iconst 0, 1, (0, 0, 0))] = 188 := by decide +kernel
theorem ok_X10_merge_191_2 : oks m_X10_merge.1 m_X10_merge.2.2.1 191 [(.aload_n 0, 1, (0, 0, 0)), (.getfield 40, 3, (10, 4, 0))] = true ∧ plen 191 [(.aload_n 0, 1, (0, 0, 0)), (.getfield 40, 3, (10, 4, 0))] = 195 := by decide +kernel
def B_X10_merge_111 (x1 : Int) (x2 : Int) (x3 : Int) (x4 : Int) (x5 : Int) (y0 : Bool) (σ : Sg) : Option ((Int ⊕ Nat) × Sg) :=
if y0 = true then
if (F_X5_canAlternate x4 x5 σ) = true then
bnd (F_X5_kindOfBoth x4 x5 σ) fun v9 =>
xb (F_X10_keepPattern 4 v9 0 0 x4 x5 (-1) σ) (fun E σ => some (.inr E, σ)) fun v11 s12 =>
bnd (F_X10_forgetEngines s12) fun q14 =>
(F_X4_dropCase x3 q14).bind fun q16 =>
bnd (F_X4_set x1 x2 v11 q16) fun q18 =>
bnd (F_X4_set x1 7 0 q18) fun q20 =>
some (.inl (F_X4_count q20), q20)
else some (.inr 2, σ)
else some (.inr 2, σ)
def B_X10_merge_110 (x1 : Int) (x2 : Int) (x3 : Int) (x4 : Int) (x5 : Int) (σ : Sg) : Option ((Int ⊕ Nat) × Sg) :=
B_X10_merge_111 x1 x2 x3 x4 x5 false σ
def B_X10_merge_40 (x1 : Int) (x2 : Int) (y0 : Bool) (σ : Sg) : Option ((Int ⊕ Nat) × Sg) :=
if y0 = true then
bnd (wrap (x1 + 1)) fun v1 =>
bnd (F_X4_get x1 x2 σ) fun v3 =>
bnd (F_X4_get v1 x2 σ) fun v5 =>
(F_X4_areAlike x1 v1 x2 σ).bind fun q7 =>
if q7 = true then
if (F_X5_hasView v3 σ) = true then
B_X10_merge_110 x1 x2 v1 v3 v5 σ
else
if (F_X5_hasView v5 σ) = true then
B_X10_merge_110 x1 x2 v1 v3 v5 σ
else
B_X10_merge_111 x1 x2 v1 v3 v5 true σ
else some (.inr 2, σ)
else some (.inr 0, σ)
def B_X10_merge_39 (x1 : Int) (x2 : Int) (σ : Sg) : Option ((Int ⊕ Nat) × Sg) :=
B_X10_merge_40 x1 x2 false σ
def F_X10_merge (a1 : Int) (a2 : Int) (σ : Sg) : Option ((Int ⊕ Nat) × Sg) :=
if (F_X4_has a1 σ) = true then
if (wrap ((F_X4_count σ) - 1)) ≤ a1 then
B_X10_merge_39 a1 a2 σ
else
if (F_X4_hasColumn a2 σ) = true then
B_X10_merge_40 a1 a2 true σ
else
B_X10_merge_39 a1 a2 σ
else
B_X10_merge_39 a1 a2 σ
theorem lk_X10_merge (l : Launch) (hl : l.stackTraces = false) (d : Nat) (hd : 8 ≤ d) (a1 : Int) (a2 : Int) (σ : Sg) (q : ((Int ⊕ Nat) × Sg)) (h : F_X10_merge a1 a2 σ = some q) : outZ (ozI q.1) l d m_X10_merge.2.1 m_X10_merge.2.2.1 m_X10_merge.2.2.2.1 m_X10_merge.2.2.2.2 [.inr 0, .inl a1, .inl a2] (LAYC, σ) (LAYC, q.2) := by
  obtain ⟨d, rfl⟩ : ∃ e, d = e + 1 := ⟨d - 1, by omega⟩
  have key : Go l m_X10_merge (d + 1) LAYC (ozI q.1) q.2 0 [some (.inr 0), some (.inl a1), some (.inl a2), none, none, none, none, none] [] σ := by
    unfold F_X10_merge at h
    have hB_X10_merge_111 : ∀ (x1 : Int) (x2 : Int) (x3 : Int) (x4 : Int) (x5 : Int) (y0 : Bool) (σ : Sg), B_X10_merge_111 x1 x2 x3 x4 x5 y0 σ = some q → Go l m_X10_merge (d + 1) LAYC (ozI q.1) q.2 111 [some (.inr 0), some (.inl x1), some (.inl x2), some (.inl x3), some (.inl x4), some (.inl x5), none, none] [.inl (b2i y0)] σ := by
      intro x1 x2 x3 x4 x5 y0 σ h
      unfold B_X10_merge_111 at h
      rcases Decidable.em (¬ y0 = true) with hc | hc
      · replace h := (if_neg hc).symm.trans h
        have h9 := Option.some.inj h
        subst h9
        exact go_SX (M1 := m_X10_demandState) (as := [.inl (b2i y0)]) (st := []) dc_X10_merge_111 ln_10_112 sm_X10_demandState rfl mk_X10_demandState rfl (Nat.le_of_ble_eq_true rfl) (Nat.le_refl _) (lkX_X10_demandState l d hl (by omega) _ hc LAYC σ) _ rfl
      replace hc := Decidable.not_not.mp hc
      replace h := (if_pos hc).symm.trans h
      refine go_S (M1 := m_X10_demandState) (as := [.inl (b2i y0)]) (st := []) dc_X10_merge_111 ln_10_112 sm_X10_demandState mk_X10_demandState rfl (Nat.le_of_ble_eq_true rfl) (Nat.le_refl _) (v := none) (σ1 := σ) (lk_X10_demandState l d _ hc _ σ) _ rfl ?_
      refine go_ops ok_X10_merge_114_4 (L' := [some (.inr 0), some (.inl x1), some (.inl x2), some (.inl x3), some (.inl x4), some (.inl x5), none, none]) (st' := [.inl x5, .inl x4, .inr 10]) (σ1 := σ) rfl ?_
      refine go_V (M1 := m_X5_canAlternate) (as := [.inl x4, .inl x5]) (st := []) (k := 10) (ci := 5) dc_X10_merge_122 ln_10_181 im_X5_canAlternate (by decide) rfl rfl mk_X5_canAlternate rfl (Nat.le_of_ble_eq_true rfl) (Nat.le_refl _) (v := (some (.inl (b2i (F_X5_canAlternate x4 x5 σ))))) (σ1 := σ) (lk_X5_canAlternate l d (by omega) x4 x5 σ _ rfl) _ rfl ?_
      rcases Decidable.em (¬ (F_X5_canAlternate x4 x5 σ) = true) with hc | hc
      · replace h := (if_neg hc).symm.trans h
        have h9 := Option.some.inj h
        subst h9
        exact go_SX (M1 := m_X10_demandState) (as := [.inl (b2i (F_X5_canAlternate x4 x5 σ))]) (st := []) dc_X10_merge_125 ln_10_112 sm_X10_demandState rfl mk_X10_demandState rfl (Nat.le_of_ble_eq_true rfl) (Nat.le_refl _) (lkX_X10_demandState l d hl (by omega) _ hc LAYC σ) _ rfl
      replace hc := Decidable.not_not.mp hc
      replace h := (if_pos hc).symm.trans h
      refine go_S (M1 := m_X10_demandState) (as := [.inl (b2i (F_X5_canAlternate x4 x5 σ))]) (st := []) dc_X10_merge_125 ln_10_112 sm_X10_demandState mk_X10_demandState rfl (Nat.le_of_ble_eq_true rfl) (Nat.le_refl _) (v := none) (σ1 := σ) (lk_X10_demandState l d _ hc _ σ) _ rfl ?_
      refine go_ops ok_X10_merge_128_4 (L' := [some (.inr 0), some (.inl x1), some (.inl x2), some (.inl x3), some (.inl x4), some (.inl x5), none, none]) (st' := [.inl x5, .inl x4, .inr 10]) (σ1 := σ) rfl ?_
      refine go_V (M1 := m_X5_kindOfBoth) (as := [.inl x4, .inl x5]) (st := []) (k := 10) (ci := 5) dc_X10_merge_136 ln_10_184 im_X5_kindOfBoth (by decide) rfl rfl mk_X5_kindOfBoth rfl (Nat.le_of_ble_eq_true rfl) (Nat.le_refl _) (v := (some (.inl (F_X5_kindOfBoth x4 x5 σ)))) (σ1 := σ) (lk_X5_kindOfBoth l d (by omega) x4 x5 σ _ rfl) _ rfl ?_
      obtain ⟨v9, e10, h⟩ := bnd_inv h
      refine go_ops ok_X10_merge_139_9 (L' := [some (.inr 0), some (.inl x1), some (.inl x2), some (.inl x3), some (.inl x4), some (.inl x5), some (.inl v9), none]) (st' := [.inl (-1), .inl x5, .inl x4, .inl 0, .inl 0, .inl v9, .inl 4, .inr 0]) (σ1 := σ) (by subst e10; rfl) ?_
      rcases xb_inv h with ⟨E1, s12, e13, h⟩ | ⟨v11, s12, e13, h⟩
      · have h9 := Option.some.inj h
        subst h9
        exact go_VX (M1 := m_X10_keepPattern) (as := [.inl 4, .inl v9, .inl 0, .inl 0, .inl x4, .inl x5, .inl (-1)]) (st := []) (k := 0) (ci := 10) dc_X10_merge_152 ln_10_155 im_X10_keepPattern (by decide) rfl rfl mk_X10_keepPattern rfl (Nat.le_of_ble_eq_true rfl) (Nat.le_refl _) (lk_X10_keepPattern l hl d (by omega) 4 v9 0 0 x4 x5 (-1) σ _ e13) _ rfl
      refine go_V (M1 := m_X10_keepPattern) (as := [.inl 4, .inl v9, .inl 0, .inl 0, .inl x4, .inl x5, .inl (-1)]) (st := []) (k := 0) (ci := 10) dc_X10_merge_152 ln_10_155 im_X10_keepPattern (by decide) rfl rfl mk_X10_keepPattern rfl (Nat.le_of_ble_eq_true rfl) (Nat.le_refl _) (v := (some (.inl v11))) (σ1 := s12) (lk_X10_keepPattern l hl d (by omega) 4 v9 0 0 x4 x5 (-1) σ _ e13) _ rfl ?_
      refine go_ops ok_X10_merge_155_2 (L' := [some (.inr 0), some (.inl x1), some (.inl x2), some (.inl x3), some (.inl x4), some (.inl x5), some (.inl v9), some (.inl v11)]) (st' := [.inr 0]) (σ1 := s12) rfl ?_
      obtain ⟨q14, e15, h⟩ := bnd_inv h
      refine go_V (M1 := m_X10_forgetEngines) (as := []) (st := []) (k := 0) (ci := 10) dc_X10_merge_158 ln_10_115 im_X10_forgetEngines (by decide) rfl rfl mk_X10_forgetEngines rfl (Nat.le_of_ble_eq_true rfl) (Nat.le_refl _) (v := none) (σ1 := q14) (lk_X10_forgetEngines l d (by omega) s12 q14 e15.symm) _ rfl ?_
      refine go_ops ok_X10_merge_161_3 (L' := [some (.inr 0), some (.inl x1), some (.inl x2), some (.inl x3), some (.inl x4), some (.inl x5), some (.inl v9), some (.inl v11)]) (st' := [.inl x3, .inr 24]) (σ1 := q14) rfl ?_
      obtain ⟨q16, e17, h⟩ := bind_inv h
      refine go_V (M1 := m_X4_dropCase) (as := [.inl x3]) (st := []) (k := 24) (ci := 4) dc_X10_merge_166 ln_10_249 im_X4_dropCase (by decide) rfl rfl mk_X4_dropCase rfl (Nat.le_of_ble_eq_true rfl) (Nat.le_refl _) (v := none) (σ1 := q16) (lk_X4_dropCase l d (by omega) x3 q14 q16 e17) _ rfl ?_
      refine go_ops ok_X10_merge_169_5 (L' := [some (.inr 0), some (.inl x1), some (.inl x2), some (.inl x3), some (.inl x4), some (.inl x5), some (.inl v9), some (.inl v11)]) (st' := [.inl v11, .inl x2, .inl x1, .inr 24]) (σ1 := q16) rfl ?_
      obtain ⟨q18, e19, h⟩ := bnd_inv h
      refine go_V (M1 := m_X4_set) (as := [.inl x1, .inl x2, .inl v11]) (st := []) (k := 24) (ci := 4) dc_X10_merge_177 ln_10_226 im_X4_set (by decide) rfl rfl mk_X4_set rfl (Nat.le_of_ble_eq_true rfl) (Nat.le_refl _) (v := none) (σ1 := q18) (lk_X4_set l d (by omega) x1 x2 v11 q16 q18 e19.symm) _ rfl ?_
      refine go_ops ok_X10_merge_180_5 (L' := [some (.inr 0), some (.inl x1), some (.inl x2), some (.inl x3), some (.inl x4), some (.inl x5), some (.inl v9), some (.inl v11)]) (st' := [.inl 0, .inl 7, .inl x1, .inr 24]) (σ1 := q18) rfl ?_
      obtain ⟨q20, e21, h⟩ := bnd_inv h
      refine go_V (M1 := m_X4_set) (as := [.inl x1, .inl 7, .inl 0]) (st := []) (k := 24) (ci := 4) dc_X10_merge_188 ln_10_226 im_X4_set (by decide) rfl rfl mk_X4_set rfl (Nat.le_of_ble_eq_true rfl) (Nat.le_refl _) (v := none) (σ1 := q20) (lk_X4_set l d (by omega) x1 7 0 q18 q20 e21.symm) _ rfl ?_
      refine go_ops ok_X10_merge_191_2 (L' := [some (.inr 0), some (.inl x1), some (.inl x2), some (.inl x3), some (.inl x4), some (.inl x5), some (.inl v9), some (.inl v11)]) (st' := [.inr 24]) (σ1 := q20) rfl ?_
      refine go_V (M1 := m_X4_count) (as := []) (st := []) (k := 24) (ci := 4) dc_X10_merge_195 ln_10_212 im_X4_count (by decide) rfl rfl mk_X4_count rfl (Nat.le_of_ble_eq_true rfl) (Nat.le_refl _) (v := (some (.inl (F_X4_count q20)))) (σ1 := q20) (lk_X4_count l d (by omega) q20 _ rfl) _ rfl ?_
      have h9 := Option.some.inj h
      subst h9
      exact go_iret dc_X10_merge_198 rfl
    have hB_X10_merge_110 : ∀ (x1 : Int) (x2 : Int) (x3 : Int) (x4 : Int) (x5 : Int) (σ : Sg), B_X10_merge_110 x1 x2 x3 x4 x5 σ = some q → Go l m_X10_merge (d + 1) LAYC (ozI q.1) q.2 110 [some (.inr 0), some (.inl x1), some (.inl x2), some (.inl x3), some (.inl x4), some (.inl x5), none, none] [] σ := by
      intro x1 x2 x3 x4 x5 σ h
      unfold B_X10_merge_110 at h
      refine go_ops ok_X10_merge_110_1 (L' := [some (.inr 0), some (.inl x1), some (.inl x2), some (.inl x3), some (.inl x4), some (.inl x5), none, none]) (st' := [.inl 0]) (σ1 := σ) rfl ?_
      exact hB_X10_merge_111 x1 x2 x3 x4 x5 false σ h
    have hB_X10_merge_40 : ∀ (x1 : Int) (x2 : Int) (y0 : Bool) (σ : Sg), B_X10_merge_40 x1 x2 y0 σ = some q → Go l m_X10_merge (d + 1) LAYC (ozI q.1) q.2 40 [some (.inr 0), some (.inl x1), some (.inl x2), none, none, none, none, none] [.inl (b2i y0)] σ := by
      intro x1 x2 y0 σ h
      unfold B_X10_merge_40 at h
      rcases Decidable.em (¬ y0 = true) with hc | hc
      · replace h := (if_neg hc).symm.trans h
        have h9 := Option.some.inj h
        subst h9
        exact go_SX (M1 := m_X10_demandIndex) (as := [.inl (b2i y0)]) (st := []) dc_X10_merge_40 ln_10_90 sm_X10_demandIndex rfl mk_X10_demandIndex rfl (Nat.le_of_ble_eq_true rfl) (Nat.le_refl _) (lkX_X10_demandIndex l d hl (by omega) _ hc LAYC σ) _ rfl
      replace hc := Decidable.not_not.mp hc
      replace h := (if_pos hc).symm.trans h
      refine go_S (M1 := m_X10_demandIndex) (as := [.inl (b2i y0)]) (st := []) dc_X10_merge_40 ln_10_90 sm_X10_demandIndex mk_X10_demandIndex rfl (Nat.le_of_ble_eq_true rfl) (Nat.le_refl _) (v := none) (σ1 := σ) (lk_X10_demandIndex l d _ hc _ σ) _ rfl ?_
      obtain ⟨v1, e2, h⟩ := bnd_inv h
      refine go_ops ok_X10_merge_43_8 (L' := [some (.inr 0), some (.inl x1), some (.inl x2), some (.inl v1), none, none, none, none]) (st' := [.inl x2, .inl x1, .inr 24]) (σ1 := σ) (by subst e2; rfl) ?_
      refine go_V (M1 := m_X4_get) (as := [.inl x1, .inl x2]) (st := []) (k := 24) (ci := 4) dc_X10_merge_53 ln_10_223 im_X4_get (by decide) rfl rfl mk_X4_get rfl (Nat.le_of_ble_eq_true rfl) (Nat.le_refl _) (v := (some (.inl (F_X4_get x1 x2 σ)))) (σ1 := σ) (lk_X4_get l d (by omega) x1 x2 σ _ rfl) _ rfl ?_
      obtain ⟨v3, e4, h⟩ := bnd_inv h
      refine go_ops ok_X10_merge_56_5 (L' := [some (.inr 0), some (.inl x1), some (.inl x2), some (.inl v1), some (.inl v3), none, none, none]) (st' := [.inl x2, .inl v1, .inr 24]) (σ1 := σ) (by subst e4; rfl) ?_
      refine go_V (M1 := m_X4_get) (as := [.inl v1, .inl x2]) (st := []) (k := 24) (ci := 4) dc_X10_merge_64 ln_10_223 im_X4_get (by decide) rfl rfl mk_X4_get rfl (Nat.le_of_ble_eq_true rfl) (Nat.le_refl _) (v := (some (.inl (F_X4_get v1 x2 σ)))) (σ1 := σ) (lk_X4_get l d (by omega) v1 x2 σ _ rfl) _ rfl ?_
      obtain ⟨v5, e6, h⟩ := bnd_inv h
      refine go_ops ok_X10_merge_67_6 (L' := [some (.inr 0), some (.inl x1), some (.inl x2), some (.inl v1), some (.inl v3), some (.inl v5), none, none]) (st' := [.inl x2, .inl v1, .inl x1, .inr 24]) (σ1 := σ) (by subst e6; rfl) ?_
      obtain ⟨q7, e8, h⟩ := bind_inv h
      refine go_V (M1 := m_X4_areAlike) (as := [.inl x1, .inl v1, .inl x2]) (st := []) (k := 24) (ci := 4) dc_X10_merge_76 ln_10_246 im_X4_areAlike (by decide) rfl rfl mk_X4_areAlike rfl (Nat.le_of_ble_eq_true rfl) (Nat.le_refl _) (v := (some (.inl (b2i q7)))) (σ1 := σ) (lk_X4_areAlike l d (by omega) x1 v1 x2 σ q7 e8) _ rfl ?_
      rcases Decidable.em (¬ q7 = true) with hc | hc
      · replace h := (if_neg hc).symm.trans h
        have h9 := Option.some.inj h
        subst h9
        exact go_SX (M1 := m_X10_demandState) (as := [.inl (b2i q7)]) (st := []) dc_X10_merge_79 ln_10_112 sm_X10_demandState rfl mk_X10_demandState rfl (Nat.le_of_ble_eq_true rfl) (Nat.le_refl _) (lkX_X10_demandState l d hl (by omega) _ hc LAYC σ) _ rfl
      replace hc := Decidable.not_not.mp hc
      replace h := (if_pos hc).symm.trans h
      refine go_S (M1 := m_X10_demandState) (as := [.inl (b2i q7)]) (st := []) dc_X10_merge_79 ln_10_112 sm_X10_demandState mk_X10_demandState rfl (Nat.le_of_ble_eq_true rfl) (Nat.le_refl _) (v := none) (σ1 := σ) (lk_X10_demandState l d _ hc _ σ) _ rfl ?_
      refine go_ops ok_X10_merge_82_3 (L' := [some (.inr 0), some (.inl x1), some (.inl x2), some (.inl v1), some (.inl v3), some (.inl v5), none, none]) (st' := [.inl v3, .inr 10]) (σ1 := σ) rfl ?_
      refine go_V (M1 := m_X5_hasView) (as := [.inl v3]) (st := []) (k := 10) (ci := 5) dc_X10_merge_88 ln_10_236 im_X5_hasView (by decide) rfl rfl mk_X5_hasView rfl (Nat.le_of_ble_eq_true rfl) (Nat.le_refl _) (v := (some (.inl (b2i (F_X5_hasView v3 σ))))) (σ1 := σ) (lk_X5_hasView l d (by omega) v3 σ _ rfl) _ rfl ?_
      refine go_ifb_ne dc_X10_merge_91 (by rfl) (fun hc => ?_) (fun hc => ?_)
      · replace h := (if_pos hc).symm.trans h
        exact hB_X10_merge_110 x1 x2 v1 v3 v5 σ h
      · replace h := (if_neg hc).symm.trans h
        refine go_ops ok_X10_merge_94_3 (L' := [some (.inr 0), some (.inl x1), some (.inl x2), some (.inl v1), some (.inl v3), some (.inl v5), none, none]) (st' := [.inl v5, .inr 10]) (σ1 := σ) rfl ?_
        refine go_V (M1 := m_X5_hasView) (as := [.inl v5]) (st := []) (k := 10) (ci := 5) dc_X10_merge_100 ln_10_236 im_X5_hasView (by decide) rfl rfl mk_X5_hasView rfl (Nat.le_of_ble_eq_true rfl) (Nat.le_refl _) (v := (some (.inl (b2i (F_X5_hasView v5 σ))))) (σ1 := σ) (lk_X5_hasView l d (by omega) v5 σ _ rfl) _ rfl ?_
        refine go_ifb_ne dc_X10_merge_103 (by rfl) (fun hc => ?_) (fun hc => ?_)
        · replace h := (if_pos hc).symm.trans h
          exact hB_X10_merge_110 x1 x2 v1 v3 v5 σ h
        · replace h := (if_neg hc).symm.trans h
          refine go_ops ok_X10_merge_106_1 (L' := [some (.inr 0), some (.inl x1), some (.inl x2), some (.inl v1), some (.inl v3), some (.inl v5), none, none]) (st' := [.inl 1]) (σ1 := σ) rfl ?_
          refine go_goto dc_X10_merge_107 (by rfl) ?_
          exact hB_X10_merge_111 x1 x2 v1 v3 v5 true σ h
    have hB_X10_merge_39 : ∀ (x1 : Int) (x2 : Int) (σ : Sg), B_X10_merge_39 x1 x2 σ = some q → Go l m_X10_merge (d + 1) LAYC (ozI q.1) q.2 39 [some (.inr 0), some (.inl x1), some (.inl x2), none, none, none, none, none] [] σ := by
      intro x1 x2 σ h
      unfold B_X10_merge_39 at h
      refine go_ops ok_X10_merge_39_1 (L' := [some (.inr 0), some (.inl x1), some (.inl x2), none, none, none, none, none]) (st' := [.inl 0]) (σ1 := σ) rfl ?_
      exact hB_X10_merge_40 x1 x2 false σ h
    refine go_ops ok_X10_merge_0_3 (L' := [some (.inr 0), some (.inl a1), some (.inl a2), none, none, none, none, none]) (st' := [.inl a1, .inr 24]) (σ1 := σ) rfl ?_
    refine go_V (M1 := m_X4_has) (as := [.inl a1]) (st := []) (k := 24) (ci := 4) dc_X10_merge_5 ln_10_218 im_X4_has (by decide) rfl rfl mk_X4_has rfl (Nat.le_of_ble_eq_true rfl) (Nat.le_refl _) (v := (some (.inl (b2i (F_X4_has a1 σ))))) (σ1 := σ) (lk_X4_has l d (by omega) a1 σ _ rfl) _ rfl ?_
    refine go_ifb_eq dc_X10_merge_8 (by rfl) (fun hc => ?_) (fun hc => ?_)
    · replace h := (if_neg hc).symm.trans h
      exact hB_X10_merge_39 a1 a2 σ h
    · replace h := (if_pos hc).symm.trans h
      refine go_ops ok_X10_merge_11_3 (L' := [some (.inr 0), some (.inl a1), some (.inl a2), none, none, none, none, none]) (st' := [.inr 24, .inl a1]) (σ1 := σ) rfl ?_
      refine go_V (M1 := m_X4_count) (as := []) (st := [.inl a1]) (k := 24) (ci := 4) dc_X10_merge_16 ln_10_212 im_X4_count (by decide) rfl rfl mk_X4_count rfl (Nat.le_of_ble_eq_true rfl) (Nat.le_refl _) (v := (some (.inl (F_X4_count σ)))) (σ1 := σ) (lk_X4_count l d (by omega) σ _ rfl) _ rfl ?_
      refine go_ops ok_X10_merge_19_2 (L' := [some (.inr 0), some (.inl a1), some (.inl a2), none, none, none, none, none]) (st' := [.inl (wrap ((F_X4_count σ) - 1)), .inl a1]) (σ1 := σ) rfl ?_
      refine go_icmp_ge dc_X10_merge_21 (by rfl) (fun hc => ?_) (fun hc => ?_)
      · replace h := (if_pos hc).symm.trans h
        exact hB_X10_merge_39 a1 a2 σ h
      · replace h := (if_neg hc).symm.trans h
        refine go_ops ok_X10_merge_24_3 (L' := [some (.inr 0), some (.inl a1), some (.inl a2), none, none, none, none, none]) (st' := [.inl a2, .inr 24]) (σ1 := σ) rfl ?_
        refine go_V (M1 := m_X4_hasColumn) (as := [.inl a2]) (st := []) (k := 24) (ci := 4) dc_X10_merge_29 ln_10_230 im_X4_hasColumn (by decide) rfl rfl mk_X4_hasColumn rfl (Nat.le_of_ble_eq_true rfl) (Nat.le_refl _) (v := (some (.inl (b2i (F_X4_hasColumn a2 σ))))) (σ1 := σ) (lk_X4_hasColumn l d (by omega) a2 σ _ rfl) _ rfl ?_
        refine go_ifb_eq dc_X10_merge_32 (by rfl) (fun hc => ?_) (fun hc => ?_)
        · replace h := (if_neg hc).symm.trans h
          exact hB_X10_merge_39 a1 a2 σ h
        · replace h := (if_pos hc).symm.trans h
          refine go_ops ok_X10_merge_35_1 (L' := [some (.inr 0), some (.inl a1), some (.inl a2), none, none, none, none, none]) (st' := [.inl 1]) (σ1 := σ) rfl ?_
          refine go_goto dc_X10_merge_36 (by rfl) ?_
          exact hB_X10_merge_40 a1 a2 true σ h
  have hf := go_co (as := [.inr 0, .inl a1, .inl a2]) mk_X10_merge (fun _ _ => by decide +kernel) (by rfl) (Nat.le_of_ble_eq_true rfl) key
  exact hf
theorem dc_X10_run_4 : decode m_X10_run.2.2.1 4 = .ok (.invokevirtual 202, 3) := by decide +kernel
theorem dc_X10_run_12 : decode m_X10_run.2.2.1 12 = .ok (.invokestatic 94, 3) := by decide +kernel
theorem dc_X10_run_15 : decode m_X10_run.2.2.1 15 = .ok (.invokestatic 90, 3) := by decide +kernel
theorem dc_X10_run_25 : decode m_X10_run.2.2.1 25 = .ok (.invokevirtual 144, 3) := by decide +kernel
theorem dc_X10_run_34 : decode m_X10_run.2.2.1 34 = .ok (.if_icmp .ge 70, 3) := by decide +kernel
theorem dc_X10_run_43 : decode m_X10_run.2.2.1 43 = .ok (.invokestatic 101, 3) := by decide +kernel
theorem dc_X10_run_52 : decode m_X10_run.2.2.1 52 = .ok (.if_icmp .ge 32, 3) := by decide +kernel
theorem dc_X10_run_61 : decode m_X10_run.2.2.1 61 = .ok (.invokevirtual 152, 3) := by decide +kernel
theorem dc_X10_run_70 : decode m_X10_run.2.2.1 70 = .ok (.invokevirtual 206, 3) := by decide +kernel
theorem dc_X10_run_73 : decode m_X10_run.2.2.1 73 = .ok (.if_icmp .ne 7, 3) := by decide +kernel
theorem dc_X10_run_77 : decode m_X10_run.2.2.1 77 = .ok (.goto 18, 3) := by decide +kernel
theorem dc_X10_run_81 : decode m_X10_run.2.2.1 81 = .ok (.goto 14, 3) := by decide +kernel
theorem dc_X10_run_87 : decode m_X10_run.2.2.1 87 = .ok (.if_icmp .ne 7, 3) := by decide +kernel
theorem dc_X10_run_91 : decode m_X10_run.2.2.1 91 = .ok (.goto 4, 3) := by decide +kernel
theorem dc_X10_run_95 : decode m_X10_run.2.2.1 95 = .ok (.invokestatic 98, 3) := by decide +kernel
theorem dc_X10_run_101 : decode m_X10_run.2.2.1 101 = .ok (.goto (-70), 3) := by decide +kernel
theorem dc_X10_run_108 : decode m_X10_run.2.2.1 108 = .ok (.invokevirtual 210, 3) := by decide +kernel
theorem dc_X10_run_111 : decode m_X10_run.2.2.1 111 = .ok (.invokestatic 112, 3) := by decide +kernel
theorem dc_X10_run_116 : decode m_X10_run.2.2.1 116 = .ok (.if_icmp .lt 14, 3) := by decide +kernel
theorem dc_X10_run_121 : decode m_X10_run.2.2.1 121 = .ok (.invokevirtual 252, 3) := by decide +kernel
theorem dc_X10_run_124 : decode m_X10_run.2.2.1 124 = .ok (.invokevirtual 256, 3) := by decide +kernel
theorem dc_X10_run_127 : decode m_X10_run.2.2.1 127 = .ok (.ifCond .eq 7, 3) := by decide +kernel
theorem dc_X10_run_131 : decode m_X10_run.2.2.1 131 = .ok (.goto 4, 3) := by decide +kernel
theorem dc_X10_run_135 : decode m_X10_run.2.2.1 135 = .ok (.invokestatic 112, 3) := by decide +kernel
theorem dc_X10_run_146 : decode m_X10_run.2.2.1 146 = .ok (.invokevirtual 259, 3) := by decide +kernel
theorem dc_X10_run_150 : decode m_X10_run.2.2.1 150 = .ok (.ifCond .ne 11, 3) := by decide +kernel
theorem dc_X10_run_157 : decode m_X10_run.2.2.1 157 = .ok (.invokevirtual 261, 3) := by decide +kernel
theorem dc_X10_run_160 : decode m_X10_run.2.2.1 160 = .ok (.ireturn, 1) := by decide +kernel
theorem dc_X10_run_163 : decode m_X10_run.2.2.1 163 = .ok (.if_icmp .ne 13, 3) := by decide +kernel
theorem dc_X10_run_170 : decode m_X10_run.2.2.1 170 = .ok (.invokevirtual 264, 3) := by decide +kernel
theorem dc_X10_run_173 : decode m_X10_run.2.2.1 173 = .ok (.goto 11, 3) := by decide +kernel
theorem dc_X10_run_178 : decode m_X10_run.2.2.1 178 = .ok (.invokevirtual 252, 3) := by decide +kernel
theorem dc_X10_run_181 : decode m_X10_run.2.2.1 181 = .ok (.invokevirtual 265, 3) := by decide +kernel
theorem dc_X10_run_184 : decode m_X10_run.2.2.1 184 = .ok (.ireturn, 1) := by decide +kernel
theorem ok_X10_run_0_2 : oks m_X10_run.1 m_X10_run.2.2.1 0 [(.aload_n 0, 1, (0, 0, 0)), (.getfield 40, 3, (10, 4, 0))] = true ∧ plen 0 [(.aload_n 0, 1, (0, 0, 0)), (.getfield 40, 3, (10, 4, 0))] = 4 := by decide +kernel
theorem ok_X10_run_7_4 : oks m_X10_run.1 m_X10_run.2.2.1 7 [(.istore 5, 2, (0, 0, 0)), (.iload_n 1, 1, (0, 0, 0)), (.iconst 0, 1, (0, 0, 0)), (.iconst 3, 1, (0, 0, 0))] = true ∧ plen 7 [(.istore 5, 2, (0, 0, 0)), (.iload_n 1, 1, (0, 0, 0)), (.iconst 0, 1, (0, 0, 0)), (.iconst 3, 1, (0, 0, 0))] = 12 := by decide +kernel
theorem ok_X10_run_18_5 : oks m_X10_run.1 m_X10_run.2.2.1 18 [(.aload_n 0, 1, (0, 0, 0)), (.iload 5, 2, (0, 0, 0)), (.iload_n 2, 1, (0, 0, 0)), (.iload_n 3, 1, (0, 0, 0)), (.iload 4, 2, (0, 0, 0))] = true ∧ plen 18 [(.aload_n 0, 1, (0, 0, 0)), (.iload 5, 2, (0, 0, 0)), (.iload_n 2, 1, (0, 0, 0)), (.iload_n 3, 1, (0, 0, 0)), (.iload 4, 2, (0, 0, 0))] = 25 := by decide +kernel
theorem ok_X10_run_28_2 : oks m_X10_run.1 m_X10_run.2.2.1 28 [(.iconst 0, 1, (0, 0, 0)), (.istore 6, 2, (0, 0, 0))] = true ∧ plen 28 [(.iconst 0, 1, (0, 0, 0)), (.istore 6, 2, (0, 0, 0))] = 31 := by decide +kernel
theorem ok_X10_run_31_2 : oks m_X10_run.1 m_X10_run.2.2.1 31 [(.iload 6, 2, (0, 0, 0)), (.iconst 3, 1, (0, 0, 0))] = true ∧ plen 31 [(.iload 6, 2, (0, 0, 0)), (.iconst 3, 1, (0, 0, 0))] = 34 := by decide +kernel
theorem ok_X10_run_37_4 : oks m_X10_run.1 m_X10_run.2.2.1 37 [(.iload 6, 2, (0, 0, 0)), (.iload_n 2, 1, (0, 0, 0)), (.iload_n 3, 1, (0, 0, 0)), (.iload 4, 2, (0, 0, 0))] = true ∧ plen 37 [(.iload 6, 2, (0, 0, 0)), (.iload_n 2, 1, (0, 0, 0)), (.iload_n 3, 1, (0, 0, 0)), (.iload 4, 2, (0, 0, 0))] = 43 := by decide +kernel
theorem ok_X10_run_46_3 : oks m_X10_run.1 m_X10_run.2.2.1 46 [(.istore 7, 2, (0, 0, 0)), (.iload 6, 2, (0, 0, 0)), (.iload 5, 2, (0, 0, 0))] = true ∧ plen 46 [(.istore 7, 2, (0, 0, 0)), (.iload 6, 2, (0, 0, 0)), (.iload 5, 2, (0, 0, 0))] = 52 := by decide +kernel
theorem ok_X10_run_55_3 : oks m_X10_run.1 m_X10_run.2.2.1 55 [(.aload_n 0, 1, (0, 0, 0)), (.getfield 19, 3, (10, 1, 0)), (.iload 7, 2, (0, 0, 0))] = true ∧ plen 55 [(.aload_n 0, 1, (0, 0, 0)), (.getfield 19, 3, (10, 1, 0)), (.iload 7, 2, (0, 0, 0))] = 61 := by decide +kernel
theorem ok_X10_run_64_3 : oks m_X10_run.1 m_X10_run.2.2.1 64 [(.aload_n 0, 1, (0, 0, 0)), (.getfield 40, 3, (10, 4, 0)), (.iload 6, 2, (0, 0, 0))] = true ∧ plen 64 [(.aload_n 0, 1, (0, 0, 0)), (.getfield 40, 3, (10, 4, 0)), (.iload 6, 2, (0, 0, 0))] = 70 := by decide +kernel
theorem ok_X10_run_76_1 : oks m_X10_run.1 m_X10_run.2.2.1 76 [(.iconst 1, 1, (0, 0, 0))] = true ∧ plen 76 [(.iconst 1, 1, (0, 0, 0))] = 77 := by decide +kernel
theorem ok_X10_run_80_1 : oks m_X10_run.1 m_X10_run.2.2.1 80 [(.iconst 0, 1, (0, 0, 0))] = true ∧ plen 80 [(.iconst 0, 1, (0, 0, 0))] = 81 := by decide +kernel
theorem ok_X10_run_84_2 : oks m_X10_run.1 m_X10_run.2.2.1 84 [(.iload 7, 2, (0, 0, 0)), (.iconst (-1), 1, (0, 0, 0))] = true ∧ plen 84 [(.iload 7, 2, (0, 0, 0)), (.iconst (-1), 1, (0, 0, 0))] = 87 := by decide +kernel
theorem ok_X10_run_90_1 : oks m_X10_run.1 m_X10_run.2.2.1 90 [(.iconst 1, 1, (0, 0, 0))] = true ∧ plen 90 [(.iconst 1, 1, (0, 0, 0))] = 91 := by decide +kernel
theorem ok_X10_run_94_1 : oks m_X10_run.1 m_X10_run.2.2.1 94 [(.iconst 0, 1, (0, 0, 0))] = true ∧ plen 94 [(.iconst 0, 1, (0, 0, 0))] = 95 := by decide +kernel
theorem ok_X10_run_98_1 : oks m_X10_run.1 m_X10_run.2.2.1 98 [(.iinc 6 1, 3, (0, 0, 0))] = true ∧ plen 98 [(.iinc 6 1, 3, (0, 0, 0))] = 101 := by decide +kernel
theorem ok_X10_run_104_2 : oks m_X10_run.1 m_X10_run.2.2.1 104 [(.aload_n 0, 1, (0, 0, 0)), (.getfield 40, 3, (10, 4, 0))] = true ∧ plen 104 [(.aload_n 0, 1, (0, 0, 0)), (.getfield 40, 3, (10, 4, 0))] = 108 := by decide +kernel
theorem ok_X10_run_114_2 : oks m_X10_run.1 m_X10_run.2.2.1 114 [(.iload_n 1, 1, (0, 0, 0)), (.iconst 2, 1, (0, 0, 0))] = true ∧ plen 114 [(.iload_n 1, 1, (0, 0, 0)), (.iconst 2, 1, (0, 0, 0))] = 116 := by decide +kernel
theorem ok_X10_run_119_2 : oks m_X10_run.1 m_X10_run.2.2.1 119 [(.aload_n 0, 1, (0, 0, 0)), (.iload_n 1, 1, (0, 0, 0))] = true ∧ plen 119 [(.aload_n 0, 1, (0, 0, 0)), (.iload_n 1, 1, (0, 0, 0))] = 121 := by decide +kernel
theorem ok_X10_run_130_1 : oks m_X10_run.1 m_X10_run.2.2.1 130 [(.iconst 1, 1, (0, 0, 0))] = true ∧ plen 130 [(.iconst 1, 1, (0, 0, 0))] = 131 := by decide +kernel
theorem ok_X10_run_134_1 : oks m_X10_run.1 m_X10_run.2.2.1 134 [(.iconst 0, 1, (0, 0, 0))] = true ∧ plen 134 [(.iconst 0, 1, (0, 0, 0))] = 135 := by decide +kernel
theorem ok_X10_run_138_5 : oks m_X10_run.1 m_X10_run.2.2.1 138 [(.aload_n 0, 1, (0, 0, 0)), (.getfield 49, 3, (10, 5, 0)), (.iload_n 2, 1, (0, 0, 0)), (.iload_n 3, 1, (0, 0, 0)), (.iload 4, 2, (0, 0, 0))] = true ∧ plen 138 [(.aload_n 0, 1, (0, 0, 0)), (.getfield 49, 3, (10, 5, 0)), (.iload_n 2, 1, (0, 0, 0)), (.iload_n 3, 1, (0, 0, 0)), (.iload 4, 2, (0, 0, 0))] = 146 := by decide +kernel
theorem ok_X10_run_149_1 : oks m_X10_run.1 m_X10_run.2.2.1 149 [(.iload_n 1, 1, (0, 0, 0))] = true ∧ plen 149 [(.iload_n 1, 1, (0, 0, 0))] = 150 := by decide +kernel
theorem ok_X10_run_153_2 : oks m_X10_run.1 m_X10_run.2.2.1 153 [(.aload_n 0, 1, (0, 0, 0)), (.getfield 58, 3, (10, 6, 0))] = true ∧ plen 153 [(.aload_n 0, 1, (0, 0, 0)), (.getfield 58, 3, (10, 6, 0))] = 157 := by decide +kernel
theorem ok_X10_run_161_2 : oks m_X10_run.1 m_X10_run.2.2.1 161 [(.iload_n 1, 1, (0, 0, 0)), (.iconst 1, 1, (0, 0, 0))] = true ∧ plen 161 [(.iload_n 1, 1, (0, 0, 0)), (.iconst 1, 1, (0, 0, 0))] = 163 := by decide +kernel
theorem ok_X10_run_166_2 : oks m_X10_run.1 m_X10_run.2.2.1 166 [(.aload_n 0, 1, (0, 0, 0)), (.getfield 65, 3, (10, 7, 0))] = true ∧ plen 166 [(.aload_n 0, 1, (0, 0, 0)), (.getfield 65, 3, (10, 7, 0))] = 170 := by decide +kernel
theorem ok_X10_run_176_2 : oks m_X10_run.1 m_X10_run.2.2.1 176 [(.aload_n 0, 1, (0, 0, 0)), (.iload_n 1, 1, (0, 0, 0))] = true ∧ plen 176 [(.aload_n 0, 1, (0, 0, 0)), (.iload_n 1, 1, (0, 0, 0))] = 178 := by decide +kernel
def B_X10_run_95 (x6 : Int) (y0 : Bool) (σ : Sg) : Option (Int ⊕ (Unit ⊕ ((Int ⊕ Nat) × Sg))) :=
if y0 = true then
some (.inl (wrap (x6 + 1)))
else some (.inr (.inr (.inr 1, σ)))
def L_X10_run_31 (x2 : Int) (x3 : Int) (x4 : Int) (x5 : Int) (σ : Sg) (x6 : Int) : Option (Int ⊕ (Unit ⊕ ((Int ⊕ Nat) × Sg))) :=
if 3 ≤ x6 then
some (.inr (.inl ()))
else
bnd (F_X10_pick x6 x2 x3 x4) fun v6 =>
if x5 ≤ x6 then
if v6 = (-1) then
B_X10_run_95 x6 true σ
else
B_X10_run_95 x6 false σ
else
if (F_X8_kindOf v6 σ) = (F_X4_kindOf x6 σ) then
B_X10_run_95 x6 true σ
else
B_X10_run_95 x6 false σ
def B_X10_run_135 (x1 : Int) (x2 : Int) (x3 : Int) (x4 : Int) (y0 : Bool) (σ : Sg) : Option ((Int ⊕ Nat) × Sg) :=
if y0 = true then
bnd (F_X1_start x2 x3 x4 σ) fun q12 =>
if x1 = 0 then
(F_X6_decide q12).bind fun q20 =>
some (.inl q20.1, q20.2)
else
if x1 = 1 then
(F_X0_decide q12).bind fun q18 =>
some (.inl q18.1, q18.2)
else
if x1 = 3 then
(F_X7_decide 49 q12).bind fun q14 =>
some (.inl q14.1, q14.2)
else
(F_X7_decide 43 q12).bind fun q16 =>
some (.inl q16.1, q16.2)
else some (.inr 2, σ)
def B_X10_run_130 (x1 : Int) (x2 : Int) (x3 : Int) (x4 : Int) (σ : Sg) : Option ((Int ⊕ Nat) × Sg) :=
B_X10_run_135 x1 x2 x3 x4 true σ
def F_X10_run (a1 : Int) (a2 : Int) (a3 : Int) (a4 : Int) (σ : Sg) : Option ((Int ⊕ Nat) × Sg) :=
bnd (F_X4_columns σ) fun v1 =>
if (F_X10_isIn a1 0 3) = true then
xb (F_X10_demandValues v1 a2 a3 a4 σ) (fun E σ => some (.inr E, σ)) fun v3 s4 =>
(iter (fun a : Int => L_X10_run_31 a2 a3 a4 v1 s4 a) 4 0).bind fun y8 => Sum.elim (fun z10 =>
if (F_X4_isThere s4) = true then
if a1 < 2 then
B_X10_run_130 a1 a2 a3 a4 s4
else
if a1 = 3 then
(F_X7_grow 49 s4).bind fun q22 =>
if q22.1 = true then
B_X10_run_130 a1 a2 a3 a4 q22.2
else
B_X10_run_135 a1 a2 a3 a4 false q22.2
else
(F_X7_grow 43 s4).bind fun q24 =>
if q24.1 = true then
B_X10_run_130 a1 a2 a3 a4 q24.2
else
B_X10_run_135 a1 a2 a3 a4 false q24.2
else some (.inr 2, s4)) (fun r11 => some r11) y8
else some (.inr 0, σ)
theorem lk_X10_run (l : Launch) (hl : l.stackTraces = false) (d : Nat) (hd : 159 ≤ d) (a1 : Int) (a2 : Int) (a3 : Int) (a4 : Int) (σ : Sg) (q : ((Int ⊕ Nat) × Sg)) (h : F_X10_run a1 a2 a3 a4 σ = some q) : outZ (ozI q.1) l d m_X10_run.2.1 m_X10_run.2.2.1 m_X10_run.2.2.2.1 m_X10_run.2.2.2.2 [.inr 0, .inl a1, .inl a2, .inl a3, .inl a4] (LAYC, σ) (LAYC, q.2) := by
  obtain ⟨d, rfl⟩ : ∃ e, d = e + 1 := ⟨d - 1, by omega⟩
  have key : Go l m_X10_run (d + 1) LAYC (ozI q.1) q.2 0 [some (.inr 0), some (.inl a1), some (.inl a2), some (.inl a3), some (.inl a4), none, none, none] [] σ := by
    unfold F_X10_run at h
    have hL_X10_run_31 : ∀ (x1 : Int) (x2 : Int) (x3 : Int) (x4 : Int) (x5 : Int) (σ : Sg) (n : Nat) (a : Int) (y : (Unit ⊕ ((Int ⊕ Nat) × Sg))), iter (fun a : Int => L_X10_run_31 x2 x3 x4 x5 σ a) n a = some y → (Sum.elim (fun y : Unit => Go l m_X10_run (d + 1) LAYC (ozI q.1) q.2 104 [some (.inr 0), some (.inl x1), some (.inl x2), some (.inl x3), some (.inl x4), none, none, none] [] σ) (fun r : ((Int ⊕ Nat) × Sg) => r = q)) y → (fun a : Int => Go l m_X10_run (d + 1) LAYC (ozI q.1) q.2 31 [some (.inr 0), some (.inl x1), some (.inl x2), some (.inl x3), some (.inl x4), some (.inl x5), some (.inl a), none] [] σ) a := by
      intro x1 x2 x3 x4 x5 σ
      refine go_iter (G := fun a : Int => Go l m_X10_run (d + 1) LAYC (ozI q.1) q.2 31 [some (.inr 0), some (.inl x1), some (.inl x2), some (.inl x3), some (.inl x4), some (.inl x5), some (.inl a), none] [] σ) (K := Sum.elim (fun y : Unit => Go l m_X10_run (d + 1) LAYC (ozI q.1) q.2 104 [some (.inr 0), some (.inl x1), some (.inl x2), some (.inl x3), some (.inl x4), none, none, none] [] σ) (fun r : ((Int ⊕ Nat) × Sg) => r = q)) ?_
      rintro x6 w h hK
      replace h : L_X10_run_31 x2 x3 x4 x5 σ x6 = some w := h
      show Go l m_X10_run (d + 1) LAYC (ozI q.1) q.2 31 [some (.inr 0), some (.inl x1), some (.inl x2), some (.inl x3), some (.inl x4), some (.inl x5), some (.inl x6), none] [] σ
      unfold L_X10_run_31 at h
      have hB_X10_run_95 : ∀ (x6 : Int) (y0 : Bool), B_X10_run_95 x6 y0 σ = some w → Go l m_X10_run (d + 1) LAYC (ozI q.1) q.2 95 [some (.inr 0), some (.inl x1), some (.inl x2), some (.inl x3), some (.inl x4), some (.inl x5), some (.inl x6), none] [.inl (b2i y0)] σ := by
        intro x6 y0 h
        unfold B_X10_run_95 at h
        rcases Decidable.em (¬ y0 = true) with hc | hc
        · replace h := (if_neg hc).symm.trans h
          cases h
          have hK2 : _ = q := hK
          subst hK2
          exact go_SX (M1 := m_X10_demandArgument) (as := [.inl (b2i y0)]) (st := []) dc_X10_run_95 ln_10_98 sm_X10_demandArgument rfl mk_X10_demandArgument rfl (Nat.le_of_ble_eq_true rfl) (Nat.le_refl _) (lkX_X10_demandArgument l d hl (by omega) _ hc LAYC σ) _ rfl
        replace hc := Decidable.not_not.mp hc
        replace h := (if_pos hc).symm.trans h
        refine go_S (M1 := m_X10_demandArgument) (as := [.inl (b2i y0)]) (st := []) dc_X10_run_95 ln_10_98 sm_X10_demandArgument mk_X10_demandArgument rfl (Nat.le_of_ble_eq_true rfl) (Nat.le_refl _) (v := none) (σ1 := σ) (lk_X10_demandArgument l d _ hc _ σ) _ rfl ?_
        refine go_ops ok_X10_run_98_1 (L' := [some (.inr 0), some (.inl x1), some (.inl x2), some (.inl x3), some (.inl x4), some (.inl x5), some (.inl (wrap (x6 + 1))), none]) (st' := []) (σ1 := σ) rfl ?_
        refine go_goto dc_X10_run_101 (by rfl) ?_
        cases h
        exact hK
      refine go_ops ok_X10_run_31_2 (L' := [some (.inr 0), some (.inl x1), some (.inl x2), some (.inl x3), some (.inl x4), some (.inl x5), some (.inl x6), none]) (st' := [.inl 3, .inl x6]) (σ1 := σ) rfl ?_
      refine go_icmp_ge dc_X10_run_34 (by rfl) (fun hc => ?_) (fun hc => ?_)
      · replace h := (if_pos hc).symm.trans h
        cases h
        refine go_wk (L' := [some (.inr 0), some (.inl x1), some (.inl x2), some (.inl x3), some (.inl x4), none, none, none]) ⟨rfl, rfl, rfl, rfl, rfl, trivial⟩ ?_
        exact hK
      · replace h := (if_neg hc).symm.trans h
        refine go_ops ok_X10_run_37_4 (L' := [some (.inr 0), some (.inl x1), some (.inl x2), some (.inl x3), some (.inl x4), some (.inl x5), some (.inl x6), none]) (st' := [.inl x4, .inl x3, .inl x2, .inl x6]) (σ1 := σ) rfl ?_
        refine go_S (M1 := m_X10_pick) (as := [.inl x6, .inl x2, .inl x3, .inl x4]) (st := []) dc_X10_run_43 ln_10_101 sm_X10_pick mk_X10_pick rfl (Nat.le_of_ble_eq_true rfl) (Nat.le_refl _) (v := (some (.inl (F_X10_pick x6 x2 x3 x4)))) (σ1 := σ) (lk_X10_pick l d (by omega) x6 x2 x3 x4 σ _ rfl) _ rfl ?_
        obtain ⟨v6, e7, h⟩ := bnd_inv h
        refine go_ops ok_X10_run_46_3 (L' := [some (.inr 0), some (.inl x1), some (.inl x2), some (.inl x3), some (.inl x4), some (.inl x5), some (.inl x6), some (.inl v6)]) (st' := [.inl x5, .inl x6]) (σ1 := σ) (by subst e7; rfl) ?_
        refine go_icmp_ge dc_X10_run_52 (by rfl) (fun hc => ?_) (fun hc => ?_)
        · replace h := (if_pos hc).symm.trans h
          refine go_ops ok_X10_run_84_2 (L' := [some (.inr 0), some (.inl x1), some (.inl x2), some (.inl x3), some (.inl x4), some (.inl x5), some (.inl x6), some (.inl v6)]) (st' := [.inl (-1), .inl v6]) (σ1 := σ) rfl ?_
          refine go_icmp_ne dc_X10_run_87 (by rfl) (fun hc => ?_) (fun hc => ?_)
          · replace h := (if_neg hc).symm.trans h
            refine go_ops ok_X10_run_94_1 (L' := [some (.inr 0), some (.inl x1), some (.inl x2), some (.inl x3), some (.inl x4), some (.inl x5), some (.inl x6), some (.inl v6)]) (st' := [.inl 0]) (σ1 := σ) rfl ?_
            refine go_wk (L' := [some (.inr 0), some (.inl x1), some (.inl x2), some (.inl x3), some (.inl x4), some (.inl x5), some (.inl x6), none]) ⟨rfl, rfl, rfl, rfl, rfl, rfl, rfl, trivial⟩ ?_
            exact hB_X10_run_95 x6 false h
          · replace h := (if_pos hc).symm.trans h
            refine go_ops ok_X10_run_90_1 (L' := [some (.inr 0), some (.inl x1), some (.inl x2), some (.inl x3), some (.inl x4), some (.inl x5), some (.inl x6), some (.inl v6)]) (st' := [.inl 1]) (σ1 := σ) rfl ?_
            refine go_goto dc_X10_run_91 (by rfl) ?_
            refine go_wk (L' := [some (.inr 0), some (.inl x1), some (.inl x2), some (.inl x3), some (.inl x4), some (.inl x5), some (.inl x6), none]) ⟨rfl, rfl, rfl, rfl, rfl, rfl, rfl, trivial⟩ ?_
            exact hB_X10_run_95 x6 true h
        · replace h := (if_neg hc).symm.trans h
          refine go_ops ok_X10_run_55_3 (L' := [some (.inr 0), some (.inl x1), some (.inl x2), some (.inl x3), some (.inl x4), some (.inl x5), some (.inl x6), some (.inl v6)]) (st' := [.inl v6, .inr 5]) (σ1 := σ) rfl ?_
          refine go_V (M1 := m_X8_kindOf) (as := [.inl v6]) (st := []) (k := 5) (ci := 8) dc_X10_run_61 ln_10_152 im_X8_kindOf (by decide) rfl rfl mk_X8_kindOf rfl (Nat.le_of_ble_eq_true rfl) (Nat.le_refl _) (v := (some (.inl (F_X8_kindOf v6 σ)))) (σ1 := σ) (lk_X8_kindOf l d (by omega) v6 σ _ rfl) _ rfl ?_
          refine go_ops ok_X10_run_64_3 (L' := [some (.inr 0), some (.inl x1), some (.inl x2), some (.inl x3), some (.inl x4), some (.inl x5), some (.inl x6), some (.inl v6)]) (st' := [.inl x6, .inr 24, .inl (F_X8_kindOf v6 σ)]) (σ1 := σ) rfl ?_
          refine go_V (M1 := m_X4_kindOf) (as := [.inl x6]) (st := [.inl (F_X8_kindOf v6 σ)]) (k := 24) (ci := 4) dc_X10_run_70 ln_10_206 im_X4_kindOf (by decide) rfl rfl mk_X4_kindOf rfl (Nat.le_of_ble_eq_true rfl) (Nat.le_refl _) (v := (some (.inl (F_X4_kindOf x6 σ)))) (σ1 := σ) (lk_X4_kindOf l d (by omega) x6 σ _ rfl) _ rfl ?_
          refine go_icmp_ne dc_X10_run_73 (by rfl) (fun hc => ?_) (fun hc => ?_)
          · replace h := (if_neg hc).symm.trans h
            refine go_ops ok_X10_run_80_1 (L' := [some (.inr 0), some (.inl x1), some (.inl x2), some (.inl x3), some (.inl x4), some (.inl x5), some (.inl x6), some (.inl v6)]) (st' := [.inl 0]) (σ1 := σ) rfl ?_
            refine go_goto dc_X10_run_81 (by rfl) ?_
            refine go_wk (L' := [some (.inr 0), some (.inl x1), some (.inl x2), some (.inl x3), some (.inl x4), some (.inl x5), some (.inl x6), none]) ⟨rfl, rfl, rfl, rfl, rfl, rfl, rfl, trivial⟩ ?_
            exact hB_X10_run_95 x6 false h
          · replace h := (if_pos hc).symm.trans h
            refine go_ops ok_X10_run_76_1 (L' := [some (.inr 0), some (.inl x1), some (.inl x2), some (.inl x3), some (.inl x4), some (.inl x5), some (.inl x6), some (.inl v6)]) (st' := [.inl 1]) (σ1 := σ) rfl ?_
            refine go_goto dc_X10_run_77 (by rfl) ?_
            refine go_wk (L' := [some (.inr 0), some (.inl x1), some (.inl x2), some (.inl x3), some (.inl x4), some (.inl x5), some (.inl x6), none]) ⟨rfl, rfl, rfl, rfl, rfl, rfl, rfl, trivial⟩ ?_
            exact hB_X10_run_95 x6 true h
    have hB_X10_run_135 : ∀ (x1 : Int) (x2 : Int) (x3 : Int) (x4 : Int) (y0 : Bool) (σ : Sg), B_X10_run_135 x1 x2 x3 x4 y0 σ = some q → Go l m_X10_run (d + 1) LAYC (ozI q.1) q.2 135 [some (.inr 0), some (.inl x1), some (.inl x2), some (.inl x3), some (.inl x4), none, none, none] [.inl (b2i y0)] σ := by
      intro x1 x2 x3 x4 y0 σ h
      unfold B_X10_run_135 at h
      rcases Decidable.em (¬ y0 = true) with hc | hc
      · replace h := (if_neg hc).symm.trans h
        have h9 := Option.some.inj h
        subst h9
        exact go_SX (M1 := m_X10_demandState) (as := [.inl (b2i y0)]) (st := []) dc_X10_run_135 ln_10_112 sm_X10_demandState rfl mk_X10_demandState rfl (Nat.le_of_ble_eq_true rfl) (Nat.le_refl _) (lkX_X10_demandState l d hl (by omega) _ hc LAYC σ) _ rfl
      replace hc := Decidable.not_not.mp hc
      replace h := (if_pos hc).symm.trans h
      refine go_S (M1 := m_X10_demandState) (as := [.inl (b2i y0)]) (st := []) dc_X10_run_135 ln_10_112 sm_X10_demandState mk_X10_demandState rfl (Nat.le_of_ble_eq_true rfl) (Nat.le_refl _) (v := none) (σ1 := σ) (lk_X10_demandState l d _ hc _ σ) _ rfl ?_
      refine go_ops ok_X10_run_138_5 (L' := [some (.inr 0), some (.inl x1), some (.inl x2), some (.inl x3), some (.inl x4), none, none, none]) (st' := [.inl x4, .inl x3, .inl x2, .inr 27]) (σ1 := σ) rfl ?_
      obtain ⟨q12, e13, h⟩ := bnd_inv h
      refine go_V (M1 := m_X1_start) (as := [.inl x2, .inl x3, .inl x4]) (st := []) (k := 27) (ci := 1) dc_X10_run_146 ln_10_259 im_X1_start (by decide) rfl rfl mk_X1_start rfl (Nat.le_of_ble_eq_true rfl) (Nat.le_refl _) (v := none) (σ1 := q12) (lk_X1_start l d (by omega) x2 x3 x4 σ q12 e13.symm) _ rfl ?_
      refine go_ops ok_X10_run_149_1 (L' := [some (.inr 0), some (.inl x1), some (.inl x2), some (.inl x3), some (.inl x4), none, none, none]) (st' := [.inl x1]) (σ1 := q12) rfl ?_
      refine go_if_ne dc_X10_run_150 (by rfl) (fun hc => ?_) (fun hc => ?_)
      · replace h := (if_neg hc).symm.trans h
        refine go_ops ok_X10_run_161_2 (L' := [some (.inr 0), some (.inl x1), some (.inl x2), some (.inl x3), some (.inl x4), none, none, none]) (st' := [.inl 1, .inl x1]) (σ1 := q12) rfl ?_
        refine go_icmp_ne dc_X10_run_163 (by rfl) (fun hc => ?_) (fun hc => ?_)
        · replace h := (if_neg hc).symm.trans h
          refine go_ops ok_X10_run_176_2 (L' := [some (.inr 0), some (.inl x1), some (.inl x2), some (.inl x3), some (.inl x4), none, none, none]) (st' := [.inl x1, .inr 0]) (σ1 := q12) rfl ?_
          rcases Decidable.em (x1 = 3) with hc | hc
          · replace h := (if_pos hc).symm.trans h
            refine go_V (M1 := m_X10_treeOf) (as := [.inl x1]) (st := []) (k := 0) (ci := 10) dc_X10_run_178 ln_10_252 im_X10_treeOf (by decide) rfl rfl mk_X10_treeOf rfl (Nat.le_of_ble_eq_true rfl) (Nat.le_refl _) (v := some (.inr 49)) (σ1 := q12) (lk_X10_treeOf_49 l d x1 hc q12) _ rfl ?_
            obtain ⟨q14, e15, h⟩ := bind_inv h
            refine go_V (M1 := m_X7_decide) (as := []) (st := []) (k := 49) (ci := 7) dc_X10_run_181 ln_10_265 im_X7_decide (by decide) rfl rfl mk_X7_decide rfl (Nat.le_of_ble_eq_true rfl) (Nat.le_refl _) (v := (some (.inl q14.1))) (σ1 := q14.2) (lk_X7_decide_49 l d (by omega) q12 q14 e15) _ rfl ?_
            have h9 := Option.some.inj h
            subst h9
            exact go_iret dc_X10_run_184 rfl
          · replace h := (if_neg hc).symm.trans h
            refine go_V (M1 := m_X10_treeOf) (as := [.inl x1]) (st := []) (k := 0) (ci := 10) dc_X10_run_178 ln_10_252 im_X10_treeOf (by decide) rfl rfl mk_X10_treeOf rfl (Nat.le_of_ble_eq_true rfl) (Nat.le_refl _) (v := some (.inr 43)) (σ1 := q12) (lk_X10_treeOf_43 l d x1 hc q12) _ rfl ?_
            obtain ⟨q16, e17, h⟩ := bind_inv h
            refine go_V (M1 := m_X7_decide) (as := []) (st := []) (k := 43) (ci := 7) dc_X10_run_181 ln_10_265 im_X7_decide (by decide) rfl rfl mk_X7_decide rfl (Nat.le_of_ble_eq_true rfl) (Nat.le_refl _) (v := (some (.inl q16.1))) (σ1 := q16.2) (lk_X7_decide_43 l d (by omega) q12 q16 e17) _ rfl ?_
            have h9 := Option.some.inj h
            subst h9
            exact go_iret dc_X10_run_184 rfl
        · replace h := (if_pos hc).symm.trans h
          refine go_ops ok_X10_run_166_2 (L' := [some (.inr 0), some (.inl x1), some (.inl x2), some (.inl x3), some (.inl x4), none, none, none]) (st' := [.inr 33]) (σ1 := q12) rfl ?_
          obtain ⟨q18, e19, h⟩ := bind_inv h
          refine go_V (M1 := m_X0_decide) (as := []) (st := []) (k := 33) (ci := 0) dc_X10_run_170 ln_10_264 im_X0_decide (by decide) rfl rfl mk_X0_decide rfl (Nat.le_of_ble_eq_true rfl) (Nat.le_refl _) (v := (some (.inl q18.1))) (σ1 := q18.2) (lk_X0_decide l d (by omega) q12 q18 e19) _ rfl ?_
          refine go_goto dc_X10_run_173 (by rfl) ?_
          have h9 := Option.some.inj h
          subst h9
          exact go_iret dc_X10_run_184 rfl
      · replace h := (if_pos hc).symm.trans h
        refine go_ops ok_X10_run_153_2 (L' := [some (.inr 0), some (.inl x1), some (.inl x2), some (.inl x3), some (.inl x4), none, none, none]) (st' := [.inr 32]) (σ1 := q12) rfl ?_
        obtain ⟨q20, e21, h⟩ := bind_inv h
        refine go_V (M1 := m_X6_decide) (as := []) (st := []) (k := 32) (ci := 6) dc_X10_run_157 ln_10_261 im_X6_decide (by decide) rfl rfl mk_X6_decide rfl (Nat.le_of_ble_eq_true rfl) (Nat.le_refl _) (v := (some (.inl q20.1))) (σ1 := q20.2) (lk_X6_decide l d (by omega) q12 q20 e21) _ rfl ?_
        have h9 := Option.some.inj h
        subst h9
        exact go_iret dc_X10_run_160 rfl
    have hB_X10_run_130 : ∀ (x1 : Int) (x2 : Int) (x3 : Int) (x4 : Int) (σ : Sg), B_X10_run_130 x1 x2 x3 x4 σ = some q → Go l m_X10_run (d + 1) LAYC (ozI q.1) q.2 130 [some (.inr 0), some (.inl x1), some (.inl x2), some (.inl x3), some (.inl x4), none, none, none] [] σ := by
      intro x1 x2 x3 x4 σ h
      unfold B_X10_run_130 at h
      refine go_ops ok_X10_run_130_1 (L' := [some (.inr 0), some (.inl x1), some (.inl x2), some (.inl x3), some (.inl x4), none, none, none]) (st' := [.inl 1]) (σ1 := σ) rfl ?_
      refine go_goto dc_X10_run_131 (by rfl) ?_
      exact hB_X10_run_135 x1 x2 x3 x4 true σ h
    refine go_ops ok_X10_run_0_2 (L' := [some (.inr 0), some (.inl a1), some (.inl a2), some (.inl a3), some (.inl a4), none, none, none]) (st' := [.inr 24]) (σ1 := σ) rfl ?_
    refine go_V (M1 := m_X4_columns) (as := []) (st := []) (k := 24) (ci := 4) dc_X10_run_4 ln_10_202 im_X4_columns (by decide) rfl rfl mk_X4_columns rfl (Nat.le_of_ble_eq_true rfl) (Nat.le_refl _) (v := (some (.inl (F_X4_columns σ)))) (σ1 := σ) (lk_X4_columns l d (by omega) σ _ rfl) _ rfl ?_
    obtain ⟨v1, e2, h⟩ := bnd_inv h
    refine go_ops ok_X10_run_7_4 (L' := [some (.inr 0), some (.inl a1), some (.inl a2), some (.inl a3), some (.inl a4), some (.inl v1), none, none]) (st' := [.inl 3, .inl 0, .inl a1]) (σ1 := σ) (by subst e2; rfl) ?_
    refine go_S (M1 := m_X10_isIn) (as := [.inl a1, .inl 0, .inl 3]) (st := []) dc_X10_run_12 ln_10_94 sm_X10_isIn mk_X10_isIn rfl (Nat.le_of_ble_eq_true rfl) (Nat.le_refl _) (v := (some (.inl (b2i (F_X10_isIn a1 0 3))))) (σ1 := σ) (lk_X10_isIn l d (by omega) a1 0 3 σ _ rfl) _ rfl ?_
    rcases Decidable.em (¬ (F_X10_isIn a1 0 3) = true) with hc | hc
    · replace h := (if_neg hc).symm.trans h
      have h9 := Option.some.inj h
      subst h9
      exact go_SX (M1 := m_X10_demandIndex) (as := [.inl (b2i (F_X10_isIn a1 0 3))]) (st := []) dc_X10_run_15 ln_10_90 sm_X10_demandIndex rfl mk_X10_demandIndex rfl (Nat.le_of_ble_eq_true rfl) (Nat.le_refl _) (lkX_X10_demandIndex l d hl (by omega) _ hc LAYC σ) _ rfl
    replace hc := Decidable.not_not.mp hc
    replace h := (if_pos hc).symm.trans h
    refine go_S (M1 := m_X10_demandIndex) (as := [.inl (b2i (F_X10_isIn a1 0 3))]) (st := []) dc_X10_run_15 ln_10_90 sm_X10_demandIndex mk_X10_demandIndex rfl (Nat.le_of_ble_eq_true rfl) (Nat.le_refl _) (v := none) (σ1 := σ) (lk_X10_demandIndex l d _ hc _ σ) _ rfl ?_
    refine go_ops ok_X10_run_18_5 (L' := [some (.inr 0), some (.inl a1), some (.inl a2), some (.inl a3), some (.inl a4), some (.inl v1), none, none]) (st' := [.inl a4, .inl a3, .inl a2, .inl v1, .inr 0]) (σ1 := σ) rfl ?_
    rcases xb_inv h with ⟨E1, s4, e5, h⟩ | ⟨v3, s4, e5, h⟩
    · have h9 := Option.some.inj h
      subst h9
      exact go_VX (M1 := m_X10_demandValues) (as := [.inl v1, .inl a2, .inl a3, .inl a4]) (st := []) (k := 0) (ci := 10) dc_X10_run_25 ln_10_144 im_X10_demandValues (by decide) rfl rfl mk_X10_demandValues rfl (Nat.le_of_ble_eq_true rfl) (Nat.le_refl _) (lk_X10_demandValues l hl d (by omega) v1 a2 a3 a4 σ _ e5) _ rfl
    refine go_V (M1 := m_X10_demandValues) (as := [.inl v1, .inl a2, .inl a3, .inl a4]) (st := []) (k := 0) (ci := 10) dc_X10_run_25 ln_10_144 im_X10_demandValues (by decide) rfl rfl mk_X10_demandValues rfl (Nat.le_of_ble_eq_true rfl) (Nat.le_refl _) (v := none) (σ1 := s4) (lk_X10_demandValues l hl d (by omega) v1 a2 a3 a4 σ _ e5) _ rfl ?_
    refine go_ops ok_X10_run_28_2 (L' := [some (.inr 0), some (.inl a1), some (.inl a2), some (.inl a3), some (.inl a4), some (.inl v1), some (.inl 0), none]) (st' := []) (σ1 := s4) rfl ?_
    obtain ⟨y8, e9, h⟩ := bind_inv h
    refine hL_X10_run_31 a1 a2 a3 a4 v1 s4 4 0 y8 e9 ?_
    rcases y8 with z10 | r11
    rotate_left
    · show r11 = q
      cases h; rfl
    show Go l m_X10_run (d + 1) LAYC (ozI q.1) q.2 104 [some (.inr 0), some (.inl a1), some (.inl a2), some (.inl a3), some (.inl a4), none, none, none] [] s4
    rw [Sum.elim_inl] at h
    refine go_ops ok_X10_run_104_2 (L' := [some (.inr 0), some (.inl a1), some (.inl a2), some (.inl a3), some (.inl a4), none, none, none]) (st' := [.inr 24]) (σ1 := s4) rfl ?_
    refine go_V (M1 := m_X4_isThere) (as := []) (st := []) (k := 24) (ci := 4) dc_X10_run_108 ln_10_210 im_X4_isThere (by decide) rfl rfl mk_X4_isThere rfl (Nat.le_of_ble_eq_true rfl) (Nat.le_refl _) (v := (some (.inl (b2i (F_X4_isThere s4))))) (σ1 := s4) (lk_X4_isThere l d (by omega) s4 _ rfl) _ rfl ?_
    rcases Decidable.em (¬ (F_X4_isThere s4) = true) with hc | hc
    · replace h := (if_neg hc).symm.trans h
      have h9 := Option.some.inj h
      subst h9
      exact go_SX (M1 := m_X10_demandState) (as := [.inl (b2i (F_X4_isThere s4))]) (st := []) dc_X10_run_111 ln_10_112 sm_X10_demandState rfl mk_X10_demandState rfl (Nat.le_of_ble_eq_true rfl) (Nat.le_refl _) (lkX_X10_demandState l d hl (by omega) _ hc LAYC s4) _ rfl
    replace hc := Decidable.not_not.mp hc
    replace h := (if_pos hc).symm.trans h
    refine go_S (M1 := m_X10_demandState) (as := [.inl (b2i (F_X4_isThere s4))]) (st := []) dc_X10_run_111 ln_10_112 sm_X10_demandState mk_X10_demandState rfl (Nat.le_of_ble_eq_true rfl) (Nat.le_refl _) (v := none) (σ1 := s4) (lk_X10_demandState l d _ hc _ s4) _ rfl ?_
    refine go_ops ok_X10_run_114_2 (L' := [some (.inr 0), some (.inl a1), some (.inl a2), some (.inl a3), some (.inl a4), none, none, none]) (st' := [.inl 2, .inl a1]) (σ1 := s4) rfl ?_
    refine go_icmp_lt dc_X10_run_116 (by rfl) (fun hc => ?_) (fun hc => ?_)
    · replace h := (if_pos hc).symm.trans h
      exact hB_X10_run_130 a1 a2 a3 a4 s4 h
    · replace h := (if_neg hc).symm.trans h
      refine go_ops ok_X10_run_119_2 (L' := [some (.inr 0), some (.inl a1), some (.inl a2), some (.inl a3), some (.inl a4), none, none, none]) (st' := [.inl a1, .inr 0]) (σ1 := s4) rfl ?_
      rcases Decidable.em (a1 = 3) with hc | hc
      · replace h := (if_pos hc).symm.trans h
        refine go_V (M1 := m_X10_treeOf) (as := [.inl a1]) (st := []) (k := 0) (ci := 10) dc_X10_run_121 ln_10_252 im_X10_treeOf (by decide) rfl rfl mk_X10_treeOf rfl (Nat.le_of_ble_eq_true rfl) (Nat.le_refl _) (v := some (.inr 49)) (σ1 := s4) (lk_X10_treeOf_49 l d a1 hc s4) _ rfl ?_
        obtain ⟨q22, e23, h⟩ := bind_inv h
        refine go_V (M1 := m_X7_grow) (as := []) (st := []) (k := 49) (ci := 7) dc_X10_run_124 ln_10_256 im_X7_grow (by decide) rfl rfl mk_X7_grow rfl (Nat.le_of_ble_eq_true rfl) (Nat.le_refl _) (v := (some (.inl (b2i q22.1)))) (σ1 := q22.2) (lk_X7_grow_49 l d (by omega) s4 q22 e23) _ rfl ?_
        refine go_ifb_eq dc_X10_run_127 (by rfl) (fun hc => ?_) (fun hc => ?_)
        · replace h := (if_neg hc).symm.trans h
          refine go_ops ok_X10_run_134_1 (L' := [some (.inr 0), some (.inl a1), some (.inl a2), some (.inl a3), some (.inl a4), none, none, none]) (st' := [.inl 0]) (σ1 := q22.2) rfl ?_
          exact hB_X10_run_135 a1 a2 a3 a4 false q22.2 h
        · replace h := (if_pos hc).symm.trans h
          exact hB_X10_run_130 a1 a2 a3 a4 q22.2 h
      · replace h := (if_neg hc).symm.trans h
        refine go_V (M1 := m_X10_treeOf) (as := [.inl a1]) (st := []) (k := 0) (ci := 10) dc_X10_run_121 ln_10_252 im_X10_treeOf (by decide) rfl rfl mk_X10_treeOf rfl (Nat.le_of_ble_eq_true rfl) (Nat.le_refl _) (v := some (.inr 43)) (σ1 := s4) (lk_X10_treeOf_43 l d a1 hc s4) _ rfl ?_
        obtain ⟨q24, e25, h⟩ := bind_inv h
        refine go_V (M1 := m_X7_grow) (as := []) (st := []) (k := 43) (ci := 7) dc_X10_run_124 ln_10_256 im_X7_grow (by decide) rfl rfl mk_X7_grow rfl (Nat.le_of_ble_eq_true rfl) (Nat.le_refl _) (v := (some (.inl (b2i q24.1)))) (σ1 := q24.2) (lk_X7_grow_43 l d (by omega) s4 q24 e25) _ rfl ?_
        refine go_ifb_eq dc_X10_run_127 (by rfl) (fun hc => ?_) (fun hc => ?_)
        · replace h := (if_neg hc).symm.trans h
          refine go_ops ok_X10_run_134_1 (L' := [some (.inr 0), some (.inl a1), some (.inl a2), some (.inl a3), some (.inl a4), none, none, none]) (st' := [.inl 0]) (σ1 := q24.2) rfl ?_
          exact hB_X10_run_135 a1 a2 a3 a4 false q24.2 h
        · replace h := (if_pos hc).symm.trans h
          exact hB_X10_run_130 a1 a2 a3 a4 q24.2 h
  have hf := go_co (as := [.inr 0, .inl a1, .inl a2, .inl a3, .inl a4]) mk_X10_run (fun _ _ => by decide +kernel) (by rfl) (Nat.le_of_ble_eq_true rfl) key
  exact hf
theorem dc_X10_tests_4 : decode m_X10_tests.2.2.1 4 = .ok (.invokevirtual 266, 3) := by decide +kernel
theorem dc_X10_tests_7 : decode m_X10_tests.2.2.1 7 = .ok (.ireturn, 1) := by decide +kernel
theorem ok_X10_tests_0_2 : oks m_X10_tests.1 m_X10_tests.2.2.1 0 [(.aload_n 0, 1, (0, 0, 0)), (.getfield 49, 3, (10, 5, 0))] = true ∧ plen 0 [(.aload_n 0, 1, (0, 0, 0)), (.getfield 49, 3, (10, 5, 0))] = 4 := by decide +kernel
def F_X10_tests (σ : Sg) : Int :=
F_X1_testCount σ
theorem lk_X10_tests (l : Launch) (d : Nat) (hd : 1 ≤ d) (σ : Sg) (q : Int) (h : F_X10_tests σ = q) : CT l d m_X10_tests.2.1 m_X10_tests.2.2.1 m_X10_tests.2.2.2.1 m_X10_tests.2.2.2.2 [.inr 0] (LAYC, σ) (some (.inl q)) (LAYC, σ) := by
  obtain ⟨d, rfl⟩ : ∃ e, d = e + 1 := ⟨d - 1, by omega⟩
  have key : Go l m_X10_tests (d + 1) LAYC (.inl (some (.inl q))) σ 0 [some (.inr 0)] [] σ := by
    unfold F_X10_tests at h
    refine go_ops ok_X10_tests_0_2 (L' := [some (.inr 0)]) (st' := [.inr 27]) (σ1 := σ) rfl ?_
    refine go_V (M1 := m_X1_testCount) (as := []) (st := []) (k := 27) (ci := 1) dc_X10_tests_4 ln_10_266 im_X1_testCount (by decide) rfl rfl mk_X1_testCount rfl (Nat.le_of_ble_eq_true rfl) (Nat.le_refl _) (v := (some (.inl (F_X1_testCount σ)))) (σ1 := σ) (lk_X1_testCount l d (by omega) σ _ rfl) _ rfl ?_
    subst h
    exact go_iret dc_X10_tests_7 rfl
  have hf := go_ct (as := [.inr 0]) mk_X10_tests (by rfl) (Nat.le_of_ble_eq_true rfl) key
  exact hf
theorem dc_X10_views_4 : decode m_X10_views.2.2.1 4 = .ok (.invokevirtual 269, 3) := by decide +kernel
theorem dc_X10_views_7 : decode m_X10_views.2.2.1 7 = .ok (.ireturn, 1) := by decide +kernel
theorem ok_X10_views_0_2 : oks m_X10_views.1 m_X10_views.2.2.1 0 [(.aload_n 0, 1, (0, 0, 0)), (.getfield 49, 3, (10, 5, 0))] = true ∧ plen 0 [(.aload_n 0, 1, (0, 0, 0)), (.getfield 49, 3, (10, 5, 0))] = 4 := by decide +kernel
def F_X10_views (σ : Sg) : Int :=
F_X1_viewCount σ
theorem lk_X10_views (l : Launch) (d : Nat) (hd : 1 ≤ d) (σ : Sg) (q : Int) (h : F_X10_views σ = q) : CT l d m_X10_views.2.1 m_X10_views.2.2.1 m_X10_views.2.2.2.1 m_X10_views.2.2.2.2 [.inr 0] (LAYC, σ) (some (.inl q)) (LAYC, σ) := by
  obtain ⟨d, rfl⟩ : ∃ e, d = e + 1 := ⟨d - 1, by omega⟩
  have key : Go l m_X10_views (d + 1) LAYC (.inl (some (.inl q))) σ 0 [some (.inr 0)] [] σ := by
    unfold F_X10_views at h
    refine go_ops ok_X10_views_0_2 (L' := [some (.inr 0)]) (st' := [.inr 27]) (σ1 := σ) rfl ?_
    refine go_V (M1 := m_X1_viewCount) (as := []) (st := []) (k := 27) (ci := 1) dc_X10_views_4 ln_10_269 im_X1_viewCount (by decide) rfl rfl mk_X1_viewCount rfl (Nat.le_of_ble_eq_true rfl) (Nat.le_refl _) (v := (some (.inl (F_X1_viewCount σ)))) (σ1 := σ) (lk_X1_viewCount l d (by omega) σ _ rfl) _ rfl ?_
    subst h
    exact go_iret dc_X10_views_7 rfl
  have hf := go_ct (as := [.inr 0]) mk_X10_views (by rfl) (Nat.le_of_ble_eq_true rfl) key
  exact hf
theorem dc_X10_viewAt_6 : decode m_X10_viewAt.2.2.1 6 = .ok (.invokevirtual 269, 3) := by decide +kernel
theorem dc_X10_viewAt_11 : decode m_X10_viewAt.2.2.1 11 = .ok (.invokestatic 94, 3) := by decide +kernel
theorem dc_X10_viewAt_14 : decode m_X10_viewAt.2.2.1 14 = .ok (.invokestatic 90, 3) := by decide +kernel
theorem dc_X10_viewAt_22 : decode m_X10_viewAt.2.2.1 22 = .ok (.invokevirtual 272, 3) := by decide +kernel
theorem dc_X10_viewAt_25 : decode m_X10_viewAt.2.2.1 25 = .ok (.ireturn, 1) := by decide +kernel
theorem ok_X10_viewAt_0_4 : oks m_X10_viewAt.1 m_X10_viewAt.2.2.1 0 [(.iload_n 1, 1, (0, 0, 0)), (.iconst 0, 1, (0, 0, 0)), (.aload_n 0, 1, (0, 0, 0)), (.getfield 49, 3, (10, 5, 0))] = true ∧ plen 0 [(.iload_n 1, 1, (0, 0, 0)), (.iconst 0, 1, (0, 0, 0)), (.aload_n 0, 1, (0, 0, 0)), (.getfield 49, 3, (10, 5, 0))] = 6 := by decide +kernel
theorem ok_X10_viewAt_9_2 : oks m_X10_viewAt.1 m_X10_viewAt.2.2.1 9 [(.iconst 1, 1, (0, 0, 0)), (.isub, 1, (0, 0, 0))] = true ∧ plen 9 [(.iconst 1, 1, (0, 0, 0)), (.isub, 1, (0, 0, 0))] = 11 := by decide +kernel
theorem ok_X10_viewAt_17_3 : oks m_X10_viewAt.1 m_X10_viewAt.2.2.1 17 [(.aload_n 0, 1, (0, 0, 0)), (.getfield 49, 3, (10, 5, 0)), (.iload_n 1, 1, (0, 0, 0))] = true ∧ plen 17 [(.aload_n 0, 1, (0, 0, 0)), (.getfield 49, 3, (10, 5, 0)), (.iload_n 1, 1, (0, 0, 0))] = 22 := by decide +kernel
def F_X10_viewAt (a1 : Int) (σ : Sg) : Option ((Int ⊕ Nat) × Sg) :=
if (F_X10_isIn a1 0 (wrap ((F_X1_viewCount σ) - 1))) = true then
some (.inl (F_X1_ranAt a1 σ), σ)
else some (.inr 0, σ)
theorem lk_X10_viewAt (l : Launch) (hl : l.stackTraces = false) (d : Nat) (hd : 7 ≤ d) (a1 : Int) (σ : Sg) (q : ((Int ⊕ Nat) × Sg)) (h : F_X10_viewAt a1 σ = some q) : outZ (ozI q.1) l d m_X10_viewAt.2.1 m_X10_viewAt.2.2.1 m_X10_viewAt.2.2.2.1 m_X10_viewAt.2.2.2.2 [.inr 0, .inl a1] (LAYC, σ) (LAYC, q.2) := by
  obtain ⟨d, rfl⟩ : ∃ e, d = e + 1 := ⟨d - 1, by omega⟩
  have key : Go l m_X10_viewAt (d + 1) LAYC (ozI q.1) q.2 0 [some (.inr 0), some (.inl a1)] [] σ := by
    unfold F_X10_viewAt at h
    refine go_ops ok_X10_viewAt_0_4 (L' := [some (.inr 0), some (.inl a1)]) (st' := [.inr 27, .inl 0, .inl a1]) (σ1 := σ) rfl ?_
    refine go_V (M1 := m_X1_viewCount) (as := []) (st := [.inl 0, .inl a1]) (k := 27) (ci := 1) dc_X10_viewAt_6 ln_10_269 im_X1_viewCount (by decide) rfl rfl mk_X1_viewCount rfl (Nat.le_of_ble_eq_true rfl) (Nat.le_refl _) (v := (some (.inl (F_X1_viewCount σ)))) (σ1 := σ) (lk_X1_viewCount l d (by omega) σ _ rfl) _ rfl ?_
    refine go_ops ok_X10_viewAt_9_2 (L' := [some (.inr 0), some (.inl a1)]) (st' := [.inl (wrap ((F_X1_viewCount σ) - 1)), .inl 0, .inl a1]) (σ1 := σ) rfl ?_
    refine go_S (M1 := m_X10_isIn) (as := [.inl a1, .inl 0, .inl (wrap ((F_X1_viewCount σ) - 1))]) (st := []) dc_X10_viewAt_11 ln_10_94 sm_X10_isIn mk_X10_isIn rfl (Nat.le_of_ble_eq_true rfl) (Nat.le_refl _) (v := (some (.inl (b2i (F_X10_isIn a1 0 (wrap ((F_X1_viewCount σ) - 1))))))) (σ1 := σ) (lk_X10_isIn l d (by omega) a1 0 (wrap ((F_X1_viewCount σ) - 1)) σ _ rfl) _ rfl ?_
    rcases Decidable.em (¬ (F_X10_isIn a1 0 (wrap ((F_X1_viewCount σ) - 1))) = true) with hc | hc
    · replace h := (if_neg hc).symm.trans h
      have h9 := Option.some.inj h
      subst h9
      exact go_SX (M1 := m_X10_demandIndex) (as := [.inl (b2i (F_X10_isIn a1 0 (wrap ((F_X1_viewCount σ) - 1))))]) (st := []) dc_X10_viewAt_14 ln_10_90 sm_X10_demandIndex rfl mk_X10_demandIndex rfl (Nat.le_of_ble_eq_true rfl) (Nat.le_refl _) (lkX_X10_demandIndex l d hl (by omega) _ hc LAYC σ) _ rfl
    replace hc := Decidable.not_not.mp hc
    replace h := (if_pos hc).symm.trans h
    refine go_S (M1 := m_X10_demandIndex) (as := [.inl (b2i (F_X10_isIn a1 0 (wrap ((F_X1_viewCount σ) - 1))))]) (st := []) dc_X10_viewAt_14 ln_10_90 sm_X10_demandIndex mk_X10_demandIndex rfl (Nat.le_of_ble_eq_true rfl) (Nat.le_refl _) (v := none) (σ1 := σ) (lk_X10_demandIndex l d _ hc _ σ) _ rfl ?_
    refine go_ops ok_X10_viewAt_17_3 (L' := [some (.inr 0), some (.inl a1)]) (st' := [.inl a1, .inr 27]) (σ1 := σ) rfl ?_
    refine go_V (M1 := m_X1_ranAt) (as := [.inl a1]) (st := []) (k := 27) (ci := 1) dc_X10_viewAt_22 ln_10_272 im_X1_ranAt (by decide) rfl rfl mk_X1_ranAt rfl (Nat.le_of_ble_eq_true rfl) (Nat.le_refl _) (v := (some (.inl (F_X1_ranAt a1 σ)))) (σ1 := σ) (lk_X1_ranAt l d (by omega) a1 σ _ rfl) _ rfl ?_
    have h9 := Option.some.inj h
    subst h9
    exact go_iret dc_X10_viewAt_25 rfl
  have hf := go_co (as := [.inr 0, .inl a1]) mk_X10_viewAt (fun _ _ => by decide +kernel) (by rfl) (Nat.le_of_ble_eq_true rfl) key
  exact hf
theorem dc_X10_bound_1 : decode m_X10_bound.2.2.1 1 = .ok (.invokestatic 159, 3) := by decide +kernel
theorem dc_X10_bound_4 : decode m_X10_bound.2.2.1 4 = .ok (.invokestatic 90, 3) := by decide +kernel
theorem dc_X10_bound_12 : decode m_X10_bound.2.2.1 12 = .ok (.invokevirtual 275, 3) := by decide +kernel
theorem dc_X10_bound_15 : decode m_X10_bound.2.2.1 15 = .ok (.ireturn, 1) := by decide +kernel
theorem ok_X10_bound_0_1 : oks m_X10_bound.1 m_X10_bound.2.2.1 0 [(.iload_n 1, 1, (0, 0, 0))] = true ∧ plen 0 [(.iload_n 1, 1, (0, 0, 0))] = 1 := by decide +kernel
theorem ok_X10_bound_7_3 : oks m_X10_bound.1 m_X10_bound.2.2.1 7 [(.aload_n 0, 1, (0, 0, 0)), (.getfield 49, 3, (10, 5, 0)), (.iload_n 1, 1, (0, 0, 0))] = true ∧ plen 7 [(.aload_n 0, 1, (0, 0, 0)), (.getfield 49, 3, (10, 5, 0)), (.iload_n 1, 1, (0, 0, 0))] = 12 := by decide +kernel
def F_X10_bound (a1 : Int) (σ : Sg) : Option ((Int ⊕ Nat) × Sg) :=
if (F_X10_isName a1) = true then
some (.inl (F_X1_placeOf a1 σ), σ)
else some (.inr 0, σ)
theorem lk_X10_bound (l : Launch) (hl : l.stackTraces = false) (d : Nat) (hd : 7 ≤ d) (a1 : Int) (σ : Sg) (q : ((Int ⊕ Nat) × Sg)) (h : F_X10_bound a1 σ = some q) : outZ (ozI q.1) l d m_X10_bound.2.1 m_X10_bound.2.2.1 m_X10_bound.2.2.2.1 m_X10_bound.2.2.2.2 [.inr 0, .inl a1] (LAYC, σ) (LAYC, q.2) := by
  obtain ⟨d, rfl⟩ : ∃ e, d = e + 1 := ⟨d - 1, by omega⟩
  have key : Go l m_X10_bound (d + 1) LAYC (ozI q.1) q.2 0 [some (.inr 0), some (.inl a1)] [] σ := by
    unfold F_X10_bound at h
    refine go_ops ok_X10_bound_0_1 (L' := [some (.inr 0), some (.inl a1)]) (st' := [.inl a1]) (σ1 := σ) rfl ?_
    refine go_S (M1 := m_X10_isName) (as := [.inl a1]) (st := []) dc_X10_bound_1 ln_10_159 sm_X10_isName mk_X10_isName rfl (Nat.le_of_ble_eq_true rfl) (Nat.le_refl _) (v := (some (.inl (b2i (F_X10_isName a1))))) (σ1 := σ) (lk_X10_isName l d (by omega) a1 σ _ rfl) _ rfl ?_
    rcases Decidable.em (¬ (F_X10_isName a1) = true) with hc | hc
    · replace h := (if_neg hc).symm.trans h
      have h9 := Option.some.inj h
      subst h9
      exact go_SX (M1 := m_X10_demandIndex) (as := [.inl (b2i (F_X10_isName a1))]) (st := []) dc_X10_bound_4 ln_10_90 sm_X10_demandIndex rfl mk_X10_demandIndex rfl (Nat.le_of_ble_eq_true rfl) (Nat.le_refl _) (lkX_X10_demandIndex l d hl (by omega) _ hc LAYC σ) _ rfl
    replace hc := Decidable.not_not.mp hc
    replace h := (if_pos hc).symm.trans h
    refine go_S (M1 := m_X10_demandIndex) (as := [.inl (b2i (F_X10_isName a1))]) (st := []) dc_X10_bound_4 ln_10_90 sm_X10_demandIndex mk_X10_demandIndex rfl (Nat.le_of_ble_eq_true rfl) (Nat.le_refl _) (v := none) (σ1 := σ) (lk_X10_demandIndex l d _ hc _ σ) _ rfl ?_
    refine go_ops ok_X10_bound_7_3 (L' := [some (.inr 0), some (.inl a1)]) (st' := [.inl a1, .inr 27]) (σ1 := σ) rfl ?_
    refine go_V (M1 := m_X1_placeOf) (as := [.inl a1]) (st := []) (k := 27) (ci := 1) dc_X10_bound_12 ln_10_275 im_X1_placeOf (by decide) rfl rfl mk_X1_placeOf rfl (Nat.le_of_ble_eq_true rfl) (Nat.le_refl _) (v := (some (.inl (F_X1_placeOf a1 σ)))) (σ1 := σ) (lk_X1_placeOf l d (by omega) a1 σ _ rfl) _ rfl ?_
    have h9 := Option.some.inj h
    subst h9
    exact go_iret dc_X10_bound_15 rfl
  have hf := go_co (as := [.inr 0, .inl a1]) mk_X10_bound (fun _ _ => by decide +kernel) (by rfl) (Nat.le_of_ble_eq_true rfl) key
  exact hf
theorem dc_X10_taken_5 : decode m_X10_taken.2.2.1 5 = .ok (.invokevirtual 218, 3) := by decide +kernel
theorem dc_X10_taken_8 : decode m_X10_taken.2.2.1 8 = .ok (.invokestatic 90, 3) := by decide +kernel
theorem dc_X10_taken_18 : decode m_X10_taken.2.2.1 18 = .ok (.invokevirtual 223, 3) := by decide +kernel
theorem dc_X10_taken_21 : decode m_X10_taken.2.2.1 21 = .ok (.ireturn, 1) := by decide +kernel
theorem ok_X10_taken_0_3 : oks m_X10_taken.1 m_X10_taken.2.2.1 0 [(.aload_n 0, 1, (0, 0, 0)), (.getfield 40, 3, (10, 4, 0)), (.iload_n 1, 1, (0, 0, 0))] = true ∧ plen 0 [(.aload_n 0, 1, (0, 0, 0)), (.getfield 40, 3, (10, 4, 0)), (.iload_n 1, 1, (0, 0, 0))] = 5 := by decide +kernel
theorem ok_X10_taken_11_4 : oks m_X10_taken.1 m_X10_taken.2.2.1 11 [(.aload_n 0, 1, (0, 0, 0)), (.getfield 40, 3, (10, 4, 0)), (.iload_n 1, 1, (0, 0, 0)), (.bipush 7, 2, (0, 0, 0))] = true ∧ plen 11 [(.aload_n 0, 1, (0, 0, 0)), (.getfield 40, 3, (10, 4, 0)), (.iload_n 1, 1, (0, 0, 0)), (.bipush 7, 2, (0, 0, 0))] = 18 := by decide +kernel
def F_X10_taken (a1 : Int) (σ : Sg) : Option ((Int ⊕ Nat) × Sg) :=
if (F_X4_has a1 σ) = true then
some (.inl (F_X4_get a1 7 σ), σ)
else some (.inr 0, σ)
theorem lk_X10_taken (l : Launch) (hl : l.stackTraces = false) (d : Nat) (hd : 7 ≤ d) (a1 : Int) (σ : Sg) (q : ((Int ⊕ Nat) × Sg)) (h : F_X10_taken a1 σ = some q) : outZ (ozI q.1) l d m_X10_taken.2.1 m_X10_taken.2.2.1 m_X10_taken.2.2.2.1 m_X10_taken.2.2.2.2 [.inr 0, .inl a1] (LAYC, σ) (LAYC, q.2) := by
  obtain ⟨d, rfl⟩ : ∃ e, d = e + 1 := ⟨d - 1, by omega⟩
  have key : Go l m_X10_taken (d + 1) LAYC (ozI q.1) q.2 0 [some (.inr 0), some (.inl a1)] [] σ := by
    unfold F_X10_taken at h
    refine go_ops ok_X10_taken_0_3 (L' := [some (.inr 0), some (.inl a1)]) (st' := [.inl a1, .inr 24]) (σ1 := σ) rfl ?_
    refine go_V (M1 := m_X4_has) (as := [.inl a1]) (st := []) (k := 24) (ci := 4) dc_X10_taken_5 ln_10_218 im_X4_has (by decide) rfl rfl mk_X4_has rfl (Nat.le_of_ble_eq_true rfl) (Nat.le_refl _) (v := (some (.inl (b2i (F_X4_has a1 σ))))) (σ1 := σ) (lk_X4_has l d (by omega) a1 σ _ rfl) _ rfl ?_
    rcases Decidable.em (¬ (F_X4_has a1 σ) = true) with hc | hc
    · replace h := (if_neg hc).symm.trans h
      have h9 := Option.some.inj h
      subst h9
      exact go_SX (M1 := m_X10_demandIndex) (as := [.inl (b2i (F_X4_has a1 σ))]) (st := []) dc_X10_taken_8 ln_10_90 sm_X10_demandIndex rfl mk_X10_demandIndex rfl (Nat.le_of_ble_eq_true rfl) (Nat.le_refl _) (lkX_X10_demandIndex l d hl (by omega) _ hc LAYC σ) _ rfl
    replace hc := Decidable.not_not.mp hc
    replace h := (if_pos hc).symm.trans h
    refine go_S (M1 := m_X10_demandIndex) (as := [.inl (b2i (F_X4_has a1 σ))]) (st := []) dc_X10_taken_8 ln_10_90 sm_X10_demandIndex mk_X10_demandIndex rfl (Nat.le_of_ble_eq_true rfl) (Nat.le_refl _) (v := none) (σ1 := σ) (lk_X10_demandIndex l d _ hc _ σ) _ rfl ?_
    refine go_ops ok_X10_taken_11_4 (L' := [some (.inr 0), some (.inl a1)]) (st' := [.inl 7, .inl a1, .inr 24]) (σ1 := σ) rfl ?_
    refine go_V (M1 := m_X4_get) (as := [.inl a1, .inl 7]) (st := []) (k := 24) (ci := 4) dc_X10_taken_18 ln_10_223 im_X4_get (by decide) rfl rfl mk_X4_get rfl (Nat.le_of_ble_eq_true rfl) (Nat.le_refl _) (v := (some (.inl (F_X4_get a1 7 σ)))) (σ1 := σ) (lk_X4_get l d (by omega) a1 7 σ _ rfl) _ rfl ?_
    have h9 := Option.some.inj h
    subst h9
    exact go_iret dc_X10_taken_21 rfl
  have hf := go_co (as := [.inr 0, .inl a1]) mk_X10_taken (fun _ _ => by decide +kernel) (by rfl) (Nat.le_of_ble_eq_true rfl) key
  exact hf
