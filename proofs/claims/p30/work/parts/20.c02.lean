/-! read off: X4_append .. X7_forget -/
theorem dc_X4_append_19 : decode m_X4_append.2.2.1 19 = .ok (.if_icmp .ge 25, 3) := by decide +kernel
theorem dc_X4_append_32 : decode m_X4_append.2.2.1 32 = .ok (.invokestatic 41, 3) := by decide +kernel
theorem dc_X4_append_35 : decode m_X4_append.2.2.1 35 = .ok (.invokevirtual 45, 3) := by decide +kernel
theorem dc_X4_append_41 : decode m_X4_append.2.2.1 41 = .ok (.goto (-25), 3) := by decide +kernel
theorem dc_X4_append_50 : decode m_X4_append.2.2.1 50 = .ok (.invokevirtual 45, 3) := by decide +kernel
theorem dc_X4_append_58 : decode m_X4_append.2.2.1 58 = .ok (.invokevirtual 45, 3) := by decide +kernel
theorem dc_X4_append_66 : decode m_X4_append.2.2.1 66 = .ok (.invokevirtual 45, 3) := by decide +kernel
theorem dc_X4_append_75 : decode m_X4_append.2.2.1 75 = .ok (.invokevirtual 45, 3) := by decide +kernel
theorem dc_X4_append_84 : decode m_X4_append.2.2.1 84 = .ok (.invokevirtual 45, 3) := by decide +kernel
theorem dc_X4_append_89 : decode m_X4_append.2.2.1 89 = .ok (.ireturn, 1) := by decide +kernel
theorem ok_X4_append_0_10 : oks m_X4_append.1 m_X4_append.2.2.1 0 [(.aload_n 0, 1, (0, 0, 0)), (.dup, 1, (0, 0, 0)), (.getfield 15, 3, (4, 1, 0)), (.dup_x1, 1, (0, 0, 0)), (.iconst 1, 1, (0, 0, 0)), (.iadd, 1, (0, 0, 0)), (.putfield 15, 3, (4, 1, 0)), (.istore 5, 2, (0, 0, 0)), (.iconst 0, 1, (0, 0, 0)), (.istore 6, 2, (0, 0, 0))] = true ∧ plen 0 [(.aload_n 0, 1, (0, 0, 0)), (.dup, 1, (0, 0, 0)), (.getfield 15, 3, (4, 1, 0)), (.dup_x1, 1, (0, 0, 0)), (.iconst 1, 1, (0, 0, 0)), (.iadd, 1, (0, 0, 0)), (.putfield 15, 3, (4, 1, 0)), (.istore 5, 2, (0, 0, 0)), (.iconst 0, 1, (0, 0, 0)), (.istore 6, 2, (0, 0, 0))] = 16 := by decide +kernel
theorem ok_X4_append_16_2 : oks m_X4_append.1 m_X4_append.2.2.1 16 [(.iload 6, 2, (0, 0, 0)), (.iconst 3, 1, (0, 0, 0))] = true ∧ plen 16 [(.iload 6, 2, (0, 0, 0)), (.iconst 3, 1, (0, 0, 0))] = 19 := by decide +kernel
theorem ok_X4_append_22_7 : oks m_X4_append.1 m_X4_append.2.2.1 22 [(.aload_n 0, 1, (0, 0, 0)), (.iload 5, 2, (0, 0, 0)), (.iload 6, 2, (0, 0, 0)), (.iload 6, 2, (0, 0, 0)), (.iload_n 1, 1, (0, 0, 0)), (.iload_n 2, 1, (0, 0, 0)), (.iload_n 3, 1, (0, 0, 0))] = true ∧ plen 22 [(.aload_n 0, 1, (0, 0, 0)), (.iload 5, 2, (0, 0, 0)), (.iload 6, 2, (0, 0, 0)), (.iload 6, 2, (0, 0, 0)), (.iload_n 1, 1, (0, 0, 0)), (.iload_n 2, 1, (0, 0, 0)), (.iload_n 3, 1, (0, 0, 0))] = 32 := by decide +kernel
theorem ok_X4_append_38_1 : oks m_X4_append.1 m_X4_append.2.2.1 38 [(.iinc 6 1, 3, (0, 0, 0))] = true ∧ plen 38 [(.iinc 6 1, 3, (0, 0, 0))] = 41 := by decide +kernel
theorem ok_X4_append_44_4 : oks m_X4_append.1 m_X4_append.2.2.1 44 [(.aload_n 0, 1, (0, 0, 0)), (.iload 5, 2, (0, 0, 0)), (.iconst 3, 1, (0, 0, 0)), (.iload 4, 2, (0, 0, 0))] = true ∧ plen 44 [(.aload_n 0, 1, (0, 0, 0)), (.iload 5, 2, (0, 0, 0)), (.iconst 3, 1, (0, 0, 0)), (.iload 4, 2, (0, 0, 0))] = 50 := by decide +kernel
theorem ok_X4_append_53_4 : oks m_X4_append.1 m_X4_append.2.2.1 53 [(.aload_n 0, 1, (0, 0, 0)), (.iload 5, 2, (0, 0, 0)), (.iconst 4, 1, (0, 0, 0)), (.iconst (-1), 1, (0, 0, 0))] = true ∧ plen 53 [(.aload_n 0, 1, (0, 0, 0)), (.iload 5, 2, (0, 0, 0)), (.iconst 4, 1, (0, 0, 0)), (.iconst (-1), 1, (0, 0, 0))] = 58 := by decide +kernel
theorem ok_X4_append_61_4 : oks m_X4_append.1 m_X4_append.2.2.1 61 [(.aload_n 0, 1, (0, 0, 0)), (.iload 5, 2, (0, 0, 0)), (.iconst 5, 1, (0, 0, 0)), (.iconst 0, 1, (0, 0, 0))] = true ∧ plen 61 [(.aload_n 0, 1, (0, 0, 0)), (.iload 5, 2, (0, 0, 0)), (.iconst 5, 1, (0, 0, 0)), (.iconst 0, 1, (0, 0, 0))] = 66 := by decide +kernel
theorem ok_X4_append_69_4 : oks m_X4_append.1 m_X4_append.2.2.1 69 [(.aload_n 0, 1, (0, 0, 0)), (.iload 5, 2, (0, 0, 0)), (.bipush 6, 2, (0, 0, 0)), (.iconst 0, 1, (0, 0, 0))] = true ∧ plen 69 [(.aload_n 0, 1, (0, 0, 0)), (.iload 5, 2, (0, 0, 0)), (.bipush 6, 2, (0, 0, 0)), (.iconst 0, 1, (0, 0, 0))] = 75 := by decide +kernel
theorem ok_X4_append_78_4 : oks m_X4_append.1 m_X4_append.2.2.1 78 [(.aload_n 0, 1, (0, 0, 0)), (.iload 5, 2, (0, 0, 0)), (.bipush 7, 2, (0, 0, 0)), (.iconst 0, 1, (0, 0, 0))] = true ∧ plen 78 [(.aload_n 0, 1, (0, 0, 0)), (.iload 5, 2, (0, 0, 0)), (.bipush 7, 2, (0, 0, 0)), (.iconst 0, 1, (0, 0, 0))] = 84 := by decide +kernel
theorem ok_X4_append_87_1 : oks m_X4_append.1 m_X4_append.2.2.1 87 [(.iload 5, 2, (0, 0, 0))] = true ∧ plen 87 [(.iload 5, 2, (0, 0, 0))] = 89 := by decide +kernel
def L_X4_append_16 (x1 : Int) (x2 : Int) (x3 : Int) (x5 : Int) (x6 : Int) (σ : Sg) : Option ((Int × Sg) ⊕ Sg) :=
if 3 ≤ x6 then
some (.inr σ)
else
bnd (F_X4_set x5 x6 (F_X10_pick x6 x1 x2 x3) σ) fun q5 =>
some (.inl (wrap (x6 + 1), q5))
def F_X4_append (a1 : Int) (a2 : Int) (a3 : Int) (a4 : Int) (σ : Sg) : Option (Int × Sg) :=
bnd (up2 σ 24 1 (wrap ((σ 24 1) + 1))) fun s1 =>
bnd (σ 24 1) fun v3 =>
(iter (fun a : (Int × Sg) => L_X4_append_16 a1 a2 a3 v3 a.1 a.2) 4 (0, s1)).bind fun y7 =>
bnd (F_X4_set v3 3 a4 y7) fun q9 =>
bnd (F_X4_set v3 4 (-1) q9) fun q11 =>
bnd (F_X4_set v3 5 0 q11) fun q13 =>
bnd (F_X4_set v3 6 0 q13) fun q15 =>
bnd (F_X4_set v3 7 0 q15) fun q17 =>
some (v3, q17)
theorem lk_X4_append (l : Launch) (d : Nat) (hd : 2 ≤ d) (a1 : Int) (a2 : Int) (a3 : Int) (a4 : Int) (σ : Sg) (q : (Int × Sg)) (h : F_X4_append a1 a2 a3 a4 σ = some q) : CT l d m_X4_append.2.1 m_X4_append.2.2.1 m_X4_append.2.2.2.1 m_X4_append.2.2.2.2 [.inr 24, .inl a1, .inl a2, .inl a3, .inl a4] (LAYC, σ) (some (.inl q.1)) (LAYC, q.2) := by
  obtain ⟨d, rfl⟩ : ∃ e, d = e + 1 := ⟨d - 1, by omega⟩
  have key : Go l m_X4_append (d + 1) LAYC (.inl (some (.inl q.1))) q.2 0 [some (.inr 24), some (.inl a1), some (.inl a2), some (.inl a3), some (.inl a4), none, none] [] σ := by
    unfold F_X4_append at h
    have hL_X4_append_16 : ∀ (x1 : Int) (x2 : Int) (x3 : Int) (x4 : Int) (x5 : Int) (n : Nat) (a : (Int × Sg)) (y : Sg), iter (fun a : (Int × Sg) => L_X4_append_16 x1 x2 x3 x5 a.1 a.2) n a = some y → (fun y : Sg => Go l m_X4_append (d + 1) LAYC (.inl (some (.inl q.1))) q.2 44 [some (.inr 24), none, none, none, some (.inl x4), some (.inl x5), none] [] y) y → (fun a : (Int × Sg) => Go l m_X4_append (d + 1) LAYC (.inl (some (.inl q.1))) q.2 16 [some (.inr 24), some (.inl x1), some (.inl x2), some (.inl x3), some (.inl x4), some (.inl x5), some (.inl a.1)] [] a.2) a := by
      intro x1 x2 x3 x4 x5
      refine go_iter (G := fun a : (Int × Sg) => Go l m_X4_append (d + 1) LAYC (.inl (some (.inl q.1))) q.2 16 [some (.inr 24), some (.inl x1), some (.inl x2), some (.inl x3), some (.inl x4), some (.inl x5), some (.inl a.1)] [] a.2) (K := fun y : Sg => Go l m_X4_append (d + 1) LAYC (.inl (some (.inl q.1))) q.2 44 [some (.inr 24), none, none, none, some (.inl x4), some (.inl x5), none] [] y) ?_
      rintro ⟨x6, σ⟩ w h hK
      replace h : L_X4_append_16 x1 x2 x3 x5 x6 σ = some w := h
      show Go l m_X4_append (d + 1) LAYC (.inl (some (.inl q.1))) q.2 16 [some (.inr 24), some (.inl x1), some (.inl x2), some (.inl x3), some (.inl x4), some (.inl x5), some (.inl x6)] [] σ
      unfold L_X4_append_16 at h
      refine go_ops ok_X4_append_16_2 (L' := [some (.inr 24), some (.inl x1), some (.inl x2), some (.inl x3), some (.inl x4), some (.inl x5), some (.inl x6)]) (st' := [.inl 3, .inl x6]) (σ1 := σ) rfl ?_
      refine go_icmp_ge dc_X4_append_19 (by rfl) (fun hc => ?_) (fun hc => ?_)
      · replace h := (if_pos hc).symm.trans h
        cases h
        refine go_wk (L' := [some (.inr 24), none, none, none, some (.inl x4), some (.inl x5), none]) ⟨rfl, rfl, rfl, trivial⟩ ?_
        exact hK
      · replace h := (if_neg hc).symm.trans h
        refine go_ops ok_X4_append_22_7 (L' := [some (.inr 24), some (.inl x1), some (.inl x2), some (.inl x3), some (.inl x4), some (.inl x5), some (.inl x6)]) (st' := [.inl x3, .inl x2, .inl x1, .inl x6, .inl x6, .inl x5, .inr 24]) (σ1 := σ) rfl ?_
        refine go_SN (M1 := m_X10_pick) (as := [.inl x6, .inl x1, .inl x2, .inl x3]) (st := [.inl x6, .inl x5, .inr 24]) dc_X4_append_32 ln_4_41 sm_X10_pick mk_X10_pick rfl (Nat.le_of_ble_eq_true rfl) (Nat.le_refl _) (v := (some (.inl (F_X10_pick x6 x1 x2 x3)))) (σ1 := σ) (lk_X10_pick l d (by omega) x6 x1 x2 x3 σ _ rfl) _ rfl ?_
        obtain ⟨q5, e6, h⟩ := bnd_inv h
        refine go_V (M1 := m_X4_set) (as := [.inl x5, .inl x6, .inl (F_X10_pick x6 x1 x2 x3)]) (st := []) (k := 24) (ci := 4) dc_X4_append_35 ln_4_45 im_X4_set (by decide) rfl rfl mk_X4_set rfl (Nat.le_of_ble_eq_true rfl) (Nat.le_refl _) (v := none) (σ1 := q5) (lk_X4_set l d (by omega) x5 x6 (F_X10_pick x6 x1 x2 x3) σ q5 e6.symm) _ rfl ?_
        refine go_ops ok_X4_append_38_1 (L' := [some (.inr 24), some (.inl x1), some (.inl x2), some (.inl x3), some (.inl x4), some (.inl x5), some (.inl (wrap (x6 + 1)))]) (st' := []) (σ1 := q5) rfl ?_
        refine go_goto dc_X4_append_41 (by rfl) ?_
        cases h
        exact hK
    obtain ⟨s1, e2, h⟩ := bnd_inv h
    obtain ⟨v3, e4, h⟩ := bnd_inv h
    refine go_ops ok_X4_append_0_10 (L' := [some (.inr 24), some (.inl a1), some (.inl a2), some (.inl a3), some (.inl a4), some (.inl v3), some (.inl 0)]) (st' := []) (σ1 := s1) (by subst e4; subst e2; rfl) ?_
    obtain ⟨y7, e8, h⟩ := bind_inv h
    refine hL_X4_append_16 a1 a2 a3 a4 v3 4 (0, s1) y7 e8 ?_
    show Go l m_X4_append (d + 1) LAYC (.inl (some (.inl q.1))) q.2 44 [some (.inr 24), none, none, none, some (.inl a4), some (.inl v3), none] [] y7
    refine go_ops ok_X4_append_44_4 (L' := [some (.inr 24), none, none, none, some (.inl a4), some (.inl v3), none]) (st' := [.inl a4, .inl 3, .inl v3, .inr 24]) (σ1 := y7) rfl ?_
    obtain ⟨q9, e10, h⟩ := bnd_inv h
    refine go_V (M1 := m_X4_set) (as := [.inl v3, .inl 3, .inl a4]) (st := []) (k := 24) (ci := 4) dc_X4_append_50 ln_4_45 im_X4_set (by decide) rfl rfl mk_X4_set rfl (Nat.le_of_ble_eq_true rfl) (Nat.le_refl _) (v := none) (σ1 := q9) (lk_X4_set l d (by omega) v3 3 a4 y7 q9 e10.symm) _ rfl ?_
    refine go_ops ok_X4_append_53_4 (L' := [some (.inr 24), none, none, none, some (.inl a4), some (.inl v3), none]) (st' := [.inl (-1), .inl 4, .inl v3, .inr 24]) (σ1 := q9) rfl ?_
    obtain ⟨q11, e12, h⟩ := bnd_inv h
    refine go_V (M1 := m_X4_set) (as := [.inl v3, .inl 4, .inl (-1)]) (st := []) (k := 24) (ci := 4) dc_X4_append_58 ln_4_45 im_X4_set (by decide) rfl rfl mk_X4_set rfl (Nat.le_of_ble_eq_true rfl) (Nat.le_refl _) (v := none) (σ1 := q11) (lk_X4_set l d (by omega) v3 4 (-1) q9 q11 e12.symm) _ rfl ?_
    refine go_ops ok_X4_append_61_4 (L' := [some (.inr 24), none, none, none, some (.inl a4), some (.inl v3), none]) (st' := [.inl 0, .inl 5, .inl v3, .inr 24]) (σ1 := q11) rfl ?_
    obtain ⟨q13, e14, h⟩ := bnd_inv h
    refine go_V (M1 := m_X4_set) (as := [.inl v3, .inl 5, .inl 0]) (st := []) (k := 24) (ci := 4) dc_X4_append_66 ln_4_45 im_X4_set (by decide) rfl rfl mk_X4_set rfl (Nat.le_of_ble_eq_true rfl) (Nat.le_refl _) (v := none) (σ1 := q13) (lk_X4_set l d (by omega) v3 5 0 q11 q13 e14.symm) _ rfl ?_
    refine go_ops ok_X4_append_69_4 (L' := [some (.inr 24), none, none, none, some (.inl a4), some (.inl v3), none]) (st' := [.inl 0, .inl 6, .inl v3, .inr 24]) (σ1 := q13) rfl ?_
    obtain ⟨q15, e16, h⟩ := bnd_inv h
    refine go_V (M1 := m_X4_set) (as := [.inl v3, .inl 6, .inl 0]) (st := []) (k := 24) (ci := 4) dc_X4_append_75 ln_4_45 im_X4_set (by decide) rfl rfl mk_X4_set rfl (Nat.le_of_ble_eq_true rfl) (Nat.le_refl _) (v := none) (σ1 := q15) (lk_X4_set l d (by omega) v3 6 0 q13 q15 e16.symm) _ rfl ?_
    refine go_ops ok_X4_append_78_4 (L' := [some (.inr 24), none, none, none, some (.inl a4), some (.inl v3), none]) (st' := [.inl 0, .inl 7, .inl v3, .inr 24]) (σ1 := q15) rfl ?_
    obtain ⟨q17, e18, h⟩ := bnd_inv h
    refine go_V (M1 := m_X4_set) (as := [.inl v3, .inl 7, .inl 0]) (st := []) (k := 24) (ci := 4) dc_X4_append_84 ln_4_45 im_X4_set (by decide) rfl rfl mk_X4_set rfl (Nat.le_of_ble_eq_true rfl) (Nat.le_refl _) (v := none) (σ1 := q17) (lk_X4_set l d (by omega) v3 7 0 q15 q17 e18.symm) _ rfl ?_
    refine go_ops ok_X4_append_87_1 (L' := [some (.inr 24), none, none, none, some (.inl a4), some (.inl v3), none]) (st' := [.inl v3]) (σ1 := q17) rfl ?_
    have h9 := Option.some.inj h
    subst h9
    exact go_iret dc_X4_append_89 rfl
  have hf := go_ct (as := [.inr 24, .inl a1, .inl a2, .inl a3, .inl a4]) mk_X4_append (by rfl) (Nat.le_of_ble_eq_true rfl) key
  exact hf
theorem dc_X4_areAlike_6 : decode m_X4_areAlike.2.2.1 6 = .ok (.if_icmp .ge 34, 3) := by decide +kernel
theorem dc_X4_areAlike_12 : decode m_X4_areAlike.2.2.1 12 = .ok (.if_icmp .eq 22, 3) := by decide +kernel
theorem dc_X4_areAlike_19 : decode m_X4_areAlike.2.2.1 19 = .ok (.invokevirtual 49, 3) := by decide +kernel
theorem dc_X4_areAlike_26 : decode m_X4_areAlike.2.2.1 26 = .ok (.invokevirtual 49, 3) := by decide +kernel
theorem dc_X4_areAlike_29 : decode m_X4_areAlike.2.2.1 29 = .ok (.if_icmp .eq 5, 3) := by decide +kernel
theorem dc_X4_areAlike_33 : decode m_X4_areAlike.2.2.1 33 = .ok (.ireturn, 1) := by decide +kernel
theorem dc_X4_areAlike_37 : decode m_X4_areAlike.2.2.1 37 = .ok (.goto (-34), 3) := by decide +kernel
theorem dc_X4_areAlike_43 : decode m_X4_areAlike.2.2.1 43 = .ok (.invokevirtual 49, 3) := by decide +kernel
theorem dc_X4_areAlike_47 : decode m_X4_areAlike.2.2.1 47 = .ok (.if_icmp .ne 32, 3) := by decide +kernel
theorem dc_X4_areAlike_53 : decode m_X4_areAlike.2.2.1 53 = .ok (.invokevirtual 49, 3) := by decide +kernel
theorem dc_X4_areAlike_57 : decode m_X4_areAlike.2.2.1 57 = .ok (.if_icmp .ne 22, 3) := by decide +kernel
theorem dc_X4_areAlike_63 : decode m_X4_areAlike.2.2.1 63 = .ok (.invokevirtual 49, 3) := by decide +kernel
theorem dc_X4_areAlike_69 : decode m_X4_areAlike.2.2.1 69 = .ok (.invokevirtual 49, 3) := by decide +kernel
theorem dc_X4_areAlike_72 : decode m_X4_areAlike.2.2.1 72 = .ok (.if_icmp .ne 7, 3) := by decide +kernel
theorem dc_X4_areAlike_76 : decode m_X4_areAlike.2.2.1 76 = .ok (.goto 4, 3) := by decide +kernel
theorem dc_X4_areAlike_80 : decode m_X4_areAlike.2.2.1 80 = .ok (.ireturn, 1) := by decide +kernel
theorem ok_X4_areAlike_0_2 : oks m_X4_areAlike.1 m_X4_areAlike.2.2.1 0 [(.iconst 0, 1, (0, 0, 0)), (.istore 4, 2, (0, 0, 0))] = true ∧ plen 0 [(.iconst 0, 1, (0, 0, 0)), (.istore 4, 2, (0, 0, 0))] = 3 := by decide +kernel
theorem ok_X4_areAlike_3_2 : oks m_X4_areAlike.1 m_X4_areAlike.2.2.1 3 [(.iload 4, 2, (0, 0, 0)), (.iconst 3, 1, (0, 0, 0))] = true ∧ plen 3 [(.iload 4, 2, (0, 0, 0)), (.iconst 3, 1, (0, 0, 0))] = 6 := by decide +kernel
theorem ok_X4_areAlike_9_2 : oks m_X4_areAlike.1 m_X4_areAlike.2.2.1 9 [(.iload 4, 2, (0, 0, 0)), (.iload_n 3, 1, (0, 0, 0))] = true ∧ plen 9 [(.iload 4, 2, (0, 0, 0)), (.iload_n 3, 1, (0, 0, 0))] = 12 := by decide +kernel
theorem ok_X4_areAlike_15_3 : oks m_X4_areAlike.1 m_X4_areAlike.2.2.1 15 [(.aload_n 0, 1, (0, 0, 0)), (.iload_n 1, 1, (0, 0, 0)), (.iload 4, 2, (0, 0, 0))] = true ∧ plen 15 [(.aload_n 0, 1, (0, 0, 0)), (.iload_n 1, 1, (0, 0, 0)), (.iload 4, 2, (0, 0, 0))] = 19 := by decide +kernel
theorem ok_X4_areAlike_22_3 : oks m_X4_areAlike.1 m_X4_areAlike.2.2.1 22 [(.aload_n 0, 1, (0, 0, 0)), (.iload_n 2, 1, (0, 0, 0)), (.iload 4, 2, (0, 0, 0))] = true ∧ plen 22 [(.aload_n 0, 1, (0, 0, 0)), (.iload_n 2, 1, (0, 0, 0)), (.iload 4, 2, (0, 0, 0))] = 26 := by decide +kernel
theorem ok_X4_areAlike_32_1 : oks m_X4_areAlike.1 m_X4_areAlike.2.2.1 32 [(.iconst 0, 1, (0, 0, 0))] = true ∧ plen 32 [(.iconst 0, 1, (0, 0, 0))] = 33 := by decide +kernel
theorem ok_X4_areAlike_34_1 : oks m_X4_areAlike.1 m_X4_areAlike.2.2.1 34 [(.iinc 4 1, 3, (0, 0, 0))] = true ∧ plen 34 [(.iinc 4 1, 3, (0, 0, 0))] = 37 := by decide +kernel
theorem ok_X4_areAlike_40_3 : oks m_X4_areAlike.1 m_X4_areAlike.2.2.1 40 [(.aload_n 0, 1, (0, 0, 0)), (.iload_n 1, 1, (0, 0, 0)), (.iconst 4, 1, (0, 0, 0))] = true ∧ plen 40 [(.aload_n 0, 1, (0, 0, 0)), (.iload_n 1, 1, (0, 0, 0)), (.iconst 4, 1, (0, 0, 0))] = 43 := by decide +kernel
theorem ok_X4_areAlike_46_1 : oks m_X4_areAlike.1 m_X4_areAlike.2.2.1 46 [(.iconst (-1), 1, (0, 0, 0))] = true ∧ plen 46 [(.iconst (-1), 1, (0, 0, 0))] = 47 := by decide +kernel
theorem ok_X4_areAlike_50_3 : oks m_X4_areAlike.1 m_X4_areAlike.2.2.1 50 [(.aload_n 0, 1, (0, 0, 0)), (.iload_n 2, 1, (0, 0, 0)), (.iconst 4, 1, (0, 0, 0))] = true ∧ plen 50 [(.aload_n 0, 1, (0, 0, 0)), (.iload_n 2, 1, (0, 0, 0)), (.iconst 4, 1, (0, 0, 0))] = 53 := by decide +kernel
theorem ok_X4_areAlike_56_1 : oks m_X4_areAlike.1 m_X4_areAlike.2.2.1 56 [(.iconst (-1), 1, (0, 0, 0))] = true ∧ plen 56 [(.iconst (-1), 1, (0, 0, 0))] = 57 := by decide +kernel
theorem ok_X4_areAlike_60_3 : oks m_X4_areAlike.1 m_X4_areAlike.2.2.1 60 [(.aload_n 0, 1, (0, 0, 0)), (.iload_n 1, 1, (0, 0, 0)), (.iconst 3, 1, (0, 0, 0))] = true ∧ plen 60 [(.aload_n 0, 1, (0, 0, 0)), (.iload_n 1, 1, (0, 0, 0)), (.iconst 3, 1, (0, 0, 0))] = 63 := by decide +kernel
theorem ok_X4_areAlike_66_3 : oks m_X4_areAlike.1 m_X4_areAlike.2.2.1 66 [(.aload_n 0, 1, (0, 0, 0)), (.iload_n 2, 1, (0, 0, 0)), (.iconst 3, 1, (0, 0, 0))] = true ∧ plen 66 [(.aload_n 0, 1, (0, 0, 0)), (.iload_n 2, 1, (0, 0, 0)), (.iconst 3, 1, (0, 0, 0))] = 69 := by decide +kernel
theorem ok_X4_areAlike_75_1 : oks m_X4_areAlike.1 m_X4_areAlike.2.2.1 75 [(.iconst 1, 1, (0, 0, 0))] = true ∧ plen 75 [(.iconst 1, 1, (0, 0, 0))] = 76 := by decide +kernel
theorem ok_X4_areAlike_79_1 : oks m_X4_areAlike.1 m_X4_areAlike.2.2.1 79 [(.iconst 0, 1, (0, 0, 0))] = true ∧ plen 79 [(.iconst 0, 1, (0, 0, 0))] = 80 := by decide +kernel
def B_X4_areAlike_34 (x4 : Int) (σ : Sg) : Option (Int ⊕ (Unit ⊕ Bool)) :=
some (.inl (wrap (x4 + 1)))
def L_X4_areAlike_3 (x1 : Int) (x2 : Int) (x3 : Int) (σ : Sg) (x4 : Int) : Option (Int ⊕ (Unit ⊕ Bool)) :=
if 3 ≤ x4 then
some (.inr (.inl ()))
else
if x4 = x3 then
B_X4_areAlike_34 x4 σ
else
if (F_X4_get x1 x4 σ) = (F_X4_get x2 x4 σ) then
B_X4_areAlike_34 x4 σ
else
some (.inr (.inr false))
def F_X4_areAlike (a1 : Int) (a2 : Int) (a3 : Int) (σ : Sg) : Option Bool :=
(iter (fun a : Int => L_X4_areAlike_3 a1 a2 a3 σ a) 4 0).bind fun y1 => Sum.elim (fun z3 =>
if (F_X4_get a1 4 σ) = (-1) then
if (F_X4_get a2 4 σ) = (-1) then
if (F_X4_get a1 3 σ) = (F_X4_get a2 3 σ) then
some true
else
some false
else
some false
else
some false) (fun r4 => some r4) y1
theorem lk_X4_areAlike (l : Launch) (d : Nat) (hd : 2 ≤ d) (a1 : Int) (a2 : Int) (a3 : Int) (σ : Sg) (q : Bool) (h : F_X4_areAlike a1 a2 a3 σ = some q) : CT l d m_X4_areAlike.2.1 m_X4_areAlike.2.2.1 m_X4_areAlike.2.2.2.1 m_X4_areAlike.2.2.2.2 [.inr 24, .inl a1, .inl a2, .inl a3] (LAYC, σ) (some (.inl (b2i q))) (LAYC, σ) := by
  obtain ⟨d, rfl⟩ : ∃ e, d = e + 1 := ⟨d - 1, by omega⟩
  have key : Go l m_X4_areAlike (d + 1) LAYC (.inl (some (.inl (b2i q)))) σ 0 [some (.inr 24), some (.inl a1), some (.inl a2), some (.inl a3), none] [] σ := by
    unfold F_X4_areAlike at h
    have hL_X4_areAlike_3 : ∀ (x1 : Int) (x2 : Int) (x3 : Int) (σ : Sg) (n : Nat) (a : Int) (y : (Unit ⊕ Bool)), iter (fun a : Int => L_X4_areAlike_3 x1 x2 x3 σ a) n a = some y → (Sum.elim (fun y : Unit => Go l m_X4_areAlike (d + 1) LAYC (.inl (some (.inl (b2i q)))) σ 40 [some (.inr 24), some (.inl x1), some (.inl x2), none, none] [] σ) (fun r : Bool => r = q)) y → (fun a : Int => Go l m_X4_areAlike (d + 1) LAYC (.inl (some (.inl (b2i q)))) σ 3 [some (.inr 24), some (.inl x1), some (.inl x2), some (.inl x3), some (.inl a)] [] σ) a := by
      intro x1 x2 x3 σ
      refine go_iter (G := fun a : Int => Go l m_X4_areAlike (d + 1) LAYC (.inl (some (.inl (b2i q)))) σ 3 [some (.inr 24), some (.inl x1), some (.inl x2), some (.inl x3), some (.inl a)] [] σ) (K := Sum.elim (fun y : Unit => Go l m_X4_areAlike (d + 1) LAYC (.inl (some (.inl (b2i q)))) σ 40 [some (.inr 24), some (.inl x1), some (.inl x2), none, none] [] σ) (fun r : Bool => r = q)) ?_
      rintro x4 w h hK
      replace h : L_X4_areAlike_3 x1 x2 x3 σ x4 = some w := h
      show Go l m_X4_areAlike (d + 1) LAYC (.inl (some (.inl (b2i q)))) σ 3 [some (.inr 24), some (.inl x1), some (.inl x2), some (.inl x3), some (.inl x4)] [] σ
      unfold L_X4_areAlike_3 at h
      have hB_X4_areAlike_34 : ∀ (x4 : Int), B_X4_areAlike_34 x4 σ = some w → Go l m_X4_areAlike (d + 1) LAYC (.inl (some (.inl (b2i q)))) σ 34 [some (.inr 24), some (.inl x1), some (.inl x2), some (.inl x3), some (.inl x4)] [] σ := by
        intro x4 h
        unfold B_X4_areAlike_34 at h
        refine go_ops ok_X4_areAlike_34_1 (L' := [some (.inr 24), some (.inl x1), some (.inl x2), some (.inl x3), some (.inl (wrap (x4 + 1)))]) (st' := []) (σ1 := σ) rfl ?_
        refine go_goto dc_X4_areAlike_37 (by rfl) ?_
        cases h
        exact hK
      refine go_ops ok_X4_areAlike_3_2 (L' := [some (.inr 24), some (.inl x1), some (.inl x2), some (.inl x3), some (.inl x4)]) (st' := [.inl 3, .inl x4]) (σ1 := σ) rfl ?_
      refine go_icmp_ge dc_X4_areAlike_6 (by rfl) (fun hc => ?_) (fun hc => ?_)
      · replace h := (if_pos hc).symm.trans h
        cases h
        refine go_wk (L' := [some (.inr 24), some (.inl x1), some (.inl x2), none, none]) ⟨rfl, rfl, rfl, trivial⟩ ?_
        exact hK
      · replace h := (if_neg hc).symm.trans h
        refine go_ops ok_X4_areAlike_9_2 (L' := [some (.inr 24), some (.inl x1), some (.inl x2), some (.inl x3), some (.inl x4)]) (st' := [.inl x3, .inl x4]) (σ1 := σ) rfl ?_
        refine go_icmp_eq dc_X4_areAlike_12 (by rfl) (fun hc => ?_) (fun hc => ?_)
        · replace h := (if_pos hc).symm.trans h
          exact hB_X4_areAlike_34 x4 h
        · replace h := (if_neg hc).symm.trans h
          refine go_ops ok_X4_areAlike_15_3 (L' := [some (.inr 24), some (.inl x1), some (.inl x2), some (.inl x3), some (.inl x4)]) (st' := [.inl x4, .inl x1, .inr 24]) (σ1 := σ) rfl ?_
          refine go_V (M1 := m_X4_get) (as := [.inl x1, .inl x4]) (st := []) (k := 24) (ci := 4) dc_X4_areAlike_19 ln_4_49 im_X4_get (by decide) rfl rfl mk_X4_get rfl (Nat.le_of_ble_eq_true rfl) (Nat.le_refl _) (v := (some (.inl (F_X4_get x1 x4 σ)))) (σ1 := σ) (lk_X4_get l d (by omega) x1 x4 σ _ rfl) _ rfl ?_
          refine go_ops ok_X4_areAlike_22_3 (L' := [some (.inr 24), some (.inl x1), some (.inl x2), some (.inl x3), some (.inl x4)]) (st' := [.inl x4, .inl x2, .inr 24, .inl (F_X4_get x1 x4 σ)]) (σ1 := σ) rfl ?_
          refine go_V (M1 := m_X4_get) (as := [.inl x2, .inl x4]) (st := [.inl (F_X4_get x1 x4 σ)]) (k := 24) (ci := 4) dc_X4_areAlike_26 ln_4_49 im_X4_get (by decide) rfl rfl mk_X4_get rfl (Nat.le_of_ble_eq_true rfl) (Nat.le_refl _) (v := (some (.inl (F_X4_get x2 x4 σ)))) (σ1 := σ) (lk_X4_get l d (by omega) x2 x4 σ _ rfl) _ rfl ?_
          refine go_icmp_eq dc_X4_areAlike_29 (by rfl) (fun hc => ?_) (fun hc => ?_)
          · replace h := (if_pos hc).symm.trans h
            exact hB_X4_areAlike_34 x4 h
          · replace h := (if_neg hc).symm.trans h
            refine go_ops ok_X4_areAlike_32_1 (L' := [some (.inr 24), some (.inl x1), some (.inl x2), some (.inl x3), some (.inl x4)]) (st' := [.inl 0]) (σ1 := σ) rfl ?_
            cases h
            have hK2 : _ = q := hK
            subst hK2
            exact go_zret (x := false) dc_X4_areAlike_33 rfl
    refine go_ops ok_X4_areAlike_0_2 (L' := [some (.inr 24), some (.inl a1), some (.inl a2), some (.inl a3), some (.inl 0)]) (st' := []) (σ1 := σ) rfl ?_
    obtain ⟨y1, e2, h⟩ := bind_inv h
    refine hL_X4_areAlike_3 a1 a2 a3 σ 4 0 y1 e2 ?_
    rcases y1 with z3 | r4
    rotate_left
    · show r4 = q
      cases h; rfl
    show Go l m_X4_areAlike (d + 1) LAYC (.inl (some (.inl (b2i q)))) σ 40 [some (.inr 24), some (.inl a1), some (.inl a2), none, none] [] σ
    rw [Sum.elim_inl] at h
    refine go_ops ok_X4_areAlike_40_3 (L' := [some (.inr 24), some (.inl a1), some (.inl a2), none, none]) (st' := [.inl 4, .inl a1, .inr 24]) (σ1 := σ) rfl ?_
    refine go_V (M1 := m_X4_get) (as := [.inl a1, .inl 4]) (st := []) (k := 24) (ci := 4) dc_X4_areAlike_43 ln_4_49 im_X4_get (by decide) rfl rfl mk_X4_get rfl (Nat.le_of_ble_eq_true rfl) (Nat.le_refl _) (v := (some (.inl (F_X4_get a1 4 σ)))) (σ1 := σ) (lk_X4_get l d (by omega) a1 4 σ _ rfl) _ rfl ?_
    refine go_ops ok_X4_areAlike_46_1 (L' := [some (.inr 24), some (.inl a1), some (.inl a2), none, none]) (st' := [.inl (-1), .inl (F_X4_get a1 4 σ)]) (σ1 := σ) rfl ?_
    refine go_icmp_ne dc_X4_areAlike_47 (by rfl) (fun hc => ?_) (fun hc => ?_)
    · replace h := (if_neg hc).symm.trans h
      refine go_ops ok_X4_areAlike_79_1 (L' := [some (.inr 24), some (.inl a1), some (.inl a2), none, none]) (st' := [.inl 0]) (σ1 := σ) rfl ?_
      have h9 := Option.some.inj h
      subst h9
      exact go_zret (x := false) dc_X4_areAlike_80 rfl
    · replace h := (if_pos hc).symm.trans h
      refine go_ops ok_X4_areAlike_50_3 (L' := [some (.inr 24), some (.inl a1), some (.inl a2), none, none]) (st' := [.inl 4, .inl a2, .inr 24]) (σ1 := σ) rfl ?_
      refine go_V (M1 := m_X4_get) (as := [.inl a2, .inl 4]) (st := []) (k := 24) (ci := 4) dc_X4_areAlike_53 ln_4_49 im_X4_get (by decide) rfl rfl mk_X4_get rfl (Nat.le_of_ble_eq_true rfl) (Nat.le_refl _) (v := (some (.inl (F_X4_get a2 4 σ)))) (σ1 := σ) (lk_X4_get l d (by omega) a2 4 σ _ rfl) _ rfl ?_
      refine go_ops ok_X4_areAlike_56_1 (L' := [some (.inr 24), some (.inl a1), some (.inl a2), none, none]) (st' := [.inl (-1), .inl (F_X4_get a2 4 σ)]) (σ1 := σ) rfl ?_
      refine go_icmp_ne dc_X4_areAlike_57 (by rfl) (fun hc => ?_) (fun hc => ?_)
      · replace h := (if_neg hc).symm.trans h
        refine go_ops ok_X4_areAlike_79_1 (L' := [some (.inr 24), some (.inl a1), some (.inl a2), none, none]) (st' := [.inl 0]) (σ1 := σ) rfl ?_
        have h9 := Option.some.inj h
        subst h9
        exact go_zret (x := false) dc_X4_areAlike_80 rfl
      · replace h := (if_pos hc).symm.trans h
        refine go_ops ok_X4_areAlike_60_3 (L' := [some (.inr 24), some (.inl a1), some (.inl a2), none, none]) (st' := [.inl 3, .inl a1, .inr 24]) (σ1 := σ) rfl ?_
        refine go_V (M1 := m_X4_get) (as := [.inl a1, .inl 3]) (st := []) (k := 24) (ci := 4) dc_X4_areAlike_63 ln_4_49 im_X4_get (by decide) rfl rfl mk_X4_get rfl (Nat.le_of_ble_eq_true rfl) (Nat.le_refl _) (v := (some (.inl (F_X4_get a1 3 σ)))) (σ1 := σ) (lk_X4_get l d (by omega) a1 3 σ _ rfl) _ rfl ?_
        refine go_ops ok_X4_areAlike_66_3 (L' := [some (.inr 24), some (.inl a1), some (.inl a2), none, none]) (st' := [.inl 3, .inl a2, .inr 24, .inl (F_X4_get a1 3 σ)]) (σ1 := σ) rfl ?_
        refine go_V (M1 := m_X4_get) (as := [.inl a2, .inl 3]) (st := [.inl (F_X4_get a1 3 σ)]) (k := 24) (ci := 4) dc_X4_areAlike_69 ln_4_49 im_X4_get (by decide) rfl rfl mk_X4_get rfl (Nat.le_of_ble_eq_true rfl) (Nat.le_refl _) (v := (some (.inl (F_X4_get a2 3 σ)))) (σ1 := σ) (lk_X4_get l d (by omega) a2 3 σ _ rfl) _ rfl ?_
        refine go_icmp_ne dc_X4_areAlike_72 (by rfl) (fun hc => ?_) (fun hc => ?_)
        · replace h := (if_neg hc).symm.trans h
          refine go_ops ok_X4_areAlike_79_1 (L' := [some (.inr 24), some (.inl a1), some (.inl a2), none, none]) (st' := [.inl 0]) (σ1 := σ) rfl ?_
          have h9 := Option.some.inj h
          subst h9
          exact go_zret (x := false) dc_X4_areAlike_80 rfl
        · replace h := (if_pos hc).symm.trans h
          refine go_ops ok_X4_areAlike_75_1 (L' := [some (.inr 24), some (.inl a1), some (.inl a2), none, none]) (st' := [.inl 1]) (σ1 := σ) rfl ?_
          refine go_goto dc_X4_areAlike_76 (by rfl) ?_
          have h9 := Option.some.inj h
          subst h9
          exact go_zret (x := true) dc_X4_areAlike_80 rfl
  have hf := go_ct (as := [.inr 24, .inl a1, .inl a2, .inl a3]) mk_X4_areAlike (by rfl) (Nat.le_of_ble_eq_true rfl) key
  exact hf
theorem dc_X4_copyCase_5 : decode m_X4_copyCase.2.2.1 5 = .ok (.if_icmp .ge 21, 3) := by decide +kernel
theorem dc_X4_copyCase_14 : decode m_X4_copyCase.2.2.1 14 = .ok (.invokevirtual 49, 3) := by decide +kernel
theorem dc_X4_copyCase_17 : decode m_X4_copyCase.2.2.1 17 = .ok (.invokevirtual 45, 3) := by decide +kernel
theorem dc_X4_copyCase_23 : decode m_X4_copyCase.2.2.1 23 = .ok (.goto (-21), 3) := by decide +kernel
theorem dc_X4_copyCase_26 : decode m_X4_copyCase.2.2.1 26 = .ok (.return_, 1) := by decide +kernel
theorem ok_X4_copyCase_0_2 : oks m_X4_copyCase.1 m_X4_copyCase.2.2.1 0 [(.iconst 0, 1, (0, 0, 0)), (.istore_n 3, 1, (0, 0, 0))] = true ∧ plen 0 [(.iconst 0, 1, (0, 0, 0)), (.istore_n 3, 1, (0, 0, 0))] = 2 := by decide +kernel
theorem ok_X4_copyCase_2_2 : oks m_X4_copyCase.1 m_X4_copyCase.2.2.1 2 [(.iload_n 3, 1, (0, 0, 0)), (.bipush 8, 2, (0, 0, 0))] = true ∧ plen 2 [(.iload_n 3, 1, (0, 0, 0)), (.bipush 8, 2, (0, 0, 0))] = 5 := by decide +kernel
theorem ok_X4_copyCase_8_6 : oks m_X4_copyCase.1 m_X4_copyCase.2.2.1 8 [(.aload_n 0, 1, (0, 0, 0)), (.iload_n 2, 1, (0, 0, 0)), (.iload_n 3, 1, (0, 0, 0)), (.aload_n 0, 1, (0, 0, 0)), (.iload_n 1, 1, (0, 0, 0)), (.iload_n 3, 1, (0, 0, 0))] = true ∧ plen 8 [(.aload_n 0, 1, (0, 0, 0)), (.iload_n 2, 1, (0, 0, 0)), (.iload_n 3, 1, (0, 0, 0)), (.aload_n 0, 1, (0, 0, 0)), (.iload_n 1, 1, (0, 0, 0)), (.iload_n 3, 1, (0, 0, 0))] = 14 := by decide +kernel
theorem ok_X4_copyCase_20_1 : oks m_X4_copyCase.1 m_X4_copyCase.2.2.1 20 [(.iinc 3 1, 3, (0, 0, 0))] = true ∧ plen 20 [(.iinc 3 1, 3, (0, 0, 0))] = 23 := by decide +kernel
def L_X4_copyCase_2 (x1 : Int) (x2 : Int) (x3 : Int) (σ : Sg) : Option ((Int × Sg) ⊕ Sg) :=
if 8 ≤ x3 then
some (.inr σ)
else
bnd (F_X4_set x2 x3 (F_X4_get x1 x3 σ) σ) fun q1 =>
some (.inl (wrap (x3 + 1), q1))
def F_X4_copyCase (a1 : Int) (a2 : Int) (σ : Sg) : Option Sg :=
(iter (fun a : (Int × Sg) => L_X4_copyCase_2 a1 a2 a.1 a.2) 9 (0, σ)).bind fun y3 =>
some y3
theorem lk_X4_copyCase (l : Launch) (d : Nat) (hd : 2 ≤ d) (a1 : Int) (a2 : Int) (σ : Sg) (q : Sg) (h : F_X4_copyCase a1 a2 σ = some q) : CT l d m_X4_copyCase.2.1 m_X4_copyCase.2.2.1 m_X4_copyCase.2.2.2.1 m_X4_copyCase.2.2.2.2 [.inr 24, .inl a1, .inl a2] (LAYC, σ) none (LAYC, q) := by
  obtain ⟨d, rfl⟩ : ∃ e, d = e + 1 := ⟨d - 1, by omega⟩
  have key : Go l m_X4_copyCase (d + 1) LAYC (.inl none) q 0 [some (.inr 24), some (.inl a1), some (.inl a2), none] [] σ := by
    unfold F_X4_copyCase at h
    have hL_X4_copyCase_2 : ∀ (x1 : Int) (x2 : Int) (n : Nat) (a : (Int × Sg)) (y : Sg), iter (fun a : (Int × Sg) => L_X4_copyCase_2 x1 x2 a.1 a.2) n a = some y → (fun y : Sg => Go l m_X4_copyCase (d + 1) LAYC (.inl none) q 26 [none, none, none, none] [] y) y → (fun a : (Int × Sg) => Go l m_X4_copyCase (d + 1) LAYC (.inl none) q 2 [some (.inr 24), some (.inl x1), some (.inl x2), some (.inl a.1)] [] a.2) a := by
      intro x1 x2
      refine go_iter (G := fun a : (Int × Sg) => Go l m_X4_copyCase (d + 1) LAYC (.inl none) q 2 [some (.inr 24), some (.inl x1), some (.inl x2), some (.inl a.1)] [] a.2) (K := fun y : Sg => Go l m_X4_copyCase (d + 1) LAYC (.inl none) q 26 [none, none, none, none] [] y) ?_
      rintro ⟨x3, σ⟩ w h hK
      replace h : L_X4_copyCase_2 x1 x2 x3 σ = some w := h
      show Go l m_X4_copyCase (d + 1) LAYC (.inl none) q 2 [some (.inr 24), some (.inl x1), some (.inl x2), some (.inl x3)] [] σ
      unfold L_X4_copyCase_2 at h
      refine go_ops ok_X4_copyCase_2_2 (L' := [some (.inr 24), some (.inl x1), some (.inl x2), some (.inl x3)]) (st' := [.inl 8, .inl x3]) (σ1 := σ) rfl ?_
      refine go_icmp_ge dc_X4_copyCase_5 (by rfl) (fun hc => ?_) (fun hc => ?_)
      · replace h := (if_pos hc).symm.trans h
        cases h
        refine go_wk (L' := [none, none, none, none]) trivial ?_
        exact hK
      · replace h := (if_neg hc).symm.trans h
        refine go_ops ok_X4_copyCase_8_6 (L' := [some (.inr 24), some (.inl x1), some (.inl x2), some (.inl x3)]) (st' := [.inl x3, .inl x1, .inr 24, .inl x3, .inl x2, .inr 24]) (σ1 := σ) rfl ?_
        refine go_V (M1 := m_X4_get) (as := [.inl x1, .inl x3]) (st := [.inl x3, .inl x2, .inr 24]) (k := 24) (ci := 4) dc_X4_copyCase_14 ln_4_49 im_X4_get (by decide) rfl rfl mk_X4_get rfl (Nat.le_of_ble_eq_true rfl) (Nat.le_refl _) (v := (some (.inl (F_X4_get x1 x3 σ)))) (σ1 := σ) (lk_X4_get l d (by omega) x1 x3 σ _ rfl) _ rfl ?_
        obtain ⟨q1, e2, h⟩ := bnd_inv h
        refine go_V (M1 := m_X4_set) (as := [.inl x2, .inl x3, .inl (F_X4_get x1 x3 σ)]) (st := []) (k := 24) (ci := 4) dc_X4_copyCase_17 ln_4_45 im_X4_set (by decide) rfl rfl mk_X4_set rfl (Nat.le_of_ble_eq_true rfl) (Nat.le_refl _) (v := none) (σ1 := q1) (lk_X4_set l d (by omega) x2 x3 (F_X4_get x1 x3 σ) σ q1 e2.symm) _ rfl ?_
        refine go_ops ok_X4_copyCase_20_1 (L' := [some (.inr 24), some (.inl x1), some (.inl x2), some (.inl (wrap (x3 + 1)))]) (st' := []) (σ1 := q1) rfl ?_
        refine go_goto dc_X4_copyCase_23 (by rfl) ?_
        cases h
        exact hK
    refine go_ops ok_X4_copyCase_0_2 (L' := [some (.inr 24), some (.inl a1), some (.inl a2), some (.inl 0)]) (st' := []) (σ1 := σ) rfl ?_
    obtain ⟨y3, e4, h⟩ := bind_inv h
    refine hL_X4_copyCase_2 a1 a2 9 (0, σ) y3 e4 ?_
    show Go l m_X4_copyCase (d + 1) LAYC (.inl none) q 26 [none, none, none, none] [] y3
    have h9 := Option.some.inj h
    subst h9
    exact go_vret dc_X4_copyCase_26 rfl
  have hf := go_ct (as := [.inr 24, .inl a1, .inl a2]) mk_X4_copyCase (by rfl) (Nat.le_of_ble_eq_true rfl) key
  exact hf
theorem dc_X4_doubleCase_19 : decode m_X4_doubleCase.2.2.1 19 = .ok (.if_icmp .le 17, 3) := by decide +kernel
theorem dc_X4_doubleCase_27 : decode m_X4_doubleCase.2.2.1 27 = .ok (.invokevirtual 53, 3) := by decide +kernel
theorem dc_X4_doubleCase_33 : decode m_X4_doubleCase.2.2.1 33 = .ok (.goto (-16), 3) := by decide +kernel
theorem dc_X4_doubleCase_41 : decode m_X4_doubleCase.2.2.1 41 = .ok (.invokevirtual 45, 3) := by decide +kernel
theorem dc_X4_doubleCase_51 : decode m_X4_doubleCase.2.2.1 51 = .ok (.invokevirtual 45, 3) := by decide +kernel
theorem dc_X4_doubleCase_54 : decode m_X4_doubleCase.2.2.1 54 = .ok (.return_, 1) := by decide +kernel
theorem ok_X4_doubleCase_0_11 : oks m_X4_doubleCase.1 m_X4_doubleCase.2.2.1 0 [(.aload_n 0, 1, (0, 0, 0)), (.dup, 1, (0, 0, 0)), (.getfield 15, 3, (4, 1, 0)), (.iconst 1, 1, (0, 0, 0)), (.iadd, 1, (0, 0, 0)), (.putfield 15, 3, (4, 1, 0)), (.aload_n 0, 1, (0, 0, 0)), (.getfield 15, 3, (4, 1, 0)), (.iconst 1, 1, (0, 0, 0)), (.isub, 1, (0, 0, 0)), (.istore_n 2, 1, (0, 0, 0))] = true ∧ plen 0 [(.aload_n 0, 1, (0, 0, 0)), (.dup, 1, (0, 0, 0)), (.getfield 15, 3, (4, 1, 0)), (.iconst 1, 1, (0, 0, 0)), (.iadd, 1, (0, 0, 0)), (.putfield 15, 3, (4, 1, 0)), (.aload_n 0, 1, (0, 0, 0)), (.getfield 15, 3, (4, 1, 0)), (.iconst 1, 1, (0, 0, 0)), (.isub, 1, (0, 0, 0)), (.istore_n 2, 1, (0, 0, 0))] = 17 := by decide +kernel
theorem ok_X4_doubleCase_17_2 : oks m_X4_doubleCase.1 m_X4_doubleCase.2.2.1 17 [(.iload_n 2, 1, (0, 0, 0)), (.iload_n 1, 1, (0, 0, 0))] = true ∧ plen 17 [(.iload_n 2, 1, (0, 0, 0)), (.iload_n 1, 1, (0, 0, 0))] = 19 := by decide +kernel
theorem ok_X4_doubleCase_22_5 : oks m_X4_doubleCase.1 m_X4_doubleCase.2.2.1 22 [(.aload_n 0, 1, (0, 0, 0)), (.iload_n 2, 1, (0, 0, 0)), (.iconst 1, 1, (0, 0, 0)), (.isub, 1, (0, 0, 0)), (.iload_n 2, 1, (0, 0, 0))] = true ∧ plen 22 [(.aload_n 0, 1, (0, 0, 0)), (.iload_n 2, 1, (0, 0, 0)), (.iconst 1, 1, (0, 0, 0)), (.isub, 1, (0, 0, 0)), (.iload_n 2, 1, (0, 0, 0))] = 27 := by decide +kernel
theorem ok_X4_doubleCase_30_1 : oks m_X4_doubleCase.1 m_X4_doubleCase.2.2.1 30 [(.iinc 2 (-1), 3, (0, 0, 0))] = true ∧ plen 30 [(.iinc 2 (-1), 3, (0, 0, 0))] = 33 := by decide +kernel
theorem ok_X4_doubleCase_36_4 : oks m_X4_doubleCase.1 m_X4_doubleCase.2.2.1 36 [(.aload_n 0, 1, (0, 0, 0)), (.iload_n 1, 1, (0, 0, 0)), (.bipush 7, 2, (0, 0, 0)), (.iconst 0, 1, (0, 0, 0))] = true ∧ plen 36 [(.aload_n 0, 1, (0, 0, 0)), (.iload_n 1, 1, (0, 0, 0)), (.bipush 7, 2, (0, 0, 0)), (.iconst 0, 1, (0, 0, 0))] = 41 := by decide +kernel
theorem ok_X4_doubleCase_44_6 : oks m_X4_doubleCase.1 m_X4_doubleCase.2.2.1 44 [(.aload_n 0, 1, (0, 0, 0)), (.iload_n 1, 1, (0, 0, 0)), (.iconst 1, 1, (0, 0, 0)), (.iadd, 1, (0, 0, 0)), (.bipush 7, 2, (0, 0, 0)), (.iconst 0, 1, (0, 0, 0))] = true ∧ plen 44 [(.aload_n 0, 1, (0, 0, 0)), (.iload_n 1, 1, (0, 0, 0)), (.iconst 1, 1, (0, 0, 0)), (.iadd, 1, (0, 0, 0)), (.bipush 7, 2, (0, 0, 0)), (.iconst 0, 1, (0, 0, 0))] = 51 := by decide +kernel
def L_X4_doubleCase_17 (x1 : Int) (x2 : Int) (σ : Sg) : Option ((Int × Sg) ⊕ Sg) :=
if x2 ≤ x1 then
some (.inr σ)
else
(F_X4_copyCase (wrap (x2 - 1)) x2 σ).bind fun q5 =>
some (.inl (wrap (x2 + (-1)), q5))
def F_X4_doubleCase (a1 : Int) (σ : Sg) : Option Sg :=
bnd (up2 σ 24 1 (wrap ((σ 24 1) + 1))) fun s1 =>
bnd (wrap ((s1 24 1) - 1)) fun v3 =>
(iter (fun a : (Int × Sg) => L_X4_doubleCase_17 a1 a.1 a.2) 3000 (v3, s1)).bind fun y7 =>
bnd (F_X4_set a1 7 0 y7) fun q9 =>
bnd (F_X4_set (wrap (a1 + 1)) 7 0 q9) fun q11 =>
some q11
theorem lk_X4_doubleCase (l : Launch) (d : Nat) (hd : 3 ≤ d) (a1 : Int) (σ : Sg) (q : Sg) (h : F_X4_doubleCase a1 σ = some q) : CT l d m_X4_doubleCase.2.1 m_X4_doubleCase.2.2.1 m_X4_doubleCase.2.2.2.1 m_X4_doubleCase.2.2.2.2 [.inr 24, .inl a1] (LAYC, σ) none (LAYC, q) := by
  obtain ⟨d, rfl⟩ : ∃ e, d = e + 1 := ⟨d - 1, by omega⟩
  have key : Go l m_X4_doubleCase (d + 1) LAYC (.inl none) q 0 [some (.inr 24), some (.inl a1), none] [] σ := by
    unfold F_X4_doubleCase at h
    have hL_X4_doubleCase_17 : ∀ (x1 : Int) (n : Nat) (a : (Int × Sg)) (y : Sg), iter (fun a : (Int × Sg) => L_X4_doubleCase_17 x1 a.1 a.2) n a = some y → (fun y : Sg => Go l m_X4_doubleCase (d + 1) LAYC (.inl none) q 36 [some (.inr 24), some (.inl x1), none] [] y) y → (fun a : (Int × Sg) => Go l m_X4_doubleCase (d + 1) LAYC (.inl none) q 17 [some (.inr 24), some (.inl x1), some (.inl a.1)] [] a.2) a := by
      intro x1
      refine go_iter (G := fun a : (Int × Sg) => Go l m_X4_doubleCase (d + 1) LAYC (.inl none) q 17 [some (.inr 24), some (.inl x1), some (.inl a.1)] [] a.2) (K := fun y : Sg => Go l m_X4_doubleCase (d + 1) LAYC (.inl none) q 36 [some (.inr 24), some (.inl x1), none] [] y) ?_
      rintro ⟨x2, σ⟩ w h hK
      replace h : L_X4_doubleCase_17 x1 x2 σ = some w := h
      show Go l m_X4_doubleCase (d + 1) LAYC (.inl none) q 17 [some (.inr 24), some (.inl x1), some (.inl x2)] [] σ
      unfold L_X4_doubleCase_17 at h
      refine go_ops ok_X4_doubleCase_17_2 (L' := [some (.inr 24), some (.inl x1), some (.inl x2)]) (st' := [.inl x1, .inl x2]) (σ1 := σ) rfl ?_
      refine go_icmp_le dc_X4_doubleCase_19 (by rfl) (fun hc => ?_) (fun hc => ?_)
      · replace h := (if_pos hc).symm.trans h
        cases h
        refine go_wk (L' := [some (.inr 24), some (.inl x1), none]) ⟨rfl, rfl, trivial⟩ ?_
        exact hK
      · replace h := (if_neg hc).symm.trans h
        refine go_ops ok_X4_doubleCase_22_5 (L' := [some (.inr 24), some (.inl x1), some (.inl x2)]) (st' := [.inl x2, .inl (wrap (x2 - 1)), .inr 24]) (σ1 := σ) rfl ?_
        obtain ⟨q5, e6, h⟩ := bind_inv h
        refine go_V (M1 := m_X4_copyCase) (as := [.inl (wrap (x2 - 1)), .inl x2]) (st := []) (k := 24) (ci := 4) dc_X4_doubleCase_27 ln_4_53 im_X4_copyCase (by decide) rfl rfl mk_X4_copyCase rfl (Nat.le_of_ble_eq_true rfl) (Nat.le_refl _) (v := none) (σ1 := q5) (lk_X4_copyCase l d (by omega) (wrap (x2 - 1)) x2 σ q5 e6) _ rfl ?_
        refine go_ops ok_X4_doubleCase_30_1 (L' := [some (.inr 24), some (.inl x1), some (.inl (wrap (x2 + (-1))))]) (st' := []) (σ1 := q5) rfl ?_
        refine go_goto dc_X4_doubleCase_33 (by rfl) ?_
        cases h
        exact hK
    obtain ⟨s1, e2, h⟩ := bnd_inv h
    obtain ⟨v3, e4, h⟩ := bnd_inv h
    refine go_ops ok_X4_doubleCase_0_11 (L' := [some (.inr 24), some (.inl a1), some (.inl v3)]) (st' := []) (σ1 := s1) (by subst e4; subst e2; rfl) ?_
    obtain ⟨y7, e8, h⟩ := bind_inv h
    refine hL_X4_doubleCase_17 a1 3000 (v3, s1) y7 e8 ?_
    show Go l m_X4_doubleCase (d + 1) LAYC (.inl none) q 36 [some (.inr 24), some (.inl a1), none] [] y7
    refine go_ops ok_X4_doubleCase_36_4 (L' := [some (.inr 24), some (.inl a1), none]) (st' := [.inl 0, .inl 7, .inl a1, .inr 24]) (σ1 := y7) rfl ?_
    obtain ⟨q9, e10, h⟩ := bnd_inv h
    refine go_V (M1 := m_X4_set) (as := [.inl a1, .inl 7, .inl 0]) (st := []) (k := 24) (ci := 4) dc_X4_doubleCase_41 ln_4_45 im_X4_set (by decide) rfl rfl mk_X4_set rfl (Nat.le_of_ble_eq_true rfl) (Nat.le_refl _) (v := none) (σ1 := q9) (lk_X4_set l d (by omega) a1 7 0 y7 q9 e10.symm) _ rfl ?_
    refine go_ops ok_X4_doubleCase_44_6 (L' := [some (.inr 24), some (.inl a1), none]) (st' := [.inl 0, .inl 7, .inl (wrap (a1 + 1)), .inr 24]) (σ1 := q9) rfl ?_
    obtain ⟨q11, e12, h⟩ := bnd_inv h
    refine go_V (M1 := m_X4_set) (as := [.inl (wrap (a1 + 1)), .inl 7, .inl 0]) (st := []) (k := 24) (ci := 4) dc_X4_doubleCase_51 ln_4_45 im_X4_set (by decide) rfl rfl mk_X4_set rfl (Nat.le_of_ble_eq_true rfl) (Nat.le_refl _) (v := none) (σ1 := q11) (lk_X4_set l d (by omega) (wrap (a1 + 1)) 7 0 q9 q11 e12.symm) _ rfl ?_
    have h9 := Option.some.inj h
    subst h9
    exact go_vret dc_X4_doubleCase_54 rfl
  have hf := go_ct (as := [.inr 24, .inl a1]) mk_X4_doubleCase (by rfl) (Nat.le_of_ble_eq_true rfl) key
  exact hf
theorem dc_X4_dropCase_9 : decode m_X4_dropCase.2.2.1 9 = .ok (.if_icmp .ge 17, 3) := by decide +kernel
theorem dc_X4_dropCase_17 : decode m_X4_dropCase.2.2.1 17 = .ok (.invokevirtual 53, 3) := by decide +kernel
theorem dc_X4_dropCase_23 : decode m_X4_dropCase.2.2.1 23 = .ok (.goto (-21), 3) := by decide +kernel
theorem dc_X4_dropCase_36 : decode m_X4_dropCase.2.2.1 36 = .ok (.return_, 1) := by decide +kernel
theorem ok_X4_dropCase_0_2 : oks m_X4_dropCase.1 m_X4_dropCase.2.2.1 0 [(.iload_n 1, 1, (0, 0, 0)), (.istore_n 2, 1, (0, 0, 0))] = true ∧ plen 0 [(.iload_n 1, 1, (0, 0, 0)), (.istore_n 2, 1, (0, 0, 0))] = 2 := by decide +kernel
theorem ok_X4_dropCase_2_5 : oks m_X4_dropCase.1 m_X4_dropCase.2.2.1 2 [(.iload_n 2, 1, (0, 0, 0)), (.aload_n 0, 1, (0, 0, 0)), (.getfield 15, 3, (4, 1, 0)), (.iconst 1, 1, (0, 0, 0)), (.isub, 1, (0, 0, 0))] = true ∧ plen 2 [(.iload_n 2, 1, (0, 0, 0)), (.aload_n 0, 1, (0, 0, 0)), (.getfield 15, 3, (4, 1, 0)), (.iconst 1, 1, (0, 0, 0)), (.isub, 1, (0, 0, 0))] = 9 := by decide +kernel
theorem ok_X4_dropCase_12_5 : oks m_X4_dropCase.1 m_X4_dropCase.2.2.1 12 [(.aload_n 0, 1, (0, 0, 0)), (.iload_n 2, 1, (0, 0, 0)), (.iconst 1, 1, (0, 0, 0)), (.iadd, 1, (0, 0, 0)), (.iload_n 2, 1, (0, 0, 0))] = true ∧ plen 12 [(.aload_n 0, 1, (0, 0, 0)), (.iload_n 2, 1, (0, 0, 0)), (.iconst 1, 1, (0, 0, 0)), (.iadd, 1, (0, 0, 0)), (.iload_n 2, 1, (0, 0, 0))] = 17 := by decide +kernel
theorem ok_X4_dropCase_20_1 : oks m_X4_dropCase.1 m_X4_dropCase.2.2.1 20 [(.iinc 2 1, 3, (0, 0, 0))] = true ∧ plen 20 [(.iinc 2 1, 3, (0, 0, 0))] = 23 := by decide +kernel
theorem ok_X4_dropCase_26_6 : oks m_X4_dropCase.1 m_X4_dropCase.2.2.1 26 [(.aload_n 0, 1, (0, 0, 0)), (.dup, 1, (0, 0, 0)), (.getfield 15, 3, (4, 1, 0)), (.iconst 1, 1, (0, 0, 0)), (.isub, 1, (0, 0, 0)), (.putfield 15, 3, (4, 1, 0))] = true ∧ plen 26 [(.aload_n 0, 1, (0, 0, 0)), (.dup, 1, (0, 0, 0)), (.getfield 15, 3, (4, 1, 0)), (.iconst 1, 1, (0, 0, 0)), (.isub, 1, (0, 0, 0)), (.putfield 15, 3, (4, 1, 0))] = 36 := by decide +kernel
def L_X4_dropCase_2 (x2 : Int) (σ : Sg) : Option ((Int × Sg) ⊕ Sg) :=
if (wrap ((σ 24 1) - 1)) ≤ x2 then
some (.inr σ)
else
(F_X4_copyCase (wrap (x2 + 1)) x2 σ).bind fun q1 =>
some (.inl (wrap (x2 + 1), q1))
def F_X4_dropCase (a1 : Int) (σ : Sg) : Option Sg :=
(iter (fun a : (Int × Sg) => L_X4_dropCase_2 a.1 a.2) 3000 (a1, σ)).bind fun y3 =>
bnd (up2 y3 24 1 (wrap ((y3 24 1) - 1))) fun s5 =>
some s5
theorem lk_X4_dropCase (l : Launch) (d : Nat) (hd : 3 ≤ d) (a1 : Int) (σ : Sg) (q : Sg) (h : F_X4_dropCase a1 σ = some q) : CT l d m_X4_dropCase.2.1 m_X4_dropCase.2.2.1 m_X4_dropCase.2.2.2.1 m_X4_dropCase.2.2.2.2 [.inr 24, .inl a1] (LAYC, σ) none (LAYC, q) := by
  obtain ⟨d, rfl⟩ : ∃ e, d = e + 1 := ⟨d - 1, by omega⟩
  have key : Go l m_X4_dropCase (d + 1) LAYC (.inl none) q 0 [some (.inr 24), some (.inl a1), none] [] σ := by
    unfold F_X4_dropCase at h
    have hL_X4_dropCase_2 : ∀ (n : Nat) (a : (Int × Sg)) (y : Sg), iter (fun a : (Int × Sg) => L_X4_dropCase_2 a.1 a.2) n a = some y → (fun y : Sg => Go l m_X4_dropCase (d + 1) LAYC (.inl none) q 26 [some (.inr 24), none, none] [] y) y → (fun a : (Int × Sg) => Go l m_X4_dropCase (d + 1) LAYC (.inl none) q 2 [some (.inr 24), none, some (.inl a.1)] [] a.2) a := by
      skip
      refine go_iter (G := fun a : (Int × Sg) => Go l m_X4_dropCase (d + 1) LAYC (.inl none) q 2 [some (.inr 24), none, some (.inl a.1)] [] a.2) (K := fun y : Sg => Go l m_X4_dropCase (d + 1) LAYC (.inl none) q 26 [some (.inr 24), none, none] [] y) ?_
      rintro ⟨x2, σ⟩ w h hK
      replace h : L_X4_dropCase_2 x2 σ = some w := h
      show Go l m_X4_dropCase (d + 1) LAYC (.inl none) q 2 [some (.inr 24), none, some (.inl x2)] [] σ
      unfold L_X4_dropCase_2 at h
      refine go_ops ok_X4_dropCase_2_5 (L' := [some (.inr 24), none, some (.inl x2)]) (st' := [.inl (wrap ((σ 24 1) - 1)), .inl x2]) (σ1 := σ) rfl ?_
      refine go_icmp_ge dc_X4_dropCase_9 (by rfl) (fun hc => ?_) (fun hc => ?_)
      · replace h := (if_pos hc).symm.trans h
        cases h
        refine go_wk (L' := [some (.inr 24), none, none]) ⟨rfl, trivial⟩ ?_
        exact hK
      · replace h := (if_neg hc).symm.trans h
        refine go_ops ok_X4_dropCase_12_5 (L' := [some (.inr 24), none, some (.inl x2)]) (st' := [.inl x2, .inl (wrap (x2 + 1)), .inr 24]) (σ1 := σ) rfl ?_
        obtain ⟨q1, e2, h⟩ := bind_inv h
        refine go_V (M1 := m_X4_copyCase) (as := [.inl (wrap (x2 + 1)), .inl x2]) (st := []) (k := 24) (ci := 4) dc_X4_dropCase_17 ln_4_53 im_X4_copyCase (by decide) rfl rfl mk_X4_copyCase rfl (Nat.le_of_ble_eq_true rfl) (Nat.le_refl _) (v := none) (σ1 := q1) (lk_X4_copyCase l d (by omega) (wrap (x2 + 1)) x2 σ q1 e2) _ rfl ?_
        refine go_ops ok_X4_dropCase_20_1 (L' := [some (.inr 24), none, some (.inl (wrap (x2 + 1)))]) (st' := []) (σ1 := q1) rfl ?_
        refine go_goto dc_X4_dropCase_23 (by rfl) ?_
        cases h
        exact hK
    refine go_ops ok_X4_dropCase_0_2 (L' := [some (.inr 24), some (.inl a1), some (.inl a1)]) (st' := []) (σ1 := σ) rfl ?_
    refine go_wk (L' := [some (.inr 24), none, some (.inl a1)]) ⟨rfl, rfl, trivial⟩ ?_
    obtain ⟨y3, e4, h⟩ := bind_inv h
    refine hL_X4_dropCase_2  3000 (a1, σ) y3 e4 ?_
    show Go l m_X4_dropCase (d + 1) LAYC (.inl none) q 26 [some (.inr 24), none, none] [] y3
    obtain ⟨s5, e6, h⟩ := bnd_inv h
    refine go_ops ok_X4_dropCase_26_6 (L' := [some (.inr 24), none, none]) (st' := []) (σ1 := s5) (by subst e6; rfl) ?_
    have h9 := Option.some.inj h
    subst h9
    exact go_vret dc_X4_dropCase_36 rfl
  have hf := go_ct (as := [.inr 24, .inl a1]) mk_X4_dropCase (by rfl) (Nat.le_of_ble_eq_true rfl) key
  exact hf
theorem dc_X5_hasRoom_6 : decode m_X5_hasRoom.2.2.1 6 = .ok (.if_icmp .ge 7, 3) := by decide +kernel
theorem dc_X5_hasRoom_10 : decode m_X5_hasRoom.2.2.1 10 = .ok (.goto 4, 3) := by decide +kernel
theorem dc_X5_hasRoom_14 : decode m_X5_hasRoom.2.2.1 14 = .ok (.ireturn, 1) := by decide +kernel
theorem ok_X5_hasRoom_0_3 : oks m_X5_hasRoom.1 m_X5_hasRoom.2.2.1 0 [(.aload_n 0, 1, (0, 0, 0)), (.getfield 9, 3, (5, 0, 0)), (.bipush 60, 2, (0, 0, 0))] = true ∧ plen 0 [(.aload_n 0, 1, (0, 0, 0)), (.getfield 9, 3, (5, 0, 0)), (.bipush 60, 2, (0, 0, 0))] = 6 := by decide +kernel
theorem ok_X5_hasRoom_9_1 : oks m_X5_hasRoom.1 m_X5_hasRoom.2.2.1 9 [(.iconst 1, 1, (0, 0, 0))] = true ∧ plen 9 [(.iconst 1, 1, (0, 0, 0))] = 10 := by decide +kernel
theorem ok_X5_hasRoom_13_1 : oks m_X5_hasRoom.1 m_X5_hasRoom.2.2.1 13 [(.iconst 0, 1, (0, 0, 0))] = true ∧ plen 13 [(.iconst 0, 1, (0, 0, 0))] = 14 := by decide +kernel
def F_X5_hasRoom (σ : Sg) : Bool :=
if 60 ≤ (σ 10 0) then
false
else
true
theorem lk_X5_hasRoom (l : Launch) (d : Nat) (hd : 0 ≤ d) (σ : Sg) (q : Bool) (h : F_X5_hasRoom σ = q) : CT l d m_X5_hasRoom.2.1 m_X5_hasRoom.2.2.1 m_X5_hasRoom.2.2.2.1 m_X5_hasRoom.2.2.2.2 [.inr 10] (LAYC, σ) (some (.inl (b2i q))) (LAYC, σ) := by
  skip
  have key : Go l m_X5_hasRoom d LAYC (.inl (some (.inl (b2i q)))) σ 0 [some (.inr 10)] [] σ := by
    unfold F_X5_hasRoom at h
    refine go_ops ok_X5_hasRoom_0_3 (L' := [some (.inr 10)]) (st' := [.inl 60, .inl (σ 10 0)]) (σ1 := σ) rfl ?_
    refine go_icmp_ge dc_X5_hasRoom_6 (by rfl) (fun hc => ?_) (fun hc => ?_)
    · replace h := (if_pos hc).symm.trans h
      refine go_ops ok_X5_hasRoom_13_1 (L' := [some (.inr 10)]) (st' := [.inl 0]) (σ1 := σ) rfl ?_
      subst h
      exact go_zret (x := false) dc_X5_hasRoom_14 rfl
    · replace h := (if_neg hc).symm.trans h
      refine go_ops ok_X5_hasRoom_9_1 (L' := [some (.inr 10)]) (st' := [.inl 1]) (σ1 := σ) rfl ?_
      refine go_goto dc_X5_hasRoom_10 (by rfl) ?_
      subst h
      exact go_zret (x := true) dc_X5_hasRoom_14 rfl
  have hf := go_ct (as := [.inr 10]) mk_X5_hasRoom (by rfl) (Nat.le_of_ble_eq_true rfl) key
  exact hf
theorem dc_X5_isThere_8 : decode m_X5_isThere.2.2.1 8 = .ok (.invokestatic 49, 3) := by decide +kernel
theorem dc_X5_isThere_11 : decode m_X5_isThere.2.2.1 11 = .ok (.ireturn, 1) := by decide +kernel
theorem ok_X5_isThere_0_6 : oks m_X5_isThere.1 m_X5_isThere.2.2.1 0 [(.iload_n 1, 1, (0, 0, 0)), (.iconst 0, 1, (0, 0, 0)), (.aload_n 0, 1, (0, 0, 0)), (.getfield 9, 3, (5, 0, 0)), (.iconst 1, 1, (0, 0, 0)), (.isub, 1, (0, 0, 0))] = true ∧ plen 0 [(.iload_n 1, 1, (0, 0, 0)), (.iconst 0, 1, (0, 0, 0)), (.aload_n 0, 1, (0, 0, 0)), (.getfield 9, 3, (5, 0, 0)), (.iconst 1, 1, (0, 0, 0)), (.isub, 1, (0, 0, 0))] = 8 := by decide +kernel
def F_X5_isThere (a1 : Int) (σ : Sg) : Bool :=
F_X10_isIn a1 0 (wrap ((σ 10 0) - 1))
theorem lk_X5_isThere (l : Launch) (d : Nat) (hd : 1 ≤ d) (a1 : Int) (σ : Sg) (q : Bool) (h : F_X5_isThere a1 σ = q) : CT l d m_X5_isThere.2.1 m_X5_isThere.2.2.1 m_X5_isThere.2.2.2.1 m_X5_isThere.2.2.2.2 [.inr 10, .inl a1] (LAYC, σ) (some (.inl (b2i q))) (LAYC, σ) := by
  obtain ⟨d, rfl⟩ : ∃ e, d = e + 1 := ⟨d - 1, by omega⟩
  have key : Go l m_X5_isThere (d + 1) LAYC (.inl (some (.inl (b2i q)))) σ 0 [some (.inr 10), some (.inl a1)] [] σ := by
    unfold F_X5_isThere at h
    refine go_ops ok_X5_isThere_0_6 (L' := [some (.inr 10), some (.inl a1)]) (st' := [.inl (wrap ((σ 10 0) - 1)), .inl 0, .inl a1]) (σ1 := σ) rfl ?_
    refine go_SN (M1 := m_X10_isIn) (as := [.inl a1, .inl 0, .inl (wrap ((σ 10 0) - 1))]) (st := []) dc_X5_isThere_8 ln_5_49 sm_X10_isIn mk_X10_isIn rfl (Nat.le_of_ble_eq_true rfl) (Nat.le_refl _) (v := (some (.inl (b2i (F_X10_isIn a1 0 (wrap ((σ 10 0) - 1))))))) (σ1 := σ) (lk_X10_isIn l d (by omega) a1 0 (wrap ((σ 10 0) - 1)) σ _ rfl) _ rfl ?_
    subst h
    exact go_zret (x := (F_X10_isIn a1 0 (wrap ((σ 10 0) - 1)))) dc_X5_isThere_11 rfl
  have hf := go_ct (as := [.inr 10, .inl a1]) mk_X5_isThere (by rfl) (Nat.le_of_ble_eq_true rfl) key
  exact hf
theorem dc_X5_isList_2 : decode m_X5_isList.2.2.1 2 = .ok (.invokevirtual 60, 3) := by decide +kernel
theorem dc_X5_isList_7 : decode m_X5_isList.2.2.1 7 = .ok (.if_icmp .eq 13, 3) := by decide +kernel
theorem dc_X5_isList_12 : decode m_X5_isList.2.2.1 12 = .ok (.invokevirtual 60, 3) := by decide +kernel
theorem dc_X5_isList_17 : decode m_X5_isList.2.2.1 17 = .ok (.if_icmp .ne 7, 3) := by decide +kernel
theorem dc_X5_isList_21 : decode m_X5_isList.2.2.1 21 = .ok (.goto 4, 3) := by decide +kernel
theorem dc_X5_isList_25 : decode m_X5_isList.2.2.1 25 = .ok (.ireturn, 1) := by decide +kernel
theorem ok_X5_isList_0_2 : oks m_X5_isList.1 m_X5_isList.2.2.1 0 [(.aload_n 0, 1, (0, 0, 0)), (.iload_n 1, 1, (0, 0, 0))] = true ∧ plen 0 [(.aload_n 0, 1, (0, 0, 0)), (.iload_n 1, 1, (0, 0, 0))] = 2 := by decide +kernel
theorem ok_X5_isList_5_1 : oks m_X5_isList.1 m_X5_isList.2.2.1 5 [(.bipush 6, 2, (0, 0, 0))] = true ∧ plen 5 [(.bipush 6, 2, (0, 0, 0))] = 7 := by decide +kernel
theorem ok_X5_isList_10_2 : oks m_X5_isList.1 m_X5_isList.2.2.1 10 [(.aload_n 0, 1, (0, 0, 0)), (.iload_n 1, 1, (0, 0, 0))] = true ∧ plen 10 [(.aload_n 0, 1, (0, 0, 0)), (.iload_n 1, 1, (0, 0, 0))] = 12 := by decide +kernel
theorem ok_X5_isList_15_1 : oks m_X5_isList.1 m_X5_isList.2.2.1 15 [(.bipush 7, 2, (0, 0, 0))] = true ∧ plen 15 [(.bipush 7, 2, (0, 0, 0))] = 17 := by decide +kernel
theorem ok_X5_isList_20_1 : oks m_X5_isList.1 m_X5_isList.2.2.1 20 [(.iconst 1, 1, (0, 0, 0))] = true ∧ plen 20 [(.iconst 1, 1, (0, 0, 0))] = 21 := by decide +kernel
theorem ok_X5_isList_24_1 : oks m_X5_isList.1 m_X5_isList.2.2.1 24 [(.iconst 0, 1, (0, 0, 0))] = true ∧ plen 24 [(.iconst 0, 1, (0, 0, 0))] = 25 := by decide +kernel
def B_X5_isList_20 (σ : Sg) : Bool :=
true
def F_X5_isList (a1 : Int) (σ : Sg) : Bool :=
if (F_X5_sortOf a1 σ) = 6 then
B_X5_isList_20 σ
else
if (F_X5_sortOf a1 σ) = 7 then
B_X5_isList_20 σ
else
false
theorem lk_X5_isList (l : Launch) (d : Nat) (hd : 2 ≤ d) (a1 : Int) (σ : Sg) (q : Bool) (h : F_X5_isList a1 σ = q) : CT l d m_X5_isList.2.1 m_X5_isList.2.2.1 m_X5_isList.2.2.2.1 m_X5_isList.2.2.2.2 [.inr 10, .inl a1] (LAYC, σ) (some (.inl (b2i q))) (LAYC, σ) := by
  obtain ⟨d, rfl⟩ : ∃ e, d = e + 1 := ⟨d - 1, by omega⟩
  have key : Go l m_X5_isList (d + 1) LAYC (.inl (some (.inl (b2i q)))) σ 0 [some (.inr 10), some (.inl a1)] [] σ := by
    unfold F_X5_isList at h
    have hB_X5_isList_20 : ∀ (σ : Sg), B_X5_isList_20 σ = q → Go l m_X5_isList (d + 1) LAYC (.inl (some (.inl (b2i q)))) σ 20 [none, none] [] σ := by
      intro σ h
      unfold B_X5_isList_20 at h
      refine go_ops ok_X5_isList_20_1 (L' := [none, none]) (st' := [.inl 1]) (σ1 := σ) rfl ?_
      refine go_goto dc_X5_isList_21 (by rfl) ?_
      subst h
      exact go_zret (x := true) dc_X5_isList_25 rfl
    refine go_ops ok_X5_isList_0_2 (L' := [some (.inr 10), some (.inl a1)]) (st' := [.inl a1, .inr 10]) (σ1 := σ) rfl ?_
    refine go_V (M1 := m_X5_sortOf) (as := [.inl a1]) (st := []) (k := 10) (ci := 5) dc_X5_isList_2 ln_5_60 im_X5_sortOf (by decide) rfl rfl mk_X5_sortOf rfl (Nat.le_of_ble_eq_true rfl) (Nat.le_refl _) (v := (some (.inl (F_X5_sortOf a1 σ)))) (σ1 := σ) (lk_X5_sortOf l d (by omega) a1 σ _ rfl) _ rfl ?_
    refine go_ops ok_X5_isList_5_1 (L' := [some (.inr 10), some (.inl a1)]) (st' := [.inl 6, .inl (F_X5_sortOf a1 σ)]) (σ1 := σ) rfl ?_
    refine go_icmp_eq dc_X5_isList_7 (by rfl) (fun hc => ?_) (fun hc => ?_)
    · replace h := (if_pos hc).symm.trans h
      refine go_wk (L' := [none, none]) trivial ?_
      exact hB_X5_isList_20 σ h
    · replace h := (if_neg hc).symm.trans h
      refine go_ops ok_X5_isList_10_2 (L' := [some (.inr 10), some (.inl a1)]) (st' := [.inl a1, .inr 10]) (σ1 := σ) rfl ?_
      refine go_V (M1 := m_X5_sortOf) (as := [.inl a1]) (st := []) (k := 10) (ci := 5) dc_X5_isList_12 ln_5_60 im_X5_sortOf (by decide) rfl rfl mk_X5_sortOf rfl (Nat.le_of_ble_eq_true rfl) (Nat.le_refl _) (v := (some (.inl (F_X5_sortOf a1 σ)))) (σ1 := σ) (lk_X5_sortOf l d (by omega) a1 σ _ rfl) _ rfl ?_
      refine go_ops ok_X5_isList_15_1 (L' := [some (.inr 10), some (.inl a1)]) (st' := [.inl 7, .inl (F_X5_sortOf a1 σ)]) (σ1 := σ) rfl ?_
      refine go_icmp_ne dc_X5_isList_17 (by rfl) (fun hc => ?_) (fun hc => ?_)
      · replace h := (if_neg hc).symm.trans h
        refine go_ops ok_X5_isList_24_1 (L' := [some (.inr 10), some (.inl a1)]) (st' := [.inl 0]) (σ1 := σ) rfl ?_
        subst h
        exact go_zret (x := false) dc_X5_isList_25 rfl
      · replace h := (if_pos hc).symm.trans h
        refine go_wk (L' := [none, none]) trivial ?_
        exact hB_X5_isList_20 σ h
  have hf := go_ct (as := [.inr 10, .inl a1]) mk_X5_isList (by rfl) (Nat.le_of_ble_eq_true rfl) key
  exact hf
theorem dc_X5_fits_2 : decode m_X5_fits.2.2.1 2 = .ok (.invokevirtual 64, 3) := by decide +kernel
theorem dc_X5_fits_6 : decode m_X5_fits.2.2.1 6 = .ok (.if_icmp .eq 12, 3) := by decide +kernel
theorem dc_X5_fits_11 : decode m_X5_fits.2.2.1 11 = .ok (.invokevirtual 64, 3) := by decide +kernel
theorem dc_X5_fits_15 : decode m_X5_fits.2.2.1 15 = .ok (.if_icmp .ne 7, 3) := by decide +kernel
theorem dc_X5_fits_19 : decode m_X5_fits.2.2.1 19 = .ok (.goto 4, 3) := by decide +kernel
theorem dc_X5_fits_23 : decode m_X5_fits.2.2.1 23 = .ok (.ireturn, 1) := by decide +kernel
theorem ok_X5_fits_0_2 : oks m_X5_fits.1 m_X5_fits.2.2.1 0 [(.aload_n 0, 1, (0, 0, 0)), (.iload_n 1, 1, (0, 0, 0))] = true ∧ plen 0 [(.aload_n 0, 1, (0, 0, 0)), (.iload_n 1, 1, (0, 0, 0))] = 2 := by decide +kernel
theorem ok_X5_fits_5_1 : oks m_X5_fits.1 m_X5_fits.2.2.1 5 [(.iconst (-1), 1, (0, 0, 0))] = true ∧ plen 5 [(.iconst (-1), 1, (0, 0, 0))] = 6 := by decide +kernel
theorem ok_X5_fits_9_2 : oks m_X5_fits.1 m_X5_fits.2.2.1 9 [(.aload_n 0, 1, (0, 0, 0)), (.iload_n 1, 1, (0, 0, 0))] = true ∧ plen 9 [(.aload_n 0, 1, (0, 0, 0)), (.iload_n 1, 1, (0, 0, 0))] = 11 := by decide +kernel
theorem ok_X5_fits_14_1 : oks m_X5_fits.1 m_X5_fits.2.2.1 14 [(.iload_n 2, 1, (0, 0, 0))] = true ∧ plen 14 [(.iload_n 2, 1, (0, 0, 0))] = 15 := by decide +kernel
theorem ok_X5_fits_18_1 : oks m_X5_fits.1 m_X5_fits.2.2.1 18 [(.iconst 1, 1, (0, 0, 0))] = true ∧ plen 18 [(.iconst 1, 1, (0, 0, 0))] = 19 := by decide +kernel
theorem ok_X5_fits_22_1 : oks m_X5_fits.1 m_X5_fits.2.2.1 22 [(.iconst 0, 1, (0, 0, 0))] = true ∧ plen 22 [(.iconst 0, 1, (0, 0, 0))] = 23 := by decide +kernel
def B_X5_fits_18 (σ : Sg) : Bool :=
true
def F_X5_fits (a1 : Int) (a2 : Int) (σ : Sg) : Bool :=
if (F_X5_kindOf a1 σ) = (-1) then
B_X5_fits_18 σ
else
if (F_X5_kindOf a1 σ) = a2 then
B_X5_fits_18 σ
else
false
theorem lk_X5_fits (l : Launch) (d : Nat) (hd : 2 ≤ d) (a1 : Int) (a2 : Int) (σ : Sg) (q : Bool) (h : F_X5_fits a1 a2 σ = q) : CT l d m_X5_fits.2.1 m_X5_fits.2.2.1 m_X5_fits.2.2.2.1 m_X5_fits.2.2.2.2 [.inr 10, .inl a1, .inl a2] (LAYC, σ) (some (.inl (b2i q))) (LAYC, σ) := by
  obtain ⟨d, rfl⟩ : ∃ e, d = e + 1 := ⟨d - 1, by omega⟩
  have key : Go l m_X5_fits (d + 1) LAYC (.inl (some (.inl (b2i q)))) σ 0 [some (.inr 10), some (.inl a1), some (.inl a2)] [] σ := by
    unfold F_X5_fits at h
    have hB_X5_fits_18 : ∀ (σ : Sg), B_X5_fits_18 σ = q → Go l m_X5_fits (d + 1) LAYC (.inl (some (.inl (b2i q)))) σ 18 [none, none, none] [] σ := by
      intro σ h
      unfold B_X5_fits_18 at h
      refine go_ops ok_X5_fits_18_1 (L' := [none, none, none]) (st' := [.inl 1]) (σ1 := σ) rfl ?_
      refine go_goto dc_X5_fits_19 (by rfl) ?_
      subst h
      exact go_zret (x := true) dc_X5_fits_23 rfl
    refine go_ops ok_X5_fits_0_2 (L' := [some (.inr 10), some (.inl a1), some (.inl a2)]) (st' := [.inl a1, .inr 10]) (σ1 := σ) rfl ?_
    refine go_V (M1 := m_X5_kindOf) (as := [.inl a1]) (st := []) (k := 10) (ci := 5) dc_X5_fits_2 ln_5_64 im_X5_kindOf (by decide) rfl rfl mk_X5_kindOf rfl (Nat.le_of_ble_eq_true rfl) (Nat.le_refl _) (v := (some (.inl (F_X5_kindOf a1 σ)))) (σ1 := σ) (lk_X5_kindOf l d (by omega) a1 σ _ rfl) _ rfl ?_
    refine go_ops ok_X5_fits_5_1 (L' := [some (.inr 10), some (.inl a1), some (.inl a2)]) (st' := [.inl (-1), .inl (F_X5_kindOf a1 σ)]) (σ1 := σ) rfl ?_
    refine go_icmp_eq dc_X5_fits_6 (by rfl) (fun hc => ?_) (fun hc => ?_)
    · replace h := (if_pos hc).symm.trans h
      refine go_wk (L' := [none, none, none]) trivial ?_
      exact hB_X5_fits_18 σ h
    · replace h := (if_neg hc).symm.trans h
      refine go_ops ok_X5_fits_9_2 (L' := [some (.inr 10), some (.inl a1), some (.inl a2)]) (st' := [.inl a1, .inr 10]) (σ1 := σ) rfl ?_
      refine go_V (M1 := m_X5_kindOf) (as := [.inl a1]) (st := []) (k := 10) (ci := 5) dc_X5_fits_11 ln_5_64 im_X5_kindOf (by decide) rfl rfl mk_X5_kindOf rfl (Nat.le_of_ble_eq_true rfl) (Nat.le_refl _) (v := (some (.inl (F_X5_kindOf a1 σ)))) (σ1 := σ) (lk_X5_kindOf l d (by omega) a1 σ _ rfl) _ rfl ?_
      refine go_ops ok_X5_fits_14_1 (L' := [some (.inr 10), some (.inl a1), some (.inl a2)]) (st' := [.inl a2, .inl (F_X5_kindOf a1 σ)]) (σ1 := σ) rfl ?_
      refine go_icmp_ne dc_X5_fits_15 (by rfl) (fun hc => ?_) (fun hc => ?_)
      · replace h := (if_neg hc).symm.trans h
        refine go_ops ok_X5_fits_22_1 (L' := [some (.inr 10), some (.inl a1), some (.inl a2)]) (st' := [.inl 0]) (σ1 := σ) rfl ?_
        subst h
        exact go_zret (x := false) dc_X5_fits_23 rfl
      · replace h := (if_pos hc).symm.trans h
        refine go_wk (L' := [none, none, none]) trivial ?_
        exact hB_X5_fits_18 σ h
  have hf := go_ct (as := [.inr 10, .inl a1, .inl a2]) mk_X5_fits (by rfl) (Nat.le_of_ble_eq_true rfl) key
  exact hf
theorem dc_X5_hasView_5 : decode m_X5_hasView.2.2.1 5 = .ok (.invokestatic 57, 3) := by decide +kernel
theorem dc_X5_hasView_9 : decode m_X5_hasView.2.2.1 9 = .ok (.if_icmp .ne 7, 3) := by decide +kernel
theorem dc_X5_hasView_13 : decode m_X5_hasView.2.2.1 13 = .ok (.goto 4, 3) := by decide +kernel
theorem dc_X5_hasView_17 : decode m_X5_hasView.2.2.1 17 = .ok (.ireturn, 1) := by decide +kernel
theorem ok_X5_hasView_0_3 : oks m_X5_hasView.1 m_X5_hasView.2.2.1 0 [(.aload_n 0, 1, (0, 0, 0)), (.getfield 43, 3, (5, 10, 0)), (.iload_n 1, 1, (0, 0, 0))] = true ∧ plen 0 [(.aload_n 0, 1, (0, 0, 0)), (.getfield 43, 3, (5, 10, 0)), (.iload_n 1, 1, (0, 0, 0))] = 5 := by decide +kernel
theorem ok_X5_hasView_8_1 : oks m_X5_hasView.1 m_X5_hasView.2.2.1 8 [(.iconst 1, 1, (0, 0, 0))] = true ∧ plen 8 [(.iconst 1, 1, (0, 0, 0))] = 9 := by decide +kernel
theorem ok_X5_hasView_12_1 : oks m_X5_hasView.1 m_X5_hasView.2.2.1 12 [(.iconst 1, 1, (0, 0, 0))] = true ∧ plen 12 [(.iconst 1, 1, (0, 0, 0))] = 13 := by decide +kernel
theorem ok_X5_hasView_16_1 : oks m_X5_hasView.1 m_X5_hasView.2.2.1 16 [(.iconst 0, 1, (0, 0, 0))] = true ∧ plen 16 [(.iconst 0, 1, (0, 0, 0))] = 17 := by decide +kernel
def F_X5_hasView (a1 : Int) (σ : Sg) : Bool :=
if (rdD 0 σ 20 60 a1) = 1 then
true
else
false
theorem lk_X5_hasView (l : Launch) (d : Nat) (hd : 1 ≤ d) (a1 : Int) (σ : Sg) (q : Bool) (h : F_X5_hasView a1 σ = q) : CT l d m_X5_hasView.2.1 m_X5_hasView.2.2.1 m_X5_hasView.2.2.2.1 m_X5_hasView.2.2.2.2 [.inr 10, .inl a1] (LAYC, σ) (some (.inl (b2i q))) (LAYC, σ) := by
  obtain ⟨d, rfl⟩ : ∃ e, d = e + 1 := ⟨d - 1, by omega⟩
  have key : Go l m_X5_hasView (d + 1) LAYC (.inl (some (.inl (b2i q)))) σ 0 [some (.inr 10), some (.inl a1)] [] σ := by
    unfold F_X5_hasView at h
    refine go_ops ok_X5_hasView_0_3 (L' := [some (.inr 10), some (.inl a1)]) (st' := [.inl a1, .inr 20]) (σ1 := σ) rfl ?_
    refine go_SN (M1 := m_X10_atOrZero) (as := [.inr 20, .inl a1]) (st := []) dc_X5_hasView_5 ln_5_57 sm_X10_atOrZero mk_X10_atOrZero rfl (Nat.le_of_ble_eq_true rfl) (Nat.le_refl _) (v := some (.inl (rdD 0 σ 20 60 a1))) (σ1 := σ) (lk_X10_atOrZero l d LAYC 20 60 rfl σ _) _ rfl ?_
    refine go_ops ok_X5_hasView_8_1 (L' := [some (.inr 10), some (.inl a1)]) (st' := [.inl 1, .inl (rdD 0 σ 20 60 a1)]) (σ1 := σ) rfl ?_
    refine go_icmp_ne dc_X5_hasView_9 (by rfl) (fun hc => ?_) (fun hc => ?_)
    · replace h := (if_neg hc).symm.trans h
      refine go_ops ok_X5_hasView_16_1 (L' := [some (.inr 10), some (.inl a1)]) (st' := [.inl 0]) (σ1 := σ) rfl ?_
      subst h
      exact go_zret (x := false) dc_X5_hasView_17 rfl
    · replace h := (if_pos hc).symm.trans h
      refine go_ops ok_X5_hasView_12_1 (L' := [some (.inr 10), some (.inl a1)]) (st' := [.inl 1]) (σ1 := σ) rfl ?_
      refine go_goto dc_X5_hasView_13 (by rfl) ?_
      subst h
      exact go_zret (x := true) dc_X5_hasView_17 rfl
  have hf := go_ct (as := [.inr 10, .inl a1]) mk_X5_hasView (by rfl) (Nat.le_of_ble_eq_true rfl) key
  exact hf
theorem dc_X5_digitsOf_5 : decode m_X5_digitsOf.2.2.1 5 = .ok (.invokestatic 57, 3) := by decide +kernel
theorem dc_X5_digitsOf_8 : decode m_X5_digitsOf.2.2.1 8 = .ok (.ireturn, 1) := by decide +kernel
theorem ok_X5_digitsOf_0_3 : oks m_X5_digitsOf.1 m_X5_digitsOf.2.2.1 0 [(.aload_n 0, 1, (0, 0, 0)), (.getfield 46, 3, (5, 11, 0)), (.iload_n 1, 1, (0, 0, 0))] = true ∧ plen 0 [(.aload_n 0, 1, (0, 0, 0)), (.getfield 46, 3, (5, 11, 0)), (.iload_n 1, 1, (0, 0, 0))] = 5 := by decide +kernel
def F_X5_digitsOf (a1 : Int) (σ : Sg) : Int :=
rdD 0 σ 21 60 a1
theorem lk_X5_digitsOf (l : Launch) (d : Nat) (hd : 1 ≤ d) (a1 : Int) (σ : Sg) (q : Int) (h : F_X5_digitsOf a1 σ = q) : CT l d m_X5_digitsOf.2.1 m_X5_digitsOf.2.2.1 m_X5_digitsOf.2.2.2.1 m_X5_digitsOf.2.2.2.2 [.inr 10, .inl a1] (LAYC, σ) (some (.inl q)) (LAYC, σ) := by
  obtain ⟨d, rfl⟩ : ∃ e, d = e + 1 := ⟨d - 1, by omega⟩
  have key : Go l m_X5_digitsOf (d + 1) LAYC (.inl (some (.inl q))) σ 0 [some (.inr 10), some (.inl a1)] [] σ := by
    unfold F_X5_digitsOf at h
    refine go_ops ok_X5_digitsOf_0_3 (L' := [some (.inr 10), some (.inl a1)]) (st' := [.inl a1, .inr 21]) (σ1 := σ) rfl ?_
    refine go_SN (M1 := m_X10_atOrZero) (as := [.inr 21, .inl a1]) (st := []) dc_X5_digitsOf_5 ln_5_57 sm_X10_atOrZero mk_X10_atOrZero rfl (Nat.le_of_ble_eq_true rfl) (Nat.le_refl _) (v := some (.inl (rdD 0 σ 21 60 a1))) (σ1 := σ) (lk_X10_atOrZero l d LAYC 21 60 rfl σ _) _ rfl ?_
    subst h
    exact go_iret dc_X5_digitsOf_8 rfl
  have hf := go_ct (as := [.inr 10, .inl a1]) mk_X5_digitsOf (by rfl) (Nat.le_of_ble_eq_true rfl) key
  exact hf
theorem dc_X5_isBare_2 : decode m_X5_isBare.2.2.1 2 = .ok (.invokevirtual 67, 3) := by decide +kernel
theorem dc_X5_isBare_5 : decode m_X5_isBare.2.2.1 5 = .ok (.ifCond .eq 7, 3) := by decide +kernel
theorem dc_X5_isBare_9 : decode m_X5_isBare.2.2.1 9 = .ok (.goto 4, 3) := by decide +kernel
theorem dc_X5_isBare_13 : decode m_X5_isBare.2.2.1 13 = .ok (.ireturn, 1) := by decide +kernel
theorem ok_X5_isBare_0_2 : oks m_X5_isBare.1 m_X5_isBare.2.2.1 0 [(.aload_n 0, 1, (0, 0, 0)), (.iload_n 1, 1, (0, 0, 0))] = true ∧ plen 0 [(.aload_n 0, 1, (0, 0, 0)), (.iload_n 1, 1, (0, 0, 0))] = 2 := by decide +kernel
theorem ok_X5_isBare_8_1 : oks m_X5_isBare.1 m_X5_isBare.2.2.1 8 [(.iconst 1, 1, (0, 0, 0))] = true ∧ plen 8 [(.iconst 1, 1, (0, 0, 0))] = 9 := by decide +kernel
theorem ok_X5_isBare_12_1 : oks m_X5_isBare.1 m_X5_isBare.2.2.1 12 [(.iconst 0, 1, (0, 0, 0))] = true ∧ plen 12 [(.iconst 0, 1, (0, 0, 0))] = 13 := by decide +kernel
def F_X5_isBare (a1 : Int) (σ : Sg) : Bool :=
if (F_X5_digitsOf a1 σ) = 0 then
false
else
true
theorem lk_X5_isBare (l : Launch) (d : Nat) (hd : 2 ≤ d) (a1 : Int) (σ : Sg) (q : Bool) (h : F_X5_isBare a1 σ = q) : CT l d m_X5_isBare.2.1 m_X5_isBare.2.2.1 m_X5_isBare.2.2.2.1 m_X5_isBare.2.2.2.2 [.inr 10, .inl a1] (LAYC, σ) (some (.inl (b2i q))) (LAYC, σ) := by
  obtain ⟨d, rfl⟩ : ∃ e, d = e + 1 := ⟨d - 1, by omega⟩
  have key : Go l m_X5_isBare (d + 1) LAYC (.inl (some (.inl (b2i q)))) σ 0 [some (.inr 10), some (.inl a1)] [] σ := by
    unfold F_X5_isBare at h
    refine go_ops ok_X5_isBare_0_2 (L' := [some (.inr 10), some (.inl a1)]) (st' := [.inl a1, .inr 10]) (σ1 := σ) rfl ?_
    refine go_V (M1 := m_X5_digitsOf) (as := [.inl a1]) (st := []) (k := 10) (ci := 5) dc_X5_isBare_2 ln_5_67 im_X5_digitsOf (by decide) rfl rfl mk_X5_digitsOf rfl (Nat.le_of_ble_eq_true rfl) (Nat.le_refl _) (v := (some (.inl (F_X5_digitsOf a1 σ)))) (σ1 := σ) (lk_X5_digitsOf l d (by omega) a1 σ _ rfl) _ rfl ?_
    refine go_if_eq dc_X5_isBare_5 (by rfl) (fun hc => ?_) (fun hc => ?_)
    · replace h := (if_pos hc).symm.trans h
      refine go_ops ok_X5_isBare_12_1 (L' := [some (.inr 10), some (.inl a1)]) (st' := [.inl 0]) (σ1 := σ) rfl ?_
      subst h
      exact go_zret (x := false) dc_X5_isBare_13 rfl
    · replace h := (if_neg hc).symm.trans h
      refine go_ops ok_X5_isBare_8_1 (L' := [some (.inr 10), some (.inl a1)]) (st' := [.inl 1]) (σ1 := σ) rfl ?_
      refine go_goto dc_X5_isBare_9 (by rfl) ?_
      subst h
      exact go_zret (x := true) dc_X5_isBare_13 rfl
  have hf := go_ct (as := [.inr 10, .inl a1]) mk_X5_isBare (by rfl) (Nat.le_of_ble_eq_true rfl) key
  exact hf
theorem dc_X10_isName_3 : decode m_X10_isName.2.2.1 3 = .ok (.invokestatic 94, 3) := by decide +kernel
theorem dc_X10_isName_6 : decode m_X10_isName.2.2.1 6 = .ok (.ireturn, 1) := by decide +kernel
theorem ok_X10_isName_0_3 : oks m_X10_isName.1 m_X10_isName.2.2.1 0 [(.iload_n 0, 1, (0, 0, 0)), (.iconst 0, 1, (0, 0, 0)), (.iconst 5, 1, (0, 0, 0))] = true ∧ plen 0 [(.iload_n 0, 1, (0, 0, 0)), (.iconst 0, 1, (0, 0, 0)), (.iconst 5, 1, (0, 0, 0))] = 3 := by decide +kernel
def F_X10_isName (a0 : Int) : Bool :=
F_X10_isIn a0 0 5
theorem lk_X10_isName (l : Launch) (d : Nat) (hd : 1 ≤ d) (a0 : Int) (σ : Sg) (q : Bool) (h : F_X10_isName a0 = q) : CT l d m_X10_isName.2.1 m_X10_isName.2.2.1 m_X10_isName.2.2.2.1 m_X10_isName.2.2.2.2 [.inl a0] (LAYC, σ) (some (.inl (b2i q))) (LAYC, σ) := by
  obtain ⟨d, rfl⟩ : ∃ e, d = e + 1 := ⟨d - 1, by omega⟩
  have key : Go l m_X10_isName (d + 1) LAYC (.inl (some (.inl (b2i q)))) σ 0 [some (.inl a0)] [] σ := by
    unfold F_X10_isName at h
    refine go_ops ok_X10_isName_0_3 (L' := [some (.inl a0)]) (st' := [.inl 5, .inl 0, .inl a0]) (σ1 := σ) rfl ?_
    refine go_S (M1 := m_X10_isIn) (as := [.inl a0, .inl 0, .inl 5]) (st := []) dc_X10_isName_3 ln_10_94 sm_X10_isIn mk_X10_isIn rfl (Nat.le_of_ble_eq_true rfl) (Nat.le_refl _) (v := (some (.inl (b2i (F_X10_isIn a0 0 5))))) (σ1 := σ) (lk_X10_isIn l d (by omega) a0 0 5 σ _ rfl) _ rfl ?_
    subst h
    exact go_zret (x := (F_X10_isIn a0 0 5)) dc_X10_isName_6 rfl
  have hf := go_ct (as := [.inl a0]) mk_X10_isName (by rfl) (Nat.le_of_ble_eq_true rfl) key
  exact hf
theorem dc_X5_namesOf_5 : decode m_X5_namesOf.2.2.1 5 = .ok (.invokestatic 57, 3) := by decide +kernel
theorem dc_X5_namesOf_8 : decode m_X5_namesOf.2.2.1 8 = .ok (.ireturn, 1) := by decide +kernel
theorem ok_X5_namesOf_0_3 : oks m_X5_namesOf.1 m_X5_namesOf.2.2.1 0 [(.aload_n 0, 1, (0, 0, 0)), (.getfield 40, 3, (5, 9, 0)), (.iload_n 1, 1, (0, 0, 0))] = true ∧ plen 0 [(.aload_n 0, 1, (0, 0, 0)), (.getfield 40, 3, (5, 9, 0)), (.iload_n 1, 1, (0, 0, 0))] = 5 := by decide +kernel
def F_X5_namesOf (a1 : Int) (σ : Sg) : Int :=
rdD 0 σ 19 60 a1
theorem lk_X5_namesOf (l : Launch) (d : Nat) (hd : 1 ≤ d) (a1 : Int) (σ : Sg) (q : Int) (h : F_X5_namesOf a1 σ = q) : CT l d m_X5_namesOf.2.1 m_X5_namesOf.2.2.1 m_X5_namesOf.2.2.2.1 m_X5_namesOf.2.2.2.2 [.inr 10, .inl a1] (LAYC, σ) (some (.inl q)) (LAYC, σ) := by
  obtain ⟨d, rfl⟩ : ∃ e, d = e + 1 := ⟨d - 1, by omega⟩
  have key : Go l m_X5_namesOf (d + 1) LAYC (.inl (some (.inl q))) σ 0 [some (.inr 10), some (.inl a1)] [] σ := by
    unfold F_X5_namesOf at h
    refine go_ops ok_X5_namesOf_0_3 (L' := [some (.inr 10), some (.inl a1)]) (st' := [.inl a1, .inr 19]) (σ1 := σ) rfl ?_
    refine go_SN (M1 := m_X10_atOrZero) (as := [.inr 19, .inl a1]) (st := []) dc_X5_namesOf_5 ln_5_57 sm_X10_atOrZero mk_X10_atOrZero rfl (Nat.le_of_ble_eq_true rfl) (Nat.le_refl _) (v := some (.inl (rdD 0 σ 19 60 a1))) (σ1 := σ) (lk_X10_atOrZero l d LAYC 19 60 rfl σ _) _ rfl ?_
    subst h
    exact go_iret dc_X5_namesOf_8 rfl
  have hf := go_ct (as := [.inr 10, .inl a1]) mk_X5_namesOf (by rfl) (Nat.le_of_ble_eq_true rfl) key
  exact hf
theorem dc_X5_binds_1 : decode m_X5_binds.2.2.1 1 = .ok (.invokestatic 70, 3) := by decide +kernel
theorem dc_X5_binds_4 : decode m_X5_binds.2.2.1 4 = .ok (.ifCond .eq 20, 3) := by decide +kernel
theorem dc_X5_binds_9 : decode m_X5_binds.2.2.1 9 = .ok (.invokevirtual 74, 3) := by decide +kernel
theorem dc_X5_binds_17 : decode m_X5_binds.2.2.1 17 = .ok (.if_icmp .ne 7, 3) := by decide +kernel
theorem dc_X5_binds_21 : decode m_X5_binds.2.2.1 21 = .ok (.goto 4, 3) := by decide +kernel
theorem dc_X5_binds_25 : decode m_X5_binds.2.2.1 25 = .ok (.ireturn, 1) := by decide +kernel
theorem ok_X5_binds_0_1 : oks m_X5_binds.1 m_X5_binds.2.2.1 0 [(.iload_n 2, 1, (0, 0, 0))] = true ∧ plen 0 [(.iload_n 2, 1, (0, 0, 0))] = 1 := by decide +kernel
theorem ok_X5_binds_7_2 : oks m_X5_binds.1 m_X5_binds.2.2.1 7 [(.aload_n 0, 1, (0, 0, 0)), (.iload_n 1, 1, (0, 0, 0))] = true ∧ plen 7 [(.aload_n 0, 1, (0, 0, 0)), (.iload_n 1, 1, (0, 0, 0))] = 9 := by decide +kernel
theorem ok_X5_binds_12_5 : oks m_X5_binds.1 m_X5_binds.2.2.1 12 [(.iload_n 2, 1, (0, 0, 0)), (.ishr, 1, (0, 0, 0)), (.iconst 1, 1, (0, 0, 0)), (.iand, 1, (0, 0, 0)), (.iconst 1, 1, (0, 0, 0))] = true ∧ plen 12 [(.iload_n 2, 1, (0, 0, 0)), (.ishr, 1, (0, 0, 0)), (.iconst 1, 1, (0, 0, 0)), (.iand, 1, (0, 0, 0)), (.iconst 1, 1, (0, 0, 0))] = 17 := by decide +kernel
theorem ok_X5_binds_20_1 : oks m_X5_binds.1 m_X5_binds.2.2.1 20 [(.iconst 1, 1, (0, 0, 0))] = true ∧ plen 20 [(.iconst 1, 1, (0, 0, 0))] = 21 := by decide +kernel
theorem ok_X5_binds_24_1 : oks m_X5_binds.1 m_X5_binds.2.2.1 24 [(.iconst 0, 1, (0, 0, 0))] = true ∧ plen 24 [(.iconst 0, 1, (0, 0, 0))] = 25 := by decide +kernel
def F_X5_binds (a1 : Int) (a2 : Int) (σ : Sg) : Bool :=
if (F_X10_isName a2) = true then
if (jand (jshr (F_X5_namesOf a1 σ) a2) 1) = 1 then
true
else
false
else
false
theorem lk_X5_binds (l : Launch) (d : Nat) (hd : 2 ≤ d) (a1 : Int) (a2 : Int) (σ : Sg) (q : Bool) (h : F_X5_binds a1 a2 σ = q) : CT l d m_X5_binds.2.1 m_X5_binds.2.2.1 m_X5_binds.2.2.2.1 m_X5_binds.2.2.2.2 [.inr 10, .inl a1, .inl a2] (LAYC, σ) (some (.inl (b2i q))) (LAYC, σ) := by
  obtain ⟨d, rfl⟩ : ∃ e, d = e + 1 := ⟨d - 1, by omega⟩
  have key : Go l m_X5_binds (d + 1) LAYC (.inl (some (.inl (b2i q)))) σ 0 [some (.inr 10), some (.inl a1), some (.inl a2)] [] σ := by
    unfold F_X5_binds at h
    refine go_ops ok_X5_binds_0_1 (L' := [some (.inr 10), some (.inl a1), some (.inl a2)]) (st' := [.inl a2]) (σ1 := σ) rfl ?_
    refine go_SN (M1 := m_X10_isName) (as := [.inl a2]) (st := []) dc_X5_binds_1 ln_5_70 sm_X10_isName mk_X10_isName rfl (Nat.le_of_ble_eq_true rfl) (Nat.le_refl _) (v := (some (.inl (b2i (F_X10_isName a2))))) (σ1 := σ) (lk_X10_isName l d (by omega) a2 σ _ rfl) _ rfl ?_
    refine go_ifb_eq dc_X5_binds_4 (by rfl) (fun hc => ?_) (fun hc => ?_)
    · replace h := (if_neg hc).symm.trans h
      refine go_ops ok_X5_binds_24_1 (L' := [some (.inr 10), some (.inl a1), some (.inl a2)]) (st' := [.inl 0]) (σ1 := σ) rfl ?_
      subst h
      exact go_zret (x := false) dc_X5_binds_25 rfl
    · replace h := (if_pos hc).symm.trans h
      refine go_ops ok_X5_binds_7_2 (L' := [some (.inr 10), some (.inl a1), some (.inl a2)]) (st' := [.inl a1, .inr 10]) (σ1 := σ) rfl ?_
      refine go_V (M1 := m_X5_namesOf) (as := [.inl a1]) (st := []) (k := 10) (ci := 5) dc_X5_binds_9 ln_5_74 im_X5_namesOf (by decide) rfl rfl mk_X5_namesOf rfl (Nat.le_of_ble_eq_true rfl) (Nat.le_refl _) (v := (some (.inl (F_X5_namesOf a1 σ)))) (σ1 := σ) (lk_X5_namesOf l d (by omega) a1 σ _ rfl) _ rfl ?_
      refine go_ops ok_X5_binds_12_5 (L' := [some (.inr 10), some (.inl a1), some (.inl a2)]) (st' := [.inl 1, .inl (jand (jshr (F_X5_namesOf a1 σ) a2) 1)]) (σ1 := σ) rfl ?_
      refine go_icmp_ne dc_X5_binds_17 (by rfl) (fun hc => ?_) (fun hc => ?_)
      · replace h := (if_neg hc).symm.trans h
        refine go_ops ok_X5_binds_24_1 (L' := [some (.inr 10), some (.inl a1), some (.inl a2)]) (st' := [.inl 0]) (σ1 := σ) rfl ?_
        subst h
        exact go_zret (x := false) dc_X5_binds_25 rfl
      · replace h := (if_pos hc).symm.trans h
        refine go_ops ok_X5_binds_20_1 (L' := [some (.inr 10), some (.inl a1), some (.inl a2)]) (st' := [.inl 1]) (σ1 := σ) rfl ?_
        refine go_goto dc_X5_binds_21 (by rfl) ?_
        subst h
        exact go_zret (x := true) dc_X5_binds_25 rfl
  have hf := go_ct (as := [.inr 10, .inl a1, .inl a2]) mk_X5_binds (by rfl) (Nat.le_of_ble_eq_true rfl) key
  exact hf
theorem dc_X5_bindApart_2 : decode m_X5_bindApart.2.2.1 2 = .ok (.invokevirtual 74, 3) := by decide +kernel
theorem dc_X5_bindApart_9 : decode m_X5_bindApart.2.2.1 9 = .ok (.invokevirtual 74, 3) := by decide +kernel
theorem dc_X5_bindApart_16 : decode m_X5_bindApart.2.2.1 16 = .ok (.invokevirtual 74, 3) := by decide +kernel
theorem dc_X5_bindApart_26 : decode m_X5_bindApart.2.2.1 26 = .ok (.ifCond .ne 23, 3) := by decide +kernel
theorem dc_X5_bindApart_34 : decode m_X5_bindApart.2.2.1 34 = .ok (.ifCond .ne 15, 3) := by decide +kernel
theorem dc_X5_bindApart_42 : decode m_X5_bindApart.2.2.1 42 = .ok (.ifCond .ne 7, 3) := by decide +kernel
theorem dc_X5_bindApart_46 : decode m_X5_bindApart.2.2.1 46 = .ok (.goto 4, 3) := by decide +kernel
theorem dc_X5_bindApart_50 : decode m_X5_bindApart.2.2.1 50 = .ok (.ireturn, 1) := by decide +kernel
theorem ok_X5_bindApart_0_2 : oks m_X5_bindApart.1 m_X5_bindApart.2.2.1 0 [(.aload_n 0, 1, (0, 0, 0)), (.iload_n 1, 1, (0, 0, 0))] = true ∧ plen 0 [(.aload_n 0, 1, (0, 0, 0)), (.iload_n 1, 1, (0, 0, 0))] = 2 := by decide +kernel
theorem ok_X5_bindApart_5_3 : oks m_X5_bindApart.1 m_X5_bindApart.2.2.1 5 [(.istore 4, 2, (0, 0, 0)), (.aload_n 0, 1, (0, 0, 0)), (.iload_n 2, 1, (0, 0, 0))] = true ∧ plen 5 [(.istore 4, 2, (0, 0, 0)), (.aload_n 0, 1, (0, 0, 0)), (.iload_n 2, 1, (0, 0, 0))] = 9 := by decide +kernel
theorem ok_X5_bindApart_12_3 : oks m_X5_bindApart.1 m_X5_bindApart.2.2.1 12 [(.istore 5, 2, (0, 0, 0)), (.aload_n 0, 1, (0, 0, 0)), (.iload_n 3, 1, (0, 0, 0))] = true ∧ plen 12 [(.istore 5, 2, (0, 0, 0)), (.aload_n 0, 1, (0, 0, 0)), (.iload_n 3, 1, (0, 0, 0))] = 16 := by decide +kernel
theorem ok_X5_bindApart_19_4 : oks m_X5_bindApart.1 m_X5_bindApart.2.2.1 19 [(.istore 6, 2, (0, 0, 0)), (.iload 4, 2, (0, 0, 0)), (.iload 5, 2, (0, 0, 0)), (.iand, 1, (0, 0, 0))] = true ∧ plen 19 [(.istore 6, 2, (0, 0, 0)), (.iload 4, 2, (0, 0, 0)), (.iload 5, 2, (0, 0, 0)), (.iand, 1, (0, 0, 0))] = 26 := by decide +kernel
theorem ok_X5_bindApart_29_3 : oks m_X5_bindApart.1 m_X5_bindApart.2.2.1 29 [(.iload 4, 2, (0, 0, 0)), (.iload 6, 2, (0, 0, 0)), (.iand, 1, (0, 0, 0))] = true ∧ plen 29 [(.iload 4, 2, (0, 0, 0)), (.iload 6, 2, (0, 0, 0)), (.iand, 1, (0, 0, 0))] = 34 := by decide +kernel
theorem ok_X5_bindApart_37_3 : oks m_X5_bindApart.1 m_X5_bindApart.2.2.1 37 [(.iload 5, 2, (0, 0, 0)), (.iload 6, 2, (0, 0, 0)), (.iand, 1, (0, 0, 0))] = true ∧ plen 37 [(.iload 5, 2, (0, 0, 0)), (.iload 6, 2, (0, 0, 0)), (.iand, 1, (0, 0, 0))] = 42 := by decide +kernel
theorem ok_X5_bindApart_45_1 : oks m_X5_bindApart.1 m_X5_bindApart.2.2.1 45 [(.iconst 1, 1, (0, 0, 0))] = true ∧ plen 45 [(.iconst 1, 1, (0, 0, 0))] = 46 := by decide +kernel
theorem ok_X5_bindApart_49_1 : oks m_X5_bindApart.1 m_X5_bindApart.2.2.1 49 [(.iconst 0, 1, (0, 0, 0))] = true ∧ plen 49 [(.iconst 0, 1, (0, 0, 0))] = 50 := by decide +kernel
def F_X5_bindApart (a1 : Int) (a2 : Int) (a3 : Int) (σ : Sg) : Bool :=
bnd (F_X5_namesOf a1 σ) fun v1 =>
bnd (F_X5_namesOf a2 σ) fun v3 =>
bnd (F_X5_namesOf a3 σ) fun v5 =>
if (jand v1 v3) = 0 then
if (jand v1 v5) = 0 then
if (jand v3 v5) = 0 then
true
else
false
else
false
else
false
theorem lk_X5_bindApart (l : Launch) (d : Nat) (hd : 2 ≤ d) (a1 : Int) (a2 : Int) (a3 : Int) (σ : Sg) (q : Bool) (h : F_X5_bindApart a1 a2 a3 σ = q) : CT l d m_X5_bindApart.2.1 m_X5_bindApart.2.2.1 m_X5_bindApart.2.2.2.1 m_X5_bindApart.2.2.2.2 [.inr 10, .inl a1, .inl a2, .inl a3] (LAYC, σ) (some (.inl (b2i q))) (LAYC, σ) := by
  obtain ⟨d, rfl⟩ : ∃ e, d = e + 1 := ⟨d - 1, by omega⟩
  have key : Go l m_X5_bindApart (d + 1) LAYC (.inl (some (.inl (b2i q)))) σ 0 [some (.inr 10), some (.inl a1), some (.inl a2), some (.inl a3), none, none, none] [] σ := by
    unfold F_X5_bindApart at h
    refine go_ops ok_X5_bindApart_0_2 (L' := [some (.inr 10), some (.inl a1), some (.inl a2), some (.inl a3), none, none, none]) (st' := [.inl a1, .inr 10]) (σ1 := σ) rfl ?_
    refine go_V (M1 := m_X5_namesOf) (as := [.inl a1]) (st := []) (k := 10) (ci := 5) dc_X5_bindApart_2 ln_5_74 im_X5_namesOf (by decide) rfl rfl mk_X5_namesOf rfl (Nat.le_of_ble_eq_true rfl) (Nat.le_refl _) (v := (some (.inl (F_X5_namesOf a1 σ)))) (σ1 := σ) (lk_X5_namesOf l d (by omega) a1 σ _ rfl) _ rfl ?_
    obtain ⟨v1, e2, h⟩ := bnd_inv h
    refine go_ops ok_X5_bindApart_5_3 (L' := [some (.inr 10), some (.inl a1), some (.inl a2), some (.inl a3), some (.inl v1), none, none]) (st' := [.inl a2, .inr 10]) (σ1 := σ) (by subst e2; rfl) ?_
    refine go_V (M1 := m_X5_namesOf) (as := [.inl a2]) (st := []) (k := 10) (ci := 5) dc_X5_bindApart_9 ln_5_74 im_X5_namesOf (by decide) rfl rfl mk_X5_namesOf rfl (Nat.le_of_ble_eq_true rfl) (Nat.le_refl _) (v := (some (.inl (F_X5_namesOf a2 σ)))) (σ1 := σ) (lk_X5_namesOf l d (by omega) a2 σ _ rfl) _ rfl ?_
    obtain ⟨v3, e4, h⟩ := bnd_inv h
    refine go_ops ok_X5_bindApart_12_3 (L' := [some (.inr 10), some (.inl a1), some (.inl a2), some (.inl a3), some (.inl v1), some (.inl v3), none]) (st' := [.inl a3, .inr 10]) (σ1 := σ) (by subst e4; rfl) ?_
    refine go_V (M1 := m_X5_namesOf) (as := [.inl a3]) (st := []) (k := 10) (ci := 5) dc_X5_bindApart_16 ln_5_74 im_X5_namesOf (by decide) rfl rfl mk_X5_namesOf rfl (Nat.le_of_ble_eq_true rfl) (Nat.le_refl _) (v := (some (.inl (F_X5_namesOf a3 σ)))) (σ1 := σ) (lk_X5_namesOf l d (by omega) a3 σ _ rfl) _ rfl ?_
    obtain ⟨v5, e6, h⟩ := bnd_inv h
    refine go_ops ok_X5_bindApart_19_4 (L' := [some (.inr 10), some (.inl a1), some (.inl a2), some (.inl a3), some (.inl v1), some (.inl v3), some (.inl v5)]) (st' := [.inl (jand v1 v3)]) (σ1 := σ) (by subst e6; rfl) ?_
    refine go_if_ne dc_X5_bindApart_26 (by rfl) (fun hc => ?_) (fun hc => ?_)
    · replace h := (if_neg hc).symm.trans h
      refine go_ops ok_X5_bindApart_49_1 (L' := [some (.inr 10), some (.inl a1), some (.inl a2), some (.inl a3), some (.inl v1), some (.inl v3), some (.inl v5)]) (st' := [.inl 0]) (σ1 := σ) rfl ?_
      subst h
      exact go_zret (x := false) dc_X5_bindApart_50 rfl
    · replace h := (if_pos hc).symm.trans h
      refine go_ops ok_X5_bindApart_29_3 (L' := [some (.inr 10), some (.inl a1), some (.inl a2), some (.inl a3), some (.inl v1), some (.inl v3), some (.inl v5)]) (st' := [.inl (jand v1 v5)]) (σ1 := σ) rfl ?_
      refine go_if_ne dc_X5_bindApart_34 (by rfl) (fun hc => ?_) (fun hc => ?_)
      · replace h := (if_neg hc).symm.trans h
        refine go_ops ok_X5_bindApart_49_1 (L' := [some (.inr 10), some (.inl a1), some (.inl a2), some (.inl a3), some (.inl v1), some (.inl v3), some (.inl v5)]) (st' := [.inl 0]) (σ1 := σ) rfl ?_
        subst h
        exact go_zret (x := false) dc_X5_bindApart_50 rfl
      · replace h := (if_pos hc).symm.trans h
        refine go_ops ok_X5_bindApart_37_3 (L' := [some (.inr 10), some (.inl a1), some (.inl a2), some (.inl a3), some (.inl v1), some (.inl v3), some (.inl v5)]) (st' := [.inl (jand v3 v5)]) (σ1 := σ) rfl ?_
        refine go_if_ne dc_X5_bindApart_42 (by rfl) (fun hc => ?_) (fun hc => ?_)
        · replace h := (if_neg hc).symm.trans h
          refine go_ops ok_X5_bindApart_49_1 (L' := [some (.inr 10), some (.inl a1), some (.inl a2), some (.inl a3), some (.inl v1), some (.inl v3), some (.inl v5)]) (st' := [.inl 0]) (σ1 := σ) rfl ?_
          subst h
          exact go_zret (x := false) dc_X5_bindApart_50 rfl
        · replace h := (if_pos hc).symm.trans h
          refine go_ops ok_X5_bindApart_45_1 (L' := [some (.inr 10), some (.inl a1), some (.inl a2), some (.inl a3), some (.inl v1), some (.inl v3), some (.inl v5)]) (st' := [.inl 1]) (σ1 := σ) rfl ?_
          refine go_goto dc_X5_bindApart_46 (by rfl) ?_
          subst h
          exact go_zret (x := true) dc_X5_bindApart_50 rfl
  have hf := go_ct (as := [.inr 10, .inl a1, .inl a2, .inl a3]) mk_X5_bindApart (by rfl) (Nat.le_of_ble_eq_true rfl) key
  exact hf
theorem dc_X5_sizeOf_5 : decode m_X5_sizeOf.2.2.1 5 = .ok (.invokestatic 57, 3) := by decide +kernel
theorem dc_X5_sizeOf_8 : decode m_X5_sizeOf.2.2.1 8 = .ok (.ireturn, 1) := by decide +kernel
theorem ok_X5_sizeOf_0_3 : oks m_X5_sizeOf.1 m_X5_sizeOf.2.2.1 0 [(.aload_n 0, 1, (0, 0, 0)), (.getfield 37, 3, (5, 8, 0)), (.iload_n 1, 1, (0, 0, 0))] = true ∧ plen 0 [(.aload_n 0, 1, (0, 0, 0)), (.getfield 37, 3, (5, 8, 0)), (.iload_n 1, 1, (0, 0, 0))] = 5 := by decide +kernel
def F_X5_sizeOf (a1 : Int) (σ : Sg) : Int :=
rdD 0 σ 18 60 a1
theorem lk_X5_sizeOf (l : Launch) (d : Nat) (hd : 1 ≤ d) (a1 : Int) (σ : Sg) (q : Int) (h : F_X5_sizeOf a1 σ = q) : CT l d m_X5_sizeOf.2.1 m_X5_sizeOf.2.2.1 m_X5_sizeOf.2.2.2.1 m_X5_sizeOf.2.2.2.2 [.inr 10, .inl a1] (LAYC, σ) (some (.inl q)) (LAYC, σ) := by
  obtain ⟨d, rfl⟩ : ∃ e, d = e + 1 := ⟨d - 1, by omega⟩
  have key : Go l m_X5_sizeOf (d + 1) LAYC (.inl (some (.inl q))) σ 0 [some (.inr 10), some (.inl a1)] [] σ := by
    unfold F_X5_sizeOf at h
    refine go_ops ok_X5_sizeOf_0_3 (L' := [some (.inr 10), some (.inl a1)]) (st' := [.inl a1, .inr 18]) (σ1 := σ) rfl ?_
    refine go_SN (M1 := m_X10_atOrZero) (as := [.inr 18, .inl a1]) (st := []) dc_X5_sizeOf_5 ln_5_57 sm_X10_atOrZero mk_X10_atOrZero rfl (Nat.le_of_ble_eq_true rfl) (Nat.le_refl _) (v := some (.inl (rdD 0 σ 18 60 a1))) (σ1 := σ) (lk_X10_atOrZero l d LAYC 18 60 rfl σ _) _ rfl ?_
    subst h
    exact go_iret dc_X5_sizeOf_8 rfl
  have hf := go_ct (as := [.inr 10, .inl a1]) mk_X5_sizeOf (by rfl) (Nat.le_of_ble_eq_true rfl) key
  exact hf
theorem dc_X5_isSmall_3 : decode m_X5_isSmall.2.2.1 3 = .ok (.invokevirtual 77, 3) := by decide +kernel
theorem dc_X5_isSmall_9 : decode m_X5_isSmall.2.2.1 9 = .ok (.invokevirtual 77, 3) := by decide +kernel
theorem dc_X5_isSmall_15 : decode m_X5_isSmall.2.2.1 15 = .ok (.invokevirtual 77, 3) := by decide +kernel
theorem dc_X5_isSmall_21 : decode m_X5_isSmall.2.2.1 21 = .ok (.if_icmp .gt 7, 3) := by decide +kernel
theorem dc_X5_isSmall_25 : decode m_X5_isSmall.2.2.1 25 = .ok (.goto 4, 3) := by decide +kernel
theorem dc_X5_isSmall_29 : decode m_X5_isSmall.2.2.1 29 = .ok (.ireturn, 1) := by decide +kernel
theorem ok_X5_isSmall_0_3 : oks m_X5_isSmall.1 m_X5_isSmall.2.2.1 0 [(.iconst 1, 1, (0, 0, 0)), (.aload_n 0, 1, (0, 0, 0)), (.iload_n 1, 1, (0, 0, 0))] = true ∧ plen 0 [(.iconst 1, 1, (0, 0, 0)), (.aload_n 0, 1, (0, 0, 0)), (.iload_n 1, 1, (0, 0, 0))] = 3 := by decide +kernel
theorem ok_X5_isSmall_6_3 : oks m_X5_isSmall.1 m_X5_isSmall.2.2.1 6 [(.iadd, 1, (0, 0, 0)), (.aload_n 0, 1, (0, 0, 0)), (.iload_n 2, 1, (0, 0, 0))] = true ∧ plen 6 [(.iadd, 1, (0, 0, 0)), (.aload_n 0, 1, (0, 0, 0)), (.iload_n 2, 1, (0, 0, 0))] = 9 := by decide +kernel
theorem ok_X5_isSmall_12_3 : oks m_X5_isSmall.1 m_X5_isSmall.2.2.1 12 [(.iadd, 1, (0, 0, 0)), (.aload_n 0, 1, (0, 0, 0)), (.iload_n 3, 1, (0, 0, 0))] = true ∧ plen 12 [(.iadd, 1, (0, 0, 0)), (.aload_n 0, 1, (0, 0, 0)), (.iload_n 3, 1, (0, 0, 0))] = 15 := by decide +kernel
theorem ok_X5_isSmall_18_2 : oks m_X5_isSmall.1 m_X5_isSmall.2.2.1 18 [(.iadd, 1, (0, 0, 0)), (.bipush 40, 2, (0, 0, 0))] = true ∧ plen 18 [(.iadd, 1, (0, 0, 0)), (.bipush 40, 2, (0, 0, 0))] = 21 := by decide +kernel
theorem ok_X5_isSmall_24_1 : oks m_X5_isSmall.1 m_X5_isSmall.2.2.1 24 [(.iconst 1, 1, (0, 0, 0))] = true ∧ plen 24 [(.iconst 1, 1, (0, 0, 0))] = 25 := by decide +kernel
theorem ok_X5_isSmall_28_1 : oks m_X5_isSmall.1 m_X5_isSmall.2.2.1 28 [(.iconst 0, 1, (0, 0, 0))] = true ∧ plen 28 [(.iconst 0, 1, (0, 0, 0))] = 29 := by decide +kernel
def F_X5_isSmall (a1 : Int) (a2 : Int) (a3 : Int) (σ : Sg) : Bool :=
if 40 < (wrap ((wrap ((wrap (1 + (F_X5_sizeOf a1 σ))) + (F_X5_sizeOf a2 σ))) + (F_X5_sizeOf a3 σ))) then
false
else
true
theorem lk_X5_isSmall (l : Launch) (d : Nat) (hd : 2 ≤ d) (a1 : Int) (a2 : Int) (a3 : Int) (σ : Sg) (q : Bool) (h : F_X5_isSmall a1 a2 a3 σ = q) : CT l d m_X5_isSmall.2.1 m_X5_isSmall.2.2.1 m_X5_isSmall.2.2.2.1 m_X5_isSmall.2.2.2.2 [.inr 10, .inl a1, .inl a2, .inl a3] (LAYC, σ) (some (.inl (b2i q))) (LAYC, σ) := by
  obtain ⟨d, rfl⟩ : ∃ e, d = e + 1 := ⟨d - 1, by omega⟩
  have key : Go l m_X5_isSmall (d + 1) LAYC (.inl (some (.inl (b2i q)))) σ 0 [some (.inr 10), some (.inl a1), some (.inl a2), some (.inl a3)] [] σ := by
    unfold F_X5_isSmall at h
    refine go_ops ok_X5_isSmall_0_3 (L' := [some (.inr 10), some (.inl a1), some (.inl a2), some (.inl a3)]) (st' := [.inl a1, .inr 10, .inl 1]) (σ1 := σ) rfl ?_
    refine go_V (M1 := m_X5_sizeOf) (as := [.inl a1]) (st := [.inl 1]) (k := 10) (ci := 5) dc_X5_isSmall_3 ln_5_77 im_X5_sizeOf (by decide) rfl rfl mk_X5_sizeOf rfl (Nat.le_of_ble_eq_true rfl) (Nat.le_refl _) (v := (some (.inl (F_X5_sizeOf a1 σ)))) (σ1 := σ) (lk_X5_sizeOf l d (by omega) a1 σ _ rfl) _ rfl ?_
    refine go_ops ok_X5_isSmall_6_3 (L' := [some (.inr 10), some (.inl a1), some (.inl a2), some (.inl a3)]) (st' := [.inl a2, .inr 10, .inl (wrap (1 + (F_X5_sizeOf a1 σ)))]) (σ1 := σ) rfl ?_
    refine go_V (M1 := m_X5_sizeOf) (as := [.inl a2]) (st := [.inl (wrap (1 + (F_X5_sizeOf a1 σ)))]) (k := 10) (ci := 5) dc_X5_isSmall_9 ln_5_77 im_X5_sizeOf (by decide) rfl rfl mk_X5_sizeOf rfl (Nat.le_of_ble_eq_true rfl) (Nat.le_refl _) (v := (some (.inl (F_X5_sizeOf a2 σ)))) (σ1 := σ) (lk_X5_sizeOf l d (by omega) a2 σ _ rfl) _ rfl ?_
    refine go_ops ok_X5_isSmall_12_3 (L' := [some (.inr 10), some (.inl a1), some (.inl a2), some (.inl a3)]) (st' := [.inl a3, .inr 10, .inl (wrap ((wrap (1 + (F_X5_sizeOf a1 σ))) + (F_X5_sizeOf a2 σ)))]) (σ1 := σ) rfl ?_
    refine go_V (M1 := m_X5_sizeOf) (as := [.inl a3]) (st := [.inl (wrap ((wrap (1 + (F_X5_sizeOf a1 σ))) + (F_X5_sizeOf a2 σ)))]) (k := 10) (ci := 5) dc_X5_isSmall_15 ln_5_77 im_X5_sizeOf (by decide) rfl rfl mk_X5_sizeOf rfl (Nat.le_of_ble_eq_true rfl) (Nat.le_refl _) (v := (some (.inl (F_X5_sizeOf a3 σ)))) (σ1 := σ) (lk_X5_sizeOf l d (by omega) a3 σ _ rfl) _ rfl ?_
    refine go_ops ok_X5_isSmall_18_2 (L' := [some (.inr 10), some (.inl a1), some (.inl a2), some (.inl a3)]) (st' := [.inl 40, .inl (wrap ((wrap ((wrap (1 + (F_X5_sizeOf a1 σ))) + (F_X5_sizeOf a2 σ))) + (F_X5_sizeOf a3 σ)))]) (σ1 := σ) rfl ?_
    refine go_icmp_gt dc_X5_isSmall_21 (by rfl) (fun hc => ?_) (fun hc => ?_)
    · replace h := (if_pos hc).symm.trans h
      refine go_ops ok_X5_isSmall_28_1 (L' := [some (.inr 10), some (.inl a1), some (.inl a2), some (.inl a3)]) (st' := [.inl 0]) (σ1 := σ) rfl ?_
      subst h
      exact go_zret (x := false) dc_X5_isSmall_29 rfl
    · replace h := (if_neg hc).symm.trans h
      refine go_ops ok_X5_isSmall_24_1 (L' := [some (.inr 10), some (.inl a1), some (.inl a2), some (.inl a3)]) (st' := [.inl 1]) (σ1 := σ) rfl ?_
      refine go_goto dc_X5_isSmall_25 (by rfl) ?_
      subst h
      exact go_zret (x := true) dc_X5_isSmall_29 rfl
  have hf := go_ct (as := [.inr 10, .inl a1, .inl a2, .inl a3]) mk_X5_isSmall (by rfl) (Nat.le_of_ble_eq_true rfl) key
  exact hf
theorem dc_X5_depthOf_5 : decode m_X5_depthOf.2.2.1 5 = .ok (.invokestatic 57, 3) := by decide +kernel
theorem dc_X5_depthOf_8 : decode m_X5_depthOf.2.2.1 8 = .ok (.ireturn, 1) := by decide +kernel
theorem ok_X5_depthOf_0_3 : oks m_X5_depthOf.1 m_X5_depthOf.2.2.1 0 [(.aload_n 0, 1, (0, 0, 0)), (.getfield 34, 3, (5, 7, 0)), (.iload_n 1, 1, (0, 0, 0))] = true ∧ plen 0 [(.aload_n 0, 1, (0, 0, 0)), (.getfield 34, 3, (5, 7, 0)), (.iload_n 1, 1, (0, 0, 0))] = 5 := by decide +kernel
def F_X5_depthOf (a1 : Int) (σ : Sg) : Int :=
rdD 0 σ 17 60 a1
theorem lk_X5_depthOf (l : Launch) (d : Nat) (hd : 1 ≤ d) (a1 : Int) (σ : Sg) (q : Int) (h : F_X5_depthOf a1 σ = q) : CT l d m_X5_depthOf.2.1 m_X5_depthOf.2.2.1 m_X5_depthOf.2.2.2.1 m_X5_depthOf.2.2.2.2 [.inr 10, .inl a1] (LAYC, σ) (some (.inl q)) (LAYC, σ) := by
  obtain ⟨d, rfl⟩ : ∃ e, d = e + 1 := ⟨d - 1, by omega⟩
  have key : Go l m_X5_depthOf (d + 1) LAYC (.inl (some (.inl q))) σ 0 [some (.inr 10), some (.inl a1)] [] σ := by
    unfold F_X5_depthOf at h
    refine go_ops ok_X5_depthOf_0_3 (L' := [some (.inr 10), some (.inl a1)]) (st' := [.inl a1, .inr 17]) (σ1 := σ) rfl ?_
    refine go_SN (M1 := m_X10_atOrZero) (as := [.inr 17, .inl a1]) (st := []) dc_X5_depthOf_5 ln_5_57 sm_X10_atOrZero mk_X10_atOrZero rfl (Nat.le_of_ble_eq_true rfl) (Nat.le_refl _) (v := some (.inl (rdD 0 σ 17 60 a1))) (σ1 := σ) (lk_X10_atOrZero l d LAYC 17 60 rfl σ _) _ rfl ?_
    subst h
    exact go_iret dc_X5_depthOf_8 rfl
  have hf := go_ct (as := [.inr 10, .inl a1]) mk_X5_depthOf (by rfl) (Nat.le_of_ble_eq_true rfl) key
  exact hf
theorem dc_J9_max_7cf53_2 : decode m_J9_max_7cf53.2.2.1 2 = .ok (.if_icmp .lt 7, 3) := by decide +kernel
theorem dc_J9_max_7cf53_6 : decode m_J9_max_7cf53.2.2.1 6 = .ok (.goto 4, 3) := by decide +kernel
theorem dc_J9_max_7cf53_10 : decode m_J9_max_7cf53.2.2.1 10 = .ok (.ireturn, 1) := by decide +kernel
theorem ok_J9_max_7cf53_0_2 : oks m_J9_max_7cf53.1 m_J9_max_7cf53.2.2.1 0 [(.iload_n 0, 1, (0, 0, 0)), (.iload_n 1, 1, (0, 0, 0))] = true ∧ plen 0 [(.iload_n 0, 1, (0, 0, 0)), (.iload_n 1, 1, (0, 0, 0))] = 2 := by decide +kernel
theorem ok_J9_max_7cf53_5_1 : oks m_J9_max_7cf53.1 m_J9_max_7cf53.2.2.1 5 [(.iload_n 0, 1, (0, 0, 0))] = true ∧ plen 5 [(.iload_n 0, 1, (0, 0, 0))] = 6 := by decide +kernel
theorem ok_J9_max_7cf53_9_1 : oks m_J9_max_7cf53.1 m_J9_max_7cf53.2.2.1 9 [(.iload_n 1, 1, (0, 0, 0))] = true ∧ plen 9 [(.iload_n 1, 1, (0, 0, 0))] = 10 := by decide +kernel
def F_J9_max_7cf53 (a0 : Int) (a1 : Int) : Int :=
if a0 < a1 then
a1
else
a0
theorem lk_J9_max_7cf53 (l : Launch) (d : Nat) (hd : 0 ≤ d) (a0 : Int) (a1 : Int) (σ : Sg) (q : Int) (h : F_J9_max_7cf53 a0 a1 = q) : CT l d m_J9_max_7cf53.2.1 m_J9_max_7cf53.2.2.1 m_J9_max_7cf53.2.2.2.1 m_J9_max_7cf53.2.2.2.2 [.inl a0, .inl a1] (LAYC, σ) (some (.inl q)) (LAYC, σ) := by
  skip
  have key : Go l m_J9_max_7cf53 d LAYC (.inl (some (.inl q))) σ 0 [some (.inl a0), some (.inl a1)] [] σ := by
    unfold F_J9_max_7cf53 at h
    refine go_ops ok_J9_max_7cf53_0_2 (L' := [some (.inl a0), some (.inl a1)]) (st' := [.inl a1, .inl a0]) (σ1 := σ) rfl ?_
    refine go_icmp_lt dc_J9_max_7cf53_2 (by rfl) (fun hc => ?_) (fun hc => ?_)
    · replace h := (if_pos hc).symm.trans h
      refine go_ops ok_J9_max_7cf53_9_1 (L' := [some (.inl a0), some (.inl a1)]) (st' := [.inl a1]) (σ1 := σ) rfl ?_
      subst h
      exact go_iret dc_J9_max_7cf53_10 rfl
    · replace h := (if_neg hc).symm.trans h
      refine go_ops ok_J9_max_7cf53_5_1 (L' := [some (.inl a0), some (.inl a1)]) (st' := [.inl a0]) (σ1 := σ) rfl ?_
      refine go_goto dc_J9_max_7cf53_6 (by rfl) ?_
      subst h
      exact go_iret dc_J9_max_7cf53_10 rfl
  have hf := go_ct (as := [.inl a0, .inl a1]) mk_J9_max_7cf53 (by rfl) (Nat.le_of_ble_eq_true rfl) key
  exact hf
theorem dc_X5_deepest_2 : decode m_X5_deepest.2.2.1 2 = .ok (.invokevirtual 121, 3) := by decide +kernel
theorem dc_X5_deepest_7 : decode m_X5_deepest.2.2.1 7 = .ok (.invokevirtual 121, 3) := by decide +kernel
theorem dc_X5_deepest_12 : decode m_X5_deepest.2.2.1 12 = .ok (.invokevirtual 121, 3) := by decide +kernel
theorem dc_X5_deepest_15 : decode m_X5_deepest.2.2.1 15 = .ok (.invokestatic 124, 3) := by decide +kernel
theorem dc_X5_deepest_18 : decode m_X5_deepest.2.2.1 18 = .ok (.invokestatic 124, 3) := by decide +kernel
theorem dc_X5_deepest_21 : decode m_X5_deepest.2.2.1 21 = .ok (.ireturn, 1) := by decide +kernel
theorem ok_X5_deepest_0_2 : oks m_X5_deepest.1 m_X5_deepest.2.2.1 0 [(.aload_n 0, 1, (0, 0, 0)), (.iload_n 1, 1, (0, 0, 0))] = true ∧ plen 0 [(.aload_n 0, 1, (0, 0, 0)), (.iload_n 1, 1, (0, 0, 0))] = 2 := by decide +kernel
theorem ok_X5_deepest_5_2 : oks m_X5_deepest.1 m_X5_deepest.2.2.1 5 [(.aload_n 0, 1, (0, 0, 0)), (.iload_n 2, 1, (0, 0, 0))] = true ∧ plen 5 [(.aload_n 0, 1, (0, 0, 0)), (.iload_n 2, 1, (0, 0, 0))] = 7 := by decide +kernel
theorem ok_X5_deepest_10_2 : oks m_X5_deepest.1 m_X5_deepest.2.2.1 10 [(.aload_n 0, 1, (0, 0, 0)), (.iload_n 3, 1, (0, 0, 0))] = true ∧ plen 10 [(.aload_n 0, 1, (0, 0, 0)), (.iload_n 3, 1, (0, 0, 0))] = 12 := by decide +kernel
def F_X5_deepest (a1 : Int) (a2 : Int) (a3 : Int) (σ : Sg) : Int :=
F_J9_max_7cf53 (F_X5_depthOf a1 σ) (F_J9_max_7cf53 (F_X5_depthOf a2 σ) (F_X5_depthOf a3 σ))
theorem lk_X5_deepest (l : Launch) (d : Nat) (hd : 2 ≤ d) (a1 : Int) (a2 : Int) (a3 : Int) (σ : Sg) (q : Int) (h : F_X5_deepest a1 a2 a3 σ = q) : CT l d m_X5_deepest.2.1 m_X5_deepest.2.2.1 m_X5_deepest.2.2.2.1 m_X5_deepest.2.2.2.2 [.inr 10, .inl a1, .inl a2, .inl a3] (LAYC, σ) (some (.inl q)) (LAYC, σ) := by
  obtain ⟨d, rfl⟩ : ∃ e, d = e + 1 := ⟨d - 1, by omega⟩
  have key : Go l m_X5_deepest (d + 1) LAYC (.inl (some (.inl q))) σ 0 [some (.inr 10), some (.inl a1), some (.inl a2), some (.inl a3)] [] σ := by
    unfold F_X5_deepest at h
    refine go_ops ok_X5_deepest_0_2 (L' := [some (.inr 10), some (.inl a1), some (.inl a2), some (.inl a3)]) (st' := [.inl a1, .inr 10]) (σ1 := σ) rfl ?_
    refine go_V (M1 := m_X5_depthOf) (as := [.inl a1]) (st := []) (k := 10) (ci := 5) dc_X5_deepest_2 ln_5_121 im_X5_depthOf (by decide) rfl rfl mk_X5_depthOf rfl (Nat.le_of_ble_eq_true rfl) (Nat.le_refl _) (v := (some (.inl (F_X5_depthOf a1 σ)))) (σ1 := σ) (lk_X5_depthOf l d (by omega) a1 σ _ rfl) _ rfl ?_
    refine go_ops ok_X5_deepest_5_2 (L' := [some (.inr 10), some (.inl a1), some (.inl a2), some (.inl a3)]) (st' := [.inl a2, .inr 10, .inl (F_X5_depthOf a1 σ)]) (σ1 := σ) rfl ?_
    refine go_V (M1 := m_X5_depthOf) (as := [.inl a2]) (st := [.inl (F_X5_depthOf a1 σ)]) (k := 10) (ci := 5) dc_X5_deepest_7 ln_5_121 im_X5_depthOf (by decide) rfl rfl mk_X5_depthOf rfl (Nat.le_of_ble_eq_true rfl) (Nat.le_refl _) (v := (some (.inl (F_X5_depthOf a2 σ)))) (σ1 := σ) (lk_X5_depthOf l d (by omega) a2 σ _ rfl) _ rfl ?_
    refine go_ops ok_X5_deepest_10_2 (L' := [some (.inr 10), some (.inl a1), some (.inl a2), some (.inl a3)]) (st' := [.inl a3, .inr 10, .inl (F_X5_depthOf a2 σ), .inl (F_X5_depthOf a1 σ)]) (σ1 := σ) rfl ?_
    refine go_V (M1 := m_X5_depthOf) (as := [.inl a3]) (st := [.inl (F_X5_depthOf a2 σ), .inl (F_X5_depthOf a1 σ)]) (k := 10) (ci := 5) dc_X5_deepest_12 ln_5_121 im_X5_depthOf (by decide) rfl rfl mk_X5_depthOf rfl (Nat.le_of_ble_eq_true rfl) (Nat.le_refl _) (v := (some (.inl (F_X5_depthOf a3 σ)))) (σ1 := σ) (lk_X5_depthOf l d (by omega) a3 σ _ rfl) _ rfl ?_
    refine go_S (M1 := m_J9_max_7cf53) (as := [.inl (F_X5_depthOf a2 σ), .inl (F_X5_depthOf a3 σ)]) (st := [.inl (F_X5_depthOf a1 σ)]) dc_X5_deepest_15 ln_5_124 sm_J9_max_7cf53 mk_J9_max_7cf53 rfl (Nat.le_of_ble_eq_true rfl) (Nat.le_refl _) (v := (some (.inl (F_J9_max_7cf53 (F_X5_depthOf a2 σ) (F_X5_depthOf a3 σ))))) (σ1 := σ) (lk_J9_max_7cf53 l d (by omega) (F_X5_depthOf a2 σ) (F_X5_depthOf a3 σ) σ _ rfl) _ rfl ?_
    refine go_S (M1 := m_J9_max_7cf53) (as := [.inl (F_X5_depthOf a1 σ), .inl (F_J9_max_7cf53 (F_X5_depthOf a2 σ) (F_X5_depthOf a3 σ))]) (st := []) dc_X5_deepest_18 ln_5_124 sm_J9_max_7cf53 mk_J9_max_7cf53 rfl (Nat.le_of_ble_eq_true rfl) (Nat.le_refl _) (v := (some (.inl (F_J9_max_7cf53 (F_X5_depthOf a1 σ) (F_J9_max_7cf53 (F_X5_depthOf a2 σ) (F_X5_depthOf a3 σ)))))) (σ1 := σ) (lk_J9_max_7cf53 l d (by omega) (F_X5_depthOf a1 σ) (F_J9_max_7cf53 (F_X5_depthOf a2 σ) (F_X5_depthOf a3 σ)) σ _ rfl) _ rfl ?_
    subst h
    exact go_iret dc_X5_deepest_21 rfl
  have hf := go_ct (as := [.inr 10, .inl a1, .inl a2, .inl a3]) mk_X5_deepest (by rfl) (Nat.le_of_ble_eq_true rfl) key
  exact hf
theorem dc_X5_canBeParts_4 : decode m_X5_canBeParts.2.2.1 4 = .ok (.invokevirtual 80, 3) := by decide +kernel
theorem dc_X5_canBeParts_7 : decode m_X5_canBeParts.2.2.1 7 = .ok (.ifCond .eq 28, 3) := by decide +kernel
theorem dc_X5_canBeParts_14 : decode m_X5_canBeParts.2.2.1 14 = .ok (.invokevirtual 83, 3) := by decide +kernel
theorem dc_X5_canBeParts_17 : decode m_X5_canBeParts.2.2.1 17 = .ok (.ifCond .eq 18, 3) := by decide +kernel
theorem dc_X5_canBeParts_24 : decode m_X5_canBeParts.2.2.1 24 = .ok (.invokevirtual 86, 3) := by decide +kernel
theorem dc_X5_canBeParts_28 : decode m_X5_canBeParts.2.2.1 28 = .ok (.if_icmp .ge 7, 3) := by decide +kernel
theorem dc_X5_canBeParts_32 : decode m_X5_canBeParts.2.2.1 32 = .ok (.goto 4, 3) := by decide +kernel
theorem dc_X5_canBeParts_36 : decode m_X5_canBeParts.2.2.1 36 = .ok (.ireturn, 1) := by decide +kernel
theorem ok_X5_canBeParts_0_4 : oks m_X5_canBeParts.1 m_X5_canBeParts.2.2.1 0 [(.aload_n 0, 1, (0, 0, 0)), (.iload_n 1, 1, (0, 0, 0)), (.iload_n 2, 1, (0, 0, 0)), (.iload_n 3, 1, (0, 0, 0))] = true ∧ plen 0 [(.aload_n 0, 1, (0, 0, 0)), (.iload_n 1, 1, (0, 0, 0)), (.iload_n 2, 1, (0, 0, 0)), (.iload_n 3, 1, (0, 0, 0))] = 4 := by decide +kernel
theorem ok_X5_canBeParts_10_4 : oks m_X5_canBeParts.1 m_X5_canBeParts.2.2.1 10 [(.aload_n 0, 1, (0, 0, 0)), (.iload_n 1, 1, (0, 0, 0)), (.iload_n 2, 1, (0, 0, 0)), (.iload_n 3, 1, (0, 0, 0))] = true ∧ plen 10 [(.aload_n 0, 1, (0, 0, 0)), (.iload_n 1, 1, (0, 0, 0)), (.iload_n 2, 1, (0, 0, 0)), (.iload_n 3, 1, (0, 0, 0))] = 14 := by decide +kernel
theorem ok_X5_canBeParts_20_4 : oks m_X5_canBeParts.1 m_X5_canBeParts.2.2.1 20 [(.aload_n 0, 1, (0, 0, 0)), (.iload_n 1, 1, (0, 0, 0)), (.iload_n 2, 1, (0, 0, 0)), (.iload_n 3, 1, (0, 0, 0))] = true ∧ plen 20 [(.aload_n 0, 1, (0, 0, 0)), (.iload_n 1, 1, (0, 0, 0)), (.iload_n 2, 1, (0, 0, 0)), (.iload_n 3, 1, (0, 0, 0))] = 24 := by decide +kernel
theorem ok_X5_canBeParts_27_1 : oks m_X5_canBeParts.1 m_X5_canBeParts.2.2.1 27 [(.iconst 4, 1, (0, 0, 0))] = true ∧ plen 27 [(.iconst 4, 1, (0, 0, 0))] = 28 := by decide +kernel
theorem ok_X5_canBeParts_31_1 : oks m_X5_canBeParts.1 m_X5_canBeParts.2.2.1 31 [(.iconst 1, 1, (0, 0, 0))] = true ∧ plen 31 [(.iconst 1, 1, (0, 0, 0))] = 32 := by decide +kernel
theorem ok_X5_canBeParts_35_1 : oks m_X5_canBeParts.1 m_X5_canBeParts.2.2.1 35 [(.iconst 0, 1, (0, 0, 0))] = true ∧ plen 35 [(.iconst 0, 1, (0, 0, 0))] = 36 := by decide +kernel
def F_X5_canBeParts (a1 : Int) (a2 : Int) (a3 : Int) (σ : Sg) : Bool :=
if (F_X5_bindApart a1 a2 a3 σ) = true then
if (F_X5_isSmall a1 a2 a3 σ) = true then
if 4 ≤ (F_X5_deepest a1 a2 a3 σ) then
false
else
true
else
false
else
false
theorem lk_X5_canBeParts (l : Launch) (d : Nat) (hd : 3 ≤ d) (a1 : Int) (a2 : Int) (a3 : Int) (σ : Sg) (q : Bool) (h : F_X5_canBeParts a1 a2 a3 σ = q) : CT l d m_X5_canBeParts.2.1 m_X5_canBeParts.2.2.1 m_X5_canBeParts.2.2.2.1 m_X5_canBeParts.2.2.2.2 [.inr 10, .inl a1, .inl a2, .inl a3] (LAYC, σ) (some (.inl (b2i q))) (LAYC, σ) := by
  obtain ⟨d, rfl⟩ : ∃ e, d = e + 1 := ⟨d - 1, by omega⟩
  have key : Go l m_X5_canBeParts (d + 1) LAYC (.inl (some (.inl (b2i q)))) σ 0 [some (.inr 10), some (.inl a1), some (.inl a2), some (.inl a3)] [] σ := by
    unfold F_X5_canBeParts at h
    refine go_ops ok_X5_canBeParts_0_4 (L' := [some (.inr 10), some (.inl a1), some (.inl a2), some (.inl a3)]) (st' := [.inl a3, .inl a2, .inl a1, .inr 10]) (σ1 := σ) rfl ?_
    refine go_V (M1 := m_X5_bindApart) (as := [.inl a1, .inl a2, .inl a3]) (st := []) (k := 10) (ci := 5) dc_X5_canBeParts_4 ln_5_80 im_X5_bindApart (by decide) rfl rfl mk_X5_bindApart rfl (Nat.le_of_ble_eq_true rfl) (Nat.le_refl _) (v := (some (.inl (b2i (F_X5_bindApart a1 a2 a3 σ))))) (σ1 := σ) (lk_X5_bindApart l d (by omega) a1 a2 a3 σ _ rfl) _ rfl ?_
    refine go_ifb_eq dc_X5_canBeParts_7 (by rfl) (fun hc => ?_) (fun hc => ?_)
    · replace h := (if_neg hc).symm.trans h
      refine go_ops ok_X5_canBeParts_35_1 (L' := [some (.inr 10), some (.inl a1), some (.inl a2), some (.inl a3)]) (st' := [.inl 0]) (σ1 := σ) rfl ?_
      subst h
      exact go_zret (x := false) dc_X5_canBeParts_36 rfl
    · replace h := (if_pos hc).symm.trans h
      refine go_ops ok_X5_canBeParts_10_4 (L' := [some (.inr 10), some (.inl a1), some (.inl a2), some (.inl a3)]) (st' := [.inl a3, .inl a2, .inl a1, .inr 10]) (σ1 := σ) rfl ?_
      refine go_V (M1 := m_X5_isSmall) (as := [.inl a1, .inl a2, .inl a3]) (st := []) (k := 10) (ci := 5) dc_X5_canBeParts_14 ln_5_83 im_X5_isSmall (by decide) rfl rfl mk_X5_isSmall rfl (Nat.le_of_ble_eq_true rfl) (Nat.le_refl _) (v := (some (.inl (b2i (F_X5_isSmall a1 a2 a3 σ))))) (σ1 := σ) (lk_X5_isSmall l d (by omega) a1 a2 a3 σ _ rfl) _ rfl ?_
      refine go_ifb_eq dc_X5_canBeParts_17 (by rfl) (fun hc => ?_) (fun hc => ?_)
      · replace h := (if_neg hc).symm.trans h
        refine go_ops ok_X5_canBeParts_35_1 (L' := [some (.inr 10), some (.inl a1), some (.inl a2), some (.inl a3)]) (st' := [.inl 0]) (σ1 := σ) rfl ?_
        subst h
        exact go_zret (x := false) dc_X5_canBeParts_36 rfl
      · replace h := (if_pos hc).symm.trans h
        refine go_ops ok_X5_canBeParts_20_4 (L' := [some (.inr 10), some (.inl a1), some (.inl a2), some (.inl a3)]) (st' := [.inl a3, .inl a2, .inl a1, .inr 10]) (σ1 := σ) rfl ?_
        refine go_V (M1 := m_X5_deepest) (as := [.inl a1, .inl a2, .inl a3]) (st := []) (k := 10) (ci := 5) dc_X5_canBeParts_24 ln_5_86 im_X5_deepest (by decide) rfl rfl mk_X5_deepest rfl (Nat.le_of_ble_eq_true rfl) (Nat.le_refl _) (v := (some (.inl (F_X5_deepest a1 a2 a3 σ)))) (σ1 := σ) (lk_X5_deepest l d (by omega) a1 a2 a3 σ _ rfl) _ rfl ?_
        refine go_ops ok_X5_canBeParts_27_1 (L' := [some (.inr 10), some (.inl a1), some (.inl a2), some (.inl a3)]) (st' := [.inl 4, .inl (F_X5_deepest a1 a2 a3 σ)]) (σ1 := σ) rfl ?_
        refine go_icmp_ge dc_X5_canBeParts_28 (by rfl) (fun hc => ?_) (fun hc => ?_)
        · replace h := (if_pos hc).symm.trans h
          refine go_ops ok_X5_canBeParts_35_1 (L' := [some (.inr 10), some (.inl a1), some (.inl a2), some (.inl a3)]) (st' := [.inl 0]) (σ1 := σ) rfl ?_
          subst h
          exact go_zret (x := false) dc_X5_canBeParts_36 rfl
        · replace h := (if_neg hc).symm.trans h
          refine go_ops ok_X5_canBeParts_31_1 (L' := [some (.inr 10), some (.inl a1), some (.inl a2), some (.inl a3)]) (st' := [.inl 1]) (σ1 := σ) rfl ?_
          refine go_goto dc_X5_canBeParts_32 (by rfl) ?_
          subst h
          exact go_zret (x := true) dc_X5_canBeParts_36 rfl
  have hf := go_ct (as := [.inr 10, .inl a1, .inl a2, .inl a3]) mk_X5_canBeParts (by rfl) (Nat.le_of_ble_eq_true rfl) key
  exact hf
theorem dc_X5_canAlternate_2 : decode m_X5_canAlternate.2.2.1 2 = .ok (.invokevirtual 64, 3) := by decide +kernel
theorem dc_X5_canAlternate_6 : decode m_X5_canAlternate.2.2.1 6 = .ok (.if_icmp .eq 16, 3) := by decide +kernel
theorem dc_X5_canAlternate_13 : decode m_X5_canAlternate.2.2.1 13 = .ok (.invokevirtual 64, 3) := by decide +kernel
theorem dc_X5_canAlternate_16 : decode m_X5_canAlternate.2.2.1 16 = .ok (.invokevirtual 90, 3) := by decide +kernel
theorem dc_X5_canAlternate_19 : decode m_X5_canAlternate.2.2.1 19 = .ok (.ifCond .eq 7, 3) := by decide +kernel
theorem dc_X5_canAlternate_23 : decode m_X5_canAlternate.2.2.1 23 = .ok (.goto 4, 3) := by decide +kernel
theorem dc_X5_canAlternate_29 : decode m_X5_canAlternate.2.2.1 29 = .ok (.ifCond .eq 30, 3) := by decide +kernel
theorem dc_X5_canAlternate_34 : decode m_X5_canAlternate.2.2.1 34 = .ok (.invokevirtual 74, 3) := by decide +kernel
theorem dc_X5_canAlternate_39 : decode m_X5_canAlternate.2.2.1 39 = .ok (.invokevirtual 74, 3) := by decide +kernel
theorem dc_X5_canAlternate_42 : decode m_X5_canAlternate.2.2.1 42 = .ok (.if_icmp .ne 17, 3) := by decide +kernel
theorem dc_X5_canAlternate_49 : decode m_X5_canAlternate.2.2.1 49 = .ok (.invokevirtual 83, 3) := by decide +kernel
theorem dc_X5_canAlternate_52 : decode m_X5_canAlternate.2.2.1 52 = .ok (.ifCond .eq 7, 3) := by decide +kernel
theorem dc_X5_canAlternate_56 : decode m_X5_canAlternate.2.2.1 56 = .ok (.goto 4, 3) := by decide +kernel
theorem dc_X5_canAlternate_60 : decode m_X5_canAlternate.2.2.1 60 = .ok (.ireturn, 1) := by decide +kernel
theorem ok_X5_canAlternate_0_2 : oks m_X5_canAlternate.1 m_X5_canAlternate.2.2.1 0 [(.aload_n 0, 1, (0, 0, 0)), (.iload_n 1, 1, (0, 0, 0))] = true ∧ plen 0 [(.aload_n 0, 1, (0, 0, 0)), (.iload_n 1, 1, (0, 0, 0))] = 2 := by decide +kernel
theorem ok_X5_canAlternate_5_1 : oks m_X5_canAlternate.1 m_X5_canAlternate.2.2.1 5 [(.iconst (-1), 1, (0, 0, 0))] = true ∧ plen 5 [(.iconst (-1), 1, (0, 0, 0))] = 6 := by decide +kernel
theorem ok_X5_canAlternate_9_4 : oks m_X5_canAlternate.1 m_X5_canAlternate.2.2.1 9 [(.aload_n 0, 1, (0, 0, 0)), (.iload_n 2, 1, (0, 0, 0)), (.aload_n 0, 1, (0, 0, 0)), (.iload_n 1, 1, (0, 0, 0))] = true ∧ plen 9 [(.aload_n 0, 1, (0, 0, 0)), (.iload_n 2, 1, (0, 0, 0)), (.aload_n 0, 1, (0, 0, 0)), (.iload_n 1, 1, (0, 0, 0))] = 13 := by decide +kernel
theorem ok_X5_canAlternate_22_1 : oks m_X5_canAlternate.1 m_X5_canAlternate.2.2.1 22 [(.iconst 1, 1, (0, 0, 0))] = true ∧ plen 22 [(.iconst 1, 1, (0, 0, 0))] = 23 := by decide +kernel
theorem ok_X5_canAlternate_26_1 : oks m_X5_canAlternate.1 m_X5_canAlternate.2.2.1 26 [(.iconst 0, 1, (0, 0, 0))] = true ∧ plen 26 [(.iconst 0, 1, (0, 0, 0))] = 27 := by decide +kernel
theorem ok_X5_canAlternate_27_2 : oks m_X5_canAlternate.1 m_X5_canAlternate.2.2.1 27 [(.istore_n 3, 1, (0, 0, 0)), (.iload_n 3, 1, (0, 0, 0))] = true ∧ plen 27 [(.istore_n 3, 1, (0, 0, 0)), (.iload_n 3, 1, (0, 0, 0))] = 29 := by decide +kernel
theorem ok_X5_canAlternate_32_2 : oks m_X5_canAlternate.1 m_X5_canAlternate.2.2.1 32 [(.aload_n 0, 1, (0, 0, 0)), (.iload_n 1, 1, (0, 0, 0))] = true ∧ plen 32 [(.aload_n 0, 1, (0, 0, 0)), (.iload_n 1, 1, (0, 0, 0))] = 34 := by decide +kernel
theorem ok_X5_canAlternate_37_2 : oks m_X5_canAlternate.1 m_X5_canAlternate.2.2.1 37 [(.aload_n 0, 1, (0, 0, 0)), (.iload_n 2, 1, (0, 0, 0))] = true ∧ plen 37 [(.aload_n 0, 1, (0, 0, 0)), (.iload_n 2, 1, (0, 0, 0))] = 39 := by decide +kernel
theorem ok_X5_canAlternate_45_4 : oks m_X5_canAlternate.1 m_X5_canAlternate.2.2.1 45 [(.aload_n 0, 1, (0, 0, 0)), (.iload_n 1, 1, (0, 0, 0)), (.iload_n 2, 1, (0, 0, 0)), (.iconst (-1), 1, (0, 0, 0))] = true ∧ plen 45 [(.aload_n 0, 1, (0, 0, 0)), (.iload_n 1, 1, (0, 0, 0)), (.iload_n 2, 1, (0, 0, 0)), (.iconst (-1), 1, (0, 0, 0))] = 49 := by decide +kernel
theorem ok_X5_canAlternate_55_1 : oks m_X5_canAlternate.1 m_X5_canAlternate.2.2.1 55 [(.iconst 1, 1, (0, 0, 0))] = true ∧ plen 55 [(.iconst 1, 1, (0, 0, 0))] = 56 := by decide +kernel
theorem ok_X5_canAlternate_59_1 : oks m_X5_canAlternate.1 m_X5_canAlternate.2.2.1 59 [(.iconst 0, 1, (0, 0, 0))] = true ∧ plen 59 [(.iconst 0, 1, (0, 0, 0))] = 60 := by decide +kernel
def B_X5_canAlternate_27 (x1 : Int) (x2 : Int) (y0 : Bool) (σ : Sg) : Bool :=
if y0 = true then
if (F_X5_namesOf x1 σ) = (F_X5_namesOf x2 σ) then
if (F_X5_isSmall x1 x2 (-1) σ) = true then
true
else
false
else
false
else
false
def B_X5_canAlternate_22 (x1 : Int) (x2 : Int) (σ : Sg) : Bool :=
B_X5_canAlternate_27 x1 x2 true σ
def F_X5_canAlternate (a1 : Int) (a2 : Int) (σ : Sg) : Bool :=
if (F_X5_kindOf a1 σ) = (-1) then
B_X5_canAlternate_22 a1 a2 σ
else
if (F_X5_fits a2 (F_X5_kindOf a1 σ) σ) = true then
B_X5_canAlternate_22 a1 a2 σ
else
B_X5_canAlternate_27 a1 a2 false σ
theorem lk_X5_canAlternate (l : Launch) (d : Nat) (hd : 3 ≤ d) (a1 : Int) (a2 : Int) (σ : Sg) (q : Bool) (h : F_X5_canAlternate a1 a2 σ = q) : CT l d m_X5_canAlternate.2.1 m_X5_canAlternate.2.2.1 m_X5_canAlternate.2.2.2.1 m_X5_canAlternate.2.2.2.2 [.inr 10, .inl a1, .inl a2] (LAYC, σ) (some (.inl (b2i q))) (LAYC, σ) := by
  obtain ⟨d, rfl⟩ : ∃ e, d = e + 1 := ⟨d - 1, by omega⟩
  have key : Go l m_X5_canAlternate (d + 1) LAYC (.inl (some (.inl (b2i q)))) σ 0 [some (.inr 10), some (.inl a1), some (.inl a2), none] [] σ := by
    unfold F_X5_canAlternate at h
    have hB_X5_canAlternate_27 : ∀ (x1 : Int) (x2 : Int) (y0 : Bool) (σ : Sg), B_X5_canAlternate_27 x1 x2 y0 σ = q → Go l m_X5_canAlternate (d + 1) LAYC (.inl (some (.inl (b2i q)))) σ 27 [some (.inr 10), some (.inl x1), some (.inl x2), none] [.inl (b2i y0)] σ := by
      intro x1 x2 y0 σ h
      unfold B_X5_canAlternate_27 at h
      refine go_ops ok_X5_canAlternate_27_2 (L' := [some (.inr 10), some (.inl x1), some (.inl x2), some (.inl (b2i y0))]) (st' := [.inl (b2i y0)]) (σ1 := σ) rfl ?_
      refine go_ifb_eq dc_X5_canAlternate_29 (by rfl) (fun hc => ?_) (fun hc => ?_)
      · replace h := (if_neg hc).symm.trans h
        refine go_ops ok_X5_canAlternate_59_1 (L' := [some (.inr 10), some (.inl x1), some (.inl x2), some (.inl (b2i y0))]) (st' := [.inl 0]) (σ1 := σ) rfl ?_
        subst h
        exact go_zret (x := false) dc_X5_canAlternate_60 rfl
      · replace h := (if_pos hc).symm.trans h
        refine go_ops ok_X5_canAlternate_32_2 (L' := [some (.inr 10), some (.inl x1), some (.inl x2), some (.inl (b2i y0))]) (st' := [.inl x1, .inr 10]) (σ1 := σ) rfl ?_
        refine go_V (M1 := m_X5_namesOf) (as := [.inl x1]) (st := []) (k := 10) (ci := 5) dc_X5_canAlternate_34 ln_5_74 im_X5_namesOf (by decide) rfl rfl mk_X5_namesOf rfl (Nat.le_of_ble_eq_true rfl) (Nat.le_refl _) (v := (some (.inl (F_X5_namesOf x1 σ)))) (σ1 := σ) (lk_X5_namesOf l d (by omega) x1 σ _ rfl) _ rfl ?_
        refine go_ops ok_X5_canAlternate_37_2 (L' := [some (.inr 10), some (.inl x1), some (.inl x2), some (.inl (b2i y0))]) (st' := [.inl x2, .inr 10, .inl (F_X5_namesOf x1 σ)]) (σ1 := σ) rfl ?_
        refine go_V (M1 := m_X5_namesOf) (as := [.inl x2]) (st := [.inl (F_X5_namesOf x1 σ)]) (k := 10) (ci := 5) dc_X5_canAlternate_39 ln_5_74 im_X5_namesOf (by decide) rfl rfl mk_X5_namesOf rfl (Nat.le_of_ble_eq_true rfl) (Nat.le_refl _) (v := (some (.inl (F_X5_namesOf x2 σ)))) (σ1 := σ) (lk_X5_namesOf l d (by omega) x2 σ _ rfl) _ rfl ?_
        refine go_icmp_ne dc_X5_canAlternate_42 (by rfl) (fun hc => ?_) (fun hc => ?_)
        · replace h := (if_neg hc).symm.trans h
          refine go_ops ok_X5_canAlternate_59_1 (L' := [some (.inr 10), some (.inl x1), some (.inl x2), some (.inl (b2i y0))]) (st' := [.inl 0]) (σ1 := σ) rfl ?_
          subst h
          exact go_zret (x := false) dc_X5_canAlternate_60 rfl
        · replace h := (if_pos hc).symm.trans h
          refine go_ops ok_X5_canAlternate_45_4 (L' := [some (.inr 10), some (.inl x1), some (.inl x2), some (.inl (b2i y0))]) (st' := [.inl (-1), .inl x2, .inl x1, .inr 10]) (σ1 := σ) rfl ?_
          refine go_V (M1 := m_X5_isSmall) (as := [.inl x1, .inl x2, .inl (-1)]) (st := []) (k := 10) (ci := 5) dc_X5_canAlternate_49 ln_5_83 im_X5_isSmall (by decide) rfl rfl mk_X5_isSmall rfl (Nat.le_of_ble_eq_true rfl) (Nat.le_refl _) (v := (some (.inl (b2i (F_X5_isSmall x1 x2 (-1) σ))))) (σ1 := σ) (lk_X5_isSmall l d (by omega) x1 x2 (-1) σ _ rfl) _ rfl ?_
          refine go_ifb_eq dc_X5_canAlternate_52 (by rfl) (fun hc => ?_) (fun hc => ?_)
          · replace h := (if_neg hc).symm.trans h
            refine go_ops ok_X5_canAlternate_59_1 (L' := [some (.inr 10), some (.inl x1), some (.inl x2), some (.inl (b2i y0))]) (st' := [.inl 0]) (σ1 := σ) rfl ?_
            subst h
            exact go_zret (x := false) dc_X5_canAlternate_60 rfl
          · replace h := (if_pos hc).symm.trans h
            refine go_ops ok_X5_canAlternate_55_1 (L' := [some (.inr 10), some (.inl x1), some (.inl x2), some (.inl (b2i y0))]) (st' := [.inl 1]) (σ1 := σ) rfl ?_
            refine go_goto dc_X5_canAlternate_56 (by rfl) ?_
            subst h
            exact go_zret (x := true) dc_X5_canAlternate_60 rfl
    have hB_X5_canAlternate_22 : ∀ (x1 : Int) (x2 : Int) (σ : Sg), B_X5_canAlternate_22 x1 x2 σ = q → Go l m_X5_canAlternate (d + 1) LAYC (.inl (some (.inl (b2i q)))) σ 22 [some (.inr 10), some (.inl x1), some (.inl x2), none] [] σ := by
      intro x1 x2 σ h
      unfold B_X5_canAlternate_22 at h
      refine go_ops ok_X5_canAlternate_22_1 (L' := [some (.inr 10), some (.inl x1), some (.inl x2), none]) (st' := [.inl 1]) (σ1 := σ) rfl ?_
      refine go_goto dc_X5_canAlternate_23 (by rfl) ?_
      exact hB_X5_canAlternate_27 x1 x2 true σ h
    refine go_ops ok_X5_canAlternate_0_2 (L' := [some (.inr 10), some (.inl a1), some (.inl a2), none]) (st' := [.inl a1, .inr 10]) (σ1 := σ) rfl ?_
    refine go_V (M1 := m_X5_kindOf) (as := [.inl a1]) (st := []) (k := 10) (ci := 5) dc_X5_canAlternate_2 ln_5_64 im_X5_kindOf (by decide) rfl rfl mk_X5_kindOf rfl (Nat.le_of_ble_eq_true rfl) (Nat.le_refl _) (v := (some (.inl (F_X5_kindOf a1 σ)))) (σ1 := σ) (lk_X5_kindOf l d (by omega) a1 σ _ rfl) _ rfl ?_
    refine go_ops ok_X5_canAlternate_5_1 (L' := [some (.inr 10), some (.inl a1), some (.inl a2), none]) (st' := [.inl (-1), .inl (F_X5_kindOf a1 σ)]) (σ1 := σ) rfl ?_
    refine go_icmp_eq dc_X5_canAlternate_6 (by rfl) (fun hc => ?_) (fun hc => ?_)
    · replace h := (if_pos hc).symm.trans h
      exact hB_X5_canAlternate_22 a1 a2 σ h
    · replace h := (if_neg hc).symm.trans h
      refine go_ops ok_X5_canAlternate_9_4 (L' := [some (.inr 10), some (.inl a1), some (.inl a2), none]) (st' := [.inl a1, .inr 10, .inl a2, .inr 10]) (σ1 := σ) rfl ?_
      refine go_V (M1 := m_X5_kindOf) (as := [.inl a1]) (st := [.inl a2, .inr 10]) (k := 10) (ci := 5) dc_X5_canAlternate_13 ln_5_64 im_X5_kindOf (by decide) rfl rfl mk_X5_kindOf rfl (Nat.le_of_ble_eq_true rfl) (Nat.le_refl _) (v := (some (.inl (F_X5_kindOf a1 σ)))) (σ1 := σ) (lk_X5_kindOf l d (by omega) a1 σ _ rfl) _ rfl ?_
      refine go_V (M1 := m_X5_fits) (as := [.inl a2, .inl (F_X5_kindOf a1 σ)]) (st := []) (k := 10) (ci := 5) dc_X5_canAlternate_16 ln_5_90 im_X5_fits (by decide) rfl rfl mk_X5_fits rfl (Nat.le_of_ble_eq_true rfl) (Nat.le_refl _) (v := (some (.inl (b2i (F_X5_fits a2 (F_X5_kindOf a1 σ) σ))))) (σ1 := σ) (lk_X5_fits l d (by omega) a2 (F_X5_kindOf a1 σ) σ _ rfl) _ rfl ?_
      refine go_ifb_eq dc_X5_canAlternate_19 (by rfl) (fun hc => ?_) (fun hc => ?_)
      · replace h := (if_neg hc).symm.trans h
        refine go_ops ok_X5_canAlternate_26_1 (L' := [some (.inr 10), some (.inl a1), some (.inl a2), none]) (st' := [.inl 0]) (σ1 := σ) rfl ?_
        exact hB_X5_canAlternate_27 a1 a2 false σ h
      · replace h := (if_pos hc).symm.trans h
        exact hB_X5_canAlternate_22 a1 a2 σ h
  have hf := go_ct (as := [.inr 10, .inl a1, .inl a2]) mk_X5_canAlternate (by rfl) (Nat.le_of_ble_eq_true rfl) key
  exact hf
theorem dc_X5_kindOfBoth_2 : decode m_X5_kindOfBoth.2.2.1 2 = .ok (.invokevirtual 64, 3) := by decide +kernel
theorem dc_X5_kindOfBoth_6 : decode m_X5_kindOfBoth.2.2.1 6 = .ok (.if_icmp .ne 11, 3) := by decide +kernel
theorem dc_X5_kindOfBoth_11 : decode m_X5_kindOfBoth.2.2.1 11 = .ok (.invokevirtual 64, 3) := by decide +kernel
theorem dc_X5_kindOfBoth_14 : decode m_X5_kindOfBoth.2.2.1 14 = .ok (.goto 8, 3) := by decide +kernel
theorem dc_X5_kindOfBoth_19 : decode m_X5_kindOfBoth.2.2.1 19 = .ok (.invokevirtual 64, 3) := by decide +kernel
theorem dc_X5_kindOfBoth_22 : decode m_X5_kindOfBoth.2.2.1 22 = .ok (.ireturn, 1) := by decide +kernel
theorem ok_X5_kindOfBoth_0_2 : oks m_X5_kindOfBoth.1 m_X5_kindOfBoth.2.2.1 0 [(.aload_n 0, 1, (0, 0, 0)), (.iload_n 1, 1, (0, 0, 0))] = true ∧ plen 0 [(.aload_n 0, 1, (0, 0, 0)), (.iload_n 1, 1, (0, 0, 0))] = 2 := by decide +kernel
theorem ok_X5_kindOfBoth_5_1 : oks m_X5_kindOfBoth.1 m_X5_kindOfBoth.2.2.1 5 [(.iconst (-1), 1, (0, 0, 0))] = true ∧ plen 5 [(.iconst (-1), 1, (0, 0, 0))] = 6 := by decide +kernel
theorem ok_X5_kindOfBoth_9_2 : oks m_X5_kindOfBoth.1 m_X5_kindOfBoth.2.2.1 9 [(.aload_n 0, 1, (0, 0, 0)), (.iload_n 2, 1, (0, 0, 0))] = true ∧ plen 9 [(.aload_n 0, 1, (0, 0, 0)), (.iload_n 2, 1, (0, 0, 0))] = 11 := by decide +kernel
theorem ok_X5_kindOfBoth_17_2 : oks m_X5_kindOfBoth.1 m_X5_kindOfBoth.2.2.1 17 [(.aload_n 0, 1, (0, 0, 0)), (.iload_n 1, 1, (0, 0, 0))] = true ∧ plen 17 [(.aload_n 0, 1, (0, 0, 0)), (.iload_n 1, 1, (0, 0, 0))] = 19 := by decide +kernel
def F_X5_kindOfBoth (a1 : Int) (a2 : Int) (σ : Sg) : Int :=
if (F_X5_kindOf a1 σ) = (-1) then
F_X5_kindOf a2 σ
else
F_X5_kindOf a1 σ
theorem lk_X5_kindOfBoth (l : Launch) (d : Nat) (hd : 2 ≤ d) (a1 : Int) (a2 : Int) (σ : Sg) (q : Int) (h : F_X5_kindOfBoth a1 a2 σ = q) : CT l d m_X5_kindOfBoth.2.1 m_X5_kindOfBoth.2.2.1 m_X5_kindOfBoth.2.2.2.1 m_X5_kindOfBoth.2.2.2.2 [.inr 10, .inl a1, .inl a2] (LAYC, σ) (some (.inl q)) (LAYC, σ) := by
  obtain ⟨d, rfl⟩ : ∃ e, d = e + 1 := ⟨d - 1, by omega⟩
  have key : Go l m_X5_kindOfBoth (d + 1) LAYC (.inl (some (.inl q))) σ 0 [some (.inr 10), some (.inl a1), some (.inl a2)] [] σ := by
    unfold F_X5_kindOfBoth at h
    refine go_ops ok_X5_kindOfBoth_0_2 (L' := [some (.inr 10), some (.inl a1), some (.inl a2)]) (st' := [.inl a1, .inr 10]) (σ1 := σ) rfl ?_
    refine go_V (M1 := m_X5_kindOf) (as := [.inl a1]) (st := []) (k := 10) (ci := 5) dc_X5_kindOfBoth_2 ln_5_64 im_X5_kindOf (by decide) rfl rfl mk_X5_kindOf rfl (Nat.le_of_ble_eq_true rfl) (Nat.le_refl _) (v := (some (.inl (F_X5_kindOf a1 σ)))) (σ1 := σ) (lk_X5_kindOf l d (by omega) a1 σ _ rfl) _ rfl ?_
    refine go_ops ok_X5_kindOfBoth_5_1 (L' := [some (.inr 10), some (.inl a1), some (.inl a2)]) (st' := [.inl (-1), .inl (F_X5_kindOf a1 σ)]) (σ1 := σ) rfl ?_
    refine go_icmp_ne dc_X5_kindOfBoth_6 (by rfl) (fun hc => ?_) (fun hc => ?_)
    · replace h := (if_neg hc).symm.trans h
      refine go_ops ok_X5_kindOfBoth_17_2 (L' := [some (.inr 10), some (.inl a1), some (.inl a2)]) (st' := [.inl a1, .inr 10]) (σ1 := σ) rfl ?_
      refine go_V (M1 := m_X5_kindOf) (as := [.inl a1]) (st := []) (k := 10) (ci := 5) dc_X5_kindOfBoth_19 ln_5_64 im_X5_kindOf (by decide) rfl rfl mk_X5_kindOf rfl (Nat.le_of_ble_eq_true rfl) (Nat.le_refl _) (v := (some (.inl (F_X5_kindOf a1 σ)))) (σ1 := σ) (lk_X5_kindOf l d (by omega) a1 σ _ rfl) _ rfl ?_
      subst h
      exact go_iret dc_X5_kindOfBoth_22 rfl
    · replace h := (if_pos hc).symm.trans h
      refine go_ops ok_X5_kindOfBoth_9_2 (L' := [some (.inr 10), some (.inl a1), some (.inl a2)]) (st' := [.inl a2, .inr 10]) (σ1 := σ) rfl ?_
      refine go_V (M1 := m_X5_kindOf) (as := [.inl a2]) (st := []) (k := 10) (ci := 5) dc_X5_kindOfBoth_11 ln_5_64 im_X5_kindOf (by decide) rfl rfl mk_X5_kindOf rfl (Nat.le_of_ble_eq_true rfl) (Nat.le_refl _) (v := (some (.inl (F_X5_kindOf a2 σ)))) (σ1 := σ) (lk_X5_kindOf l d (by omega) a2 σ _ rfl) _ rfl ?_
      refine go_goto dc_X5_kindOfBoth_14 (by rfl) ?_
      subst h
      exact go_iret dc_X5_kindOfBoth_22 rfl
  have hf := go_ct (as := [.inr 10, .inl a1, .inl a2]) mk_X5_kindOfBoth (by rfl) (Nat.le_of_ble_eq_true rfl) key
  exact hf
theorem dc_X5_digitsNow_2 : decode m_X5_digitsNow.2.2.1 2 = .ok (.invokevirtual 60, 3) := by decide +kernel
theorem dc_X5_digitsNow_5 : decode m_X5_digitsNow.2.2.1 5 = .ok (.tableswitch 100 0 4 #[35, 100, 39, 100, 62], 35) := by decide +kernel
theorem dc_X5_digitsNow_43 : decode m_X5_digitsNow.2.2.1 43 = .ok (.ireturn, 1) := by decide +kernel
theorem dc_X5_digitsNow_51 : decode m_X5_digitsNow.2.2.1 51 = .ok (.invokevirtual 111, 3) := by decide +kernel
theorem dc_X5_digitsNow_61 : decode m_X5_digitsNow.2.2.1 61 = .ok (.invokevirtual 114, 3) := by decide +kernel
theorem dc_X5_digitsNow_66 : decode m_X5_digitsNow.2.2.1 66 = .ok (.ireturn, 1) := by decide +kernel
theorem dc_X5_digitsNow_71 : decode m_X5_digitsNow.2.2.1 71 = .ok (.invokevirtual 117, 3) := by decide +kernel
theorem dc_X5_digitsNow_74 : decode m_X5_digitsNow.2.2.1 74 = .ok (.invokevirtual 67, 3) := by decide +kernel
theorem dc_X5_digitsNow_82 : decode m_X5_digitsNow.2.2.1 82 = .ok (.invokevirtual 117, 3) := by decide +kernel
theorem dc_X5_digitsNow_85 : decode m_X5_digitsNow.2.2.1 85 = .ok (.invokevirtual 67, 3) := by decide +kernel
theorem dc_X5_digitsNow_90 : decode m_X5_digitsNow.2.2.1 90 = .ok (.ifCond .eq 7, 3) := by decide +kernel
theorem dc_X5_digitsNow_94 : decode m_X5_digitsNow.2.2.1 94 = .ok (.ifCond .ne 7, 3) := by decide +kernel
theorem dc_X5_digitsNow_98 : decode m_X5_digitsNow.2.2.1 98 = .ok (.goto 6, 3) := by decide +kernel
theorem dc_X5_digitsNow_104 : decode m_X5_digitsNow.2.2.1 104 = .ok (.ireturn, 1) := by decide +kernel
theorem dc_X5_digitsNow_106 : decode m_X5_digitsNow.2.2.1 106 = .ok (.ireturn, 1) := by decide +kernel
theorem ok_X5_digitsNow_0_2 : oks m_X5_digitsNow.1 m_X5_digitsNow.2.2.1 0 [(.aload_n 0, 1, (0, 0, 0)), (.iload_n 1, 1, (0, 0, 0))] = true ∧ plen 0 [(.aload_n 0, 1, (0, 0, 0)), (.iload_n 1, 1, (0, 0, 0))] = 2 := by decide +kernel
theorem ok_X5_digitsNow_40_1 : oks m_X5_digitsNow.1 m_X5_digitsNow.2.2.1 40 [(.sipush 1023, 3, (0, 0, 0))] = true ∧ plen 40 [(.sipush 1023, 3, (0, 0, 0))] = 43 := by decide +kernel
theorem ok_X5_digitsNow_44_4 : oks m_X5_digitsNow.1 m_X5_digitsNow.2.2.1 44 [(.sipush 1023, 3, (0, 0, 0)), (.bipush 9, 2, (0, 0, 0)), (.aload_n 0, 1, (0, 0, 0)), (.iload_n 1, 1, (0, 0, 0))] = true ∧ plen 44 [(.sipush 1023, 3, (0, 0, 0)), (.bipush 9, 2, (0, 0, 0)), (.aload_n 0, 1, (0, 0, 0)), (.iload_n 1, 1, (0, 0, 0))] = 51 := by decide +kernel
theorem ok_X5_digitsNow_54_5 : oks m_X5_digitsNow.1 m_X5_digitsNow.2.2.1 54 [(.isub, 1, (0, 0, 0)), (.ishr, 1, (0, 0, 0)), (.sipush 1023, 3, (0, 0, 0)), (.aload_n 0, 1, (0, 0, 0)), (.iload_n 1, 1, (0, 0, 0))] = true ∧ plen 54 [(.isub, 1, (0, 0, 0)), (.ishr, 1, (0, 0, 0)), (.sipush 1023, 3, (0, 0, 0)), (.aload_n 0, 1, (0, 0, 0)), (.iload_n 1, 1, (0, 0, 0))] = 61 := by decide +kernel
theorem ok_X5_digitsNow_64_2 : oks m_X5_digitsNow.1 m_X5_digitsNow.2.2.1 64 [(.ishl, 1, (0, 0, 0)), (.iand, 1, (0, 0, 0))] = true ∧ plen 64 [(.ishl, 1, (0, 0, 0)), (.iand, 1, (0, 0, 0))] = 66 := by decide +kernel
theorem ok_X5_digitsNow_67_4 : oks m_X5_digitsNow.1 m_X5_digitsNow.2.2.1 67 [(.aload_n 0, 1, (0, 0, 0)), (.aload_n 0, 1, (0, 0, 0)), (.iload_n 1, 1, (0, 0, 0)), (.iconst 0, 1, (0, 0, 0))] = true ∧ plen 67 [(.aload_n 0, 1, (0, 0, 0)), (.aload_n 0, 1, (0, 0, 0)), (.iload_n 1, 1, (0, 0, 0)), (.iconst 0, 1, (0, 0, 0))] = 71 := by decide +kernel
theorem ok_X5_digitsNow_77_5 : oks m_X5_digitsNow.1 m_X5_digitsNow.2.2.1 77 [(.istore_n 2, 1, (0, 0, 0)), (.aload_n 0, 1, (0, 0, 0)), (.aload_n 0, 1, (0, 0, 0)), (.iload_n 1, 1, (0, 0, 0)), (.iconst 1, 1, (0, 0, 0))] = true ∧ plen 77 [(.istore_n 2, 1, (0, 0, 0)), (.aload_n 0, 1, (0, 0, 0)), (.aload_n 0, 1, (0, 0, 0)), (.iload_n 1, 1, (0, 0, 0)), (.iconst 1, 1, (0, 0, 0))] = 82 := by decide +kernel
theorem ok_X5_digitsNow_88_2 : oks m_X5_digitsNow.1 m_X5_digitsNow.2.2.1 88 [(.istore_n 3, 1, (0, 0, 0)), (.iload_n 2, 1, (0, 0, 0))] = true ∧ plen 88 [(.istore_n 3, 1, (0, 0, 0)), (.iload_n 2, 1, (0, 0, 0))] = 90 := by decide +kernel
theorem ok_X5_digitsNow_93_1 : oks m_X5_digitsNow.1 m_X5_digitsNow.2.2.1 93 [(.iload_n 3, 1, (0, 0, 0))] = true ∧ plen 93 [(.iload_n 3, 1, (0, 0, 0))] = 94 := by decide +kernel
theorem ok_X5_digitsNow_97_1 : oks m_X5_digitsNow.1 m_X5_digitsNow.2.2.1 97 [(.iconst 0, 1, (0, 0, 0))] = true ∧ plen 97 [(.iconst 0, 1, (0, 0, 0))] = 98 := by decide +kernel
theorem ok_X5_digitsNow_101_3 : oks m_X5_digitsNow.1 m_X5_digitsNow.2.2.1 101 [(.iload_n 2, 1, (0, 0, 0)), (.iload_n 3, 1, (0, 0, 0)), (.ior, 1, (0, 0, 0))] = true ∧ plen 101 [(.iload_n 2, 1, (0, 0, 0)), (.iload_n 3, 1, (0, 0, 0)), (.ior, 1, (0, 0, 0))] = 104 := by decide +kernel
theorem ok_X5_digitsNow_105_1 : oks m_X5_digitsNow.1 m_X5_digitsNow.2.2.1 105 [(.iconst 0, 1, (0, 0, 0))] = true ∧ plen 105 [(.iconst 0, 1, (0, 0, 0))] = 106 := by decide +kernel
def B_X5_digitsNow_97 (σ : Sg) : Int :=
0
def F_X5_digitsNow (a1 : Int) (σ : Sg) : Int :=
if (F_X5_sortOf a1 σ) = 0 then
1023
else if (F_X5_sortOf a1 σ) = 2 then
jand (jshr 1023 (wrap (9 - (F_X5_highOf a1 σ)))) (jshl 1023 (F_X5_lowOf a1 σ))
else if (F_X5_sortOf a1 σ) = 4 then
bnd (F_X5_digitsOf (F_X5_partOf a1 0 σ) σ) fun v3 =>
bnd (F_X5_digitsOf (F_X5_partOf a1 1 σ) σ) fun v5 =>
if v3 = 0 then
B_X5_digitsNow_97 σ
else
if v5 = 0 then
B_X5_digitsNow_97 σ
else
jor v3 v5
else 0
theorem lk_X5_digitsNow (l : Launch) (d : Nat) (hd : 2 ≤ d) (a1 : Int) (σ : Sg) (q : Int) (h : F_X5_digitsNow a1 σ = q) : CT l d m_X5_digitsNow.2.1 m_X5_digitsNow.2.2.1 m_X5_digitsNow.2.2.2.1 m_X5_digitsNow.2.2.2.2 [.inr 10, .inl a1] (LAYC, σ) (some (.inl q)) (LAYC, σ) := by
  obtain ⟨d, rfl⟩ : ∃ e, d = e + 1 := ⟨d - 1, by omega⟩
  have key : Go l m_X5_digitsNow (d + 1) LAYC (.inl (some (.inl q))) σ 0 [some (.inr 10), some (.inl a1), none, none] [] σ := by
    unfold F_X5_digitsNow at h
    have hB_X5_digitsNow_97 : ∀ (σ : Sg), B_X5_digitsNow_97 σ = q → Go l m_X5_digitsNow (d + 1) LAYC (.inl (some (.inl q))) σ 97 [none, none, none, none] [] σ := by
      intro σ h
      unfold B_X5_digitsNow_97 at h
      refine go_ops ok_X5_digitsNow_97_1 (L' := [none, none, none, none]) (st' := [.inl 0]) (σ1 := σ) rfl ?_
      refine go_goto dc_X5_digitsNow_98 (by rfl) ?_
      subst h
      exact go_iret dc_X5_digitsNow_104 rfl
    refine go_ops ok_X5_digitsNow_0_2 (L' := [some (.inr 10), some (.inl a1), none, none]) (st' := [.inl a1, .inr 10]) (σ1 := σ) rfl ?_
    refine go_V (M1 := m_X5_sortOf) (as := [.inl a1]) (st := []) (k := 10) (ci := 5) dc_X5_digitsNow_2 ln_5_60 im_X5_sortOf (by decide) rfl rfl mk_X5_sortOf rfl (Nat.le_of_ble_eq_true rfl) (Nat.le_refl _) (v := (some (.inl (F_X5_sortOf a1 σ)))) (σ1 := σ) (lk_X5_sortOf l d (by omega) a1 σ _ rfl) _ rfl ?_
    rcases Decidable.em ((F_X5_sortOf a1 σ) = 0) with hs1 | hs1
    · replace h := (if_pos hs1).symm.trans h
      refine go_tsw (off := 35) dc_X5_digitsNow_5 (by decide) (by decide) (tsk hs1 (by decide +kernel)) (by rfl) ?_
      refine go_ops ok_X5_digitsNow_40_1 (L' := [some (.inr 10), some (.inl a1), none, none]) (st' := [.inl 1023]) (σ1 := σ) rfl ?_
      subst h
      exact go_iret dc_X5_digitsNow_43 rfl
    replace h := (if_neg hs1).symm.trans h
    rcases Decidable.em ((F_X5_sortOf a1 σ) = 2) with hs2 | hs2
    · replace h := (if_pos hs2).symm.trans h
      refine go_tsw (off := 39) dc_X5_digitsNow_5 (by decide) (by decide) (tsk hs2 (by decide +kernel)) (by rfl) ?_
      refine go_ops ok_X5_digitsNow_44_4 (L' := [some (.inr 10), some (.inl a1), none, none]) (st' := [.inl a1, .inr 10, .inl 9, .inl 1023]) (σ1 := σ) rfl ?_
      refine go_V (M1 := m_X5_highOf) (as := [.inl a1]) (st := [.inl 9, .inl 1023]) (k := 10) (ci := 5) dc_X5_digitsNow_51 ln_5_111 im_X5_highOf (by decide) rfl rfl mk_X5_highOf rfl (Nat.le_of_ble_eq_true rfl) (Nat.le_refl _) (v := (some (.inl (F_X5_highOf a1 σ)))) (σ1 := σ) (lk_X5_highOf l d (by omega) a1 σ _ rfl) _ rfl ?_
      refine go_ops ok_X5_digitsNow_54_5 (L' := [some (.inr 10), some (.inl a1), none, none]) (st' := [.inl a1, .inr 10, .inl 1023, .inl (jshr 1023 (wrap (9 - (F_X5_highOf a1 σ))))]) (σ1 := σ) rfl ?_
      refine go_V (M1 := m_X5_lowOf) (as := [.inl a1]) (st := [.inl 1023, .inl (jshr 1023 (wrap (9 - (F_X5_highOf a1 σ))))]) (k := 10) (ci := 5) dc_X5_digitsNow_61 ln_5_114 im_X5_lowOf (by decide) rfl rfl mk_X5_lowOf rfl (Nat.le_of_ble_eq_true rfl) (Nat.le_refl _) (v := (some (.inl (F_X5_lowOf a1 σ)))) (σ1 := σ) (lk_X5_lowOf l d (by omega) a1 σ _ rfl) _ rfl ?_
      refine go_ops ok_X5_digitsNow_64_2 (L' := [some (.inr 10), some (.inl a1), none, none]) (st' := [.inl (jand (jshr 1023 (wrap (9 - (F_X5_highOf a1 σ)))) (jshl 1023 (F_X5_lowOf a1 σ)))]) (σ1 := σ) rfl ?_
      subst h
      exact go_iret dc_X5_digitsNow_66 rfl
    replace h := (if_neg hs2).symm.trans h
    rcases Decidable.em ((F_X5_sortOf a1 σ) = 4) with hs7 | hs7
    · replace h := (if_pos hs7).symm.trans h
      refine go_tsw (off := 62) dc_X5_digitsNow_5 (by decide) (by decide) (tsk hs7 (by decide +kernel)) (by rfl) ?_
      refine go_ops ok_X5_digitsNow_67_4 (L' := [some (.inr 10), some (.inl a1), none, none]) (st' := [.inl 0, .inl a1, .inr 10, .inr 10]) (σ1 := σ) rfl ?_
      refine go_V (M1 := m_X5_partOf) (as := [.inl a1, .inl 0]) (st := [.inr 10]) (k := 10) (ci := 5) dc_X5_digitsNow_71 ln_5_117 im_X5_partOf (by decide) rfl rfl mk_X5_partOf rfl (Nat.le_of_ble_eq_true rfl) (Nat.le_refl _) (v := (some (.inl (F_X5_partOf a1 0 σ)))) (σ1 := σ) (lk_X5_partOf l d (by omega) a1 0 σ _ rfl) _ rfl ?_
      refine go_V (M1 := m_X5_digitsOf) (as := [.inl (F_X5_partOf a1 0 σ)]) (st := []) (k := 10) (ci := 5) dc_X5_digitsNow_74 ln_5_67 im_X5_digitsOf (by decide) rfl rfl mk_X5_digitsOf rfl (Nat.le_of_ble_eq_true rfl) (Nat.le_refl _) (v := (some (.inl (F_X5_digitsOf (F_X5_partOf a1 0 σ) σ)))) (σ1 := σ) (lk_X5_digitsOf l d (by omega) (F_X5_partOf a1 0 σ) σ _ rfl) _ rfl ?_
      obtain ⟨v3, e4, h⟩ := bnd_inv h
      refine go_ops ok_X5_digitsNow_77_5 (L' := [some (.inr 10), some (.inl a1), some (.inl v3), none]) (st' := [.inl 1, .inl a1, .inr 10, .inr 10]) (σ1 := σ) (by subst e4; rfl) ?_
      refine go_V (M1 := m_X5_partOf) (as := [.inl a1, .inl 1]) (st := [.inr 10]) (k := 10) (ci := 5) dc_X5_digitsNow_82 ln_5_117 im_X5_partOf (by decide) rfl rfl mk_X5_partOf rfl (Nat.le_of_ble_eq_true rfl) (Nat.le_refl _) (v := (some (.inl (F_X5_partOf a1 1 σ)))) (σ1 := σ) (lk_X5_partOf l d (by omega) a1 1 σ _ rfl) _ rfl ?_
      refine go_V (M1 := m_X5_digitsOf) (as := [.inl (F_X5_partOf a1 1 σ)]) (st := []) (k := 10) (ci := 5) dc_X5_digitsNow_85 ln_5_67 im_X5_digitsOf (by decide) rfl rfl mk_X5_digitsOf rfl (Nat.le_of_ble_eq_true rfl) (Nat.le_refl _) (v := (some (.inl (F_X5_digitsOf (F_X5_partOf a1 1 σ) σ)))) (σ1 := σ) (lk_X5_digitsOf l d (by omega) (F_X5_partOf a1 1 σ) σ _ rfl) _ rfl ?_
      obtain ⟨v5, e6, h⟩ := bnd_inv h
      refine go_ops ok_X5_digitsNow_88_2 (L' := [some (.inr 10), some (.inl a1), some (.inl v3), some (.inl v5)]) (st' := [.inl v3]) (σ1 := σ) (by subst e6; rfl) ?_
      refine go_if_eq dc_X5_digitsNow_90 (by rfl) (fun hc => ?_) (fun hc => ?_)
      · replace h := (if_pos hc).symm.trans h
        refine go_wk (L' := [none, none, none, none]) trivial ?_
        exact hB_X5_digitsNow_97 σ h
      · replace h := (if_neg hc).symm.trans h
        refine go_ops ok_X5_digitsNow_93_1 (L' := [some (.inr 10), some (.inl a1), some (.inl v3), some (.inl v5)]) (st' := [.inl v5]) (σ1 := σ) rfl ?_
        refine go_if_ne dc_X5_digitsNow_94 (by rfl) (fun hc => ?_) (fun hc => ?_)
        · replace h := (if_neg hc).symm.trans h
          refine go_ops ok_X5_digitsNow_101_3 (L' := [some (.inr 10), some (.inl a1), some (.inl v3), some (.inl v5)]) (st' := [.inl (jor v3 v5)]) (σ1 := σ) rfl ?_
          subst h
          exact go_iret dc_X5_digitsNow_104 rfl
        · replace h := (if_pos hc).symm.trans h
          refine go_wk (L' := [none, none, none, none]) trivial ?_
          exact hB_X5_digitsNow_97 σ h
    replace h := (if_neg hs7).symm.trans h
    refine go_tsw (off := 100) dc_X5_digitsNow_5 (by decide) (by decide) (ts_d [0, 2, 4] (nn1 hs1 (nn1 hs2 (nn1 hs7 nn0))) (by decide +kernel)) (by rfl) ?_
    refine go_ops ok_X5_digitsNow_105_1 (L' := [some (.inr 10), some (.inl a1), none, none]) (st' := [.inl 0]) (σ1 := σ) rfl ?_
    subst h
    exact go_iret dc_X5_digitsNow_106 rfl
  have hf := go_ct (as := [.inr 10, .inl a1]) mk_X5_digitsNow (by rfl) (Nat.le_of_ble_eq_true rfl) key
  exact hf
theorem dc_X5_keep_20 : decode m_X5_keep.2.2.1 20 = .ok (.invokestatic 94, 3) := by decide +kernel
theorem dc_X5_keep_30 : decode m_X5_keep.2.2.1 30 = .ok (.invokestatic 94, 3) := by decide +kernel
theorem dc_X5_keep_40 : decode m_X5_keep.2.2.1 40 = .ok (.invokestatic 94, 3) := by decide +kernel
theorem dc_X5_keep_51 : decode m_X5_keep.2.2.1 51 = .ok (.invokestatic 94, 3) := by decide +kernel
theorem dc_X5_keep_60 : decode m_X5_keep.2.2.1 60 = .ok (.if_icmp .ge 65, 3) := by decide +kernel
theorem dc_X5_keep_71 : decode m_X5_keep.2.2.1 71 = .ok (.invokestatic 98, 3) := by decide +kernel
theorem dc_X5_keep_89 : decode m_X5_keep.2.2.1 89 = .ok (.invokestatic 94, 3) := by decide +kernel
theorem dc_X5_keep_101 : decode m_X5_keep.2.2.1 101 = .ok (.invokevirtual 102, 3) := by decide +kernel
theorem dc_X5_keep_107 : decode m_X5_keep.2.2.1 107 = .ok (.if_icmp .ne 7, 3) := by decide +kernel
theorem dc_X5_keep_111 : decode m_X5_keep.2.2.1 111 = .ok (.goto 4, 3) := by decide +kernel
theorem dc_X5_keep_116 : decode m_X5_keep.2.2.1 116 = .ok (.invokestatic 94, 3) := by decide +kernel
theorem dc_X5_keep_122 : decode m_X5_keep.2.2.1 122 = .ok (.goto (-65), 3) := by decide +kernel
theorem dc_X5_keep_127 : decode m_X5_keep.2.2.1 127 = .ok (.if_icmp .eq 17, 3) := by decide +kernel
theorem dc_X5_keep_132 : decode m_X5_keep.2.2.1 132 = .ok (.if_icmp .eq 12, 3) := by decide +kernel
theorem dc_X5_keep_137 : decode m_X5_keep.2.2.1 137 = .ok (.if_icmp .eq 7, 3) := by decide +kernel
theorem dc_X5_keep_141 : decode m_X5_keep.2.2.1 141 = .ok (.goto 4, 3) := by decide +kernel
theorem dc_X5_keep_160 : decode m_X5_keep.2.2.1 160 = .ok (.invokevirtual 86, 3) := by decide +kernel
theorem dc_X5_keep_165 : decode m_X5_keep.2.2.1 165 = .ok (.ifCond .eq 7, 3) := by decide +kernel
theorem dc_X5_keep_169 : decode m_X5_keep.2.2.1 169 = .ok (.goto 4, 3) := by decide +kernel
theorem dc_X5_keep_174 : decode m_X5_keep.2.2.1 174 = .ok (.invokestatic 94, 3) := by decide +kernel
theorem dc_X5_keep_187 : decode m_X5_keep.2.2.1 187 = .ok (.invokevirtual 77, 3) := by decide +kernel
theorem dc_X5_keep_194 : decode m_X5_keep.2.2.1 194 = .ok (.invokevirtual 77, 3) := by decide +kernel
theorem dc_X5_keep_201 : decode m_X5_keep.2.2.1 201 = .ok (.invokevirtual 77, 3) := by decide +kernel
theorem dc_X5_keep_205 : decode m_X5_keep.2.2.1 205 = .ok (.invokestatic 94, 3) := by decide +kernel
theorem dc_X5_keep_211 : decode m_X5_keep.2.2.1 211 = .ok (.invokevirtual 74, 3) := by decide +kernel
theorem dc_X5_keep_217 : decode m_X5_keep.2.2.1 217 = .ok (.invokevirtual 74, 3) := by decide +kernel
theorem dc_X5_keep_224 : decode m_X5_keep.2.2.1 224 = .ok (.invokevirtual 74, 3) := by decide +kernel
theorem dc_X5_keep_238 : decode m_X5_keep.2.2.1 238 = .ok (.if_icmp .ne 12, 3) := by decide +kernel
theorem dc_X5_keep_247 : decode m_X5_keep.2.2.1 247 = .ok (.goto 5, 3) := by decide +kernel
theorem dc_X5_keep_252 : decode m_X5_keep.2.2.1 252 = .ok (.invokestatic 94, 3) := by decide +kernel
theorem dc_X5_keep_257 : decode m_X5_keep.2.2.1 257 = .ok (.if_icmp .eq 30, 3) := by decide +kernel
theorem dc_X5_keep_263 : decode m_X5_keep.2.2.1 263 = .ok (.invokevirtual 105, 3) := by decide +kernel
theorem dc_X5_keep_266 : decode m_X5_keep.2.2.1 266 = .ok (.ifCond .ne 21, 3) := by decide +kernel
theorem dc_X5_keep_272 : decode m_X5_keep.2.2.1 272 = .ok (.invokevirtual 105, 3) := by decide +kernel
theorem dc_X5_keep_275 : decode m_X5_keep.2.2.1 275 = .ok (.ifCond .ne 12, 3) := by decide +kernel
theorem dc_X5_keep_281 : decode m_X5_keep.2.2.1 281 = .ok (.invokevirtual 105, 3) := by decide +kernel
theorem dc_X5_keep_284 : decode m_X5_keep.2.2.1 284 = .ok (.ifCond .eq 7, 3) := by decide +kernel
theorem dc_X5_keep_288 : decode m_X5_keep.2.2.1 288 = .ok (.goto 4, 3) := by decide +kernel
theorem dc_X5_keep_302 : decode m_X5_keep.2.2.1 302 = .ok (.ifCond .eq 7, 3) := by decide +kernel
theorem dc_X5_keep_306 : decode m_X5_keep.2.2.1 306 = .ok (.goto 4, 3) := by decide +kernel
theorem dc_X5_keep_310 : decode m_X5_keep.2.2.1 310 = .ok (.invokestatic 94, 3) := by decide +kernel
theorem dc_X5_keep_322 : decode m_X5_keep.2.2.1 322 = .ok (.invokevirtual 108, 3) := by decide +kernel
theorem dc_X5_keep_325 : decode m_X5_keep.2.2.1 325 = .ok (.invokestatic 94, 3) := by decide +kernel
theorem dc_X5_keep_330 : decode m_X5_keep.2.2.1 330 = .ok (.ireturn, 1) := by decide +kernel
theorem ok_X5_keep_0_12 : oks m_X5_keep.1 m_X5_keep.2.2.1 0 [(.aload_n 0, 1, (0, 0, 0)), (.dup, 1, (0, 0, 0)), (.getfield 9, 3, (5, 0, 0)), (.dup_x1, 1, (0, 0, 0)), (.iconst 1, 1, (0, 0, 0)), (.iadd, 1, (0, 0, 0)), (.putfield 9, 3, (5, 0, 0)), (.istore 8, 2, (0, 0, 0)), (.aload_n 0, 1, (0, 0, 0)), (.getfield 15, 3, (5, 1, 0)), (.iload 8, 2, (0, 0, 0)), (.iload_n 1, 1, (0, 0, 0))] = true ∧ plen 0 [(.aload_n 0, 1, (0, 0, 0)), (.dup, 1, (0, 0, 0)), (.getfield 9, 3, (5, 0, 0)), (.dup_x1, 1, (0, 0, 0)), (.iconst 1, 1, (0, 0, 0)), (.iadd, 1, (0, 0, 0)), (.putfield 9, 3, (5, 0, 0)), (.istore 8, 2, (0, 0, 0)), (.aload_n 0, 1, (0, 0, 0)), (.getfield 15, 3, (5, 1, 0)), (.iload 8, 2, (0, 0, 0)), (.iload_n 1, 1, (0, 0, 0))] = 20 := by decide +kernel
theorem ok_X5_keep_23_4 : oks m_X5_keep.1 m_X5_keep.2.2.1 23 [(.aload_n 0, 1, (0, 0, 0)), (.getfield 19, 3, (5, 2, 0)), (.iload 8, 2, (0, 0, 0)), (.iload_n 2, 1, (0, 0, 0))] = true ∧ plen 23 [(.aload_n 0, 1, (0, 0, 0)), (.getfield 19, 3, (5, 2, 0)), (.iload 8, 2, (0, 0, 0)), (.iload_n 2, 1, (0, 0, 0))] = 30 := by decide +kernel
theorem ok_X5_keep_33_4 : oks m_X5_keep.1 m_X5_keep.2.2.1 33 [(.aload_n 0, 1, (0, 0, 0)), (.getfield 22, 3, (5, 3, 0)), (.iload 8, 2, (0, 0, 0)), (.iload_n 3, 1, (0, 0, 0))] = true ∧ plen 33 [(.aload_n 0, 1, (0, 0, 0)), (.getfield 22, 3, (5, 3, 0)), (.iload 8, 2, (0, 0, 0)), (.iload_n 3, 1, (0, 0, 0))] = 40 := by decide +kernel
theorem ok_X5_keep_43_4 : oks m_X5_keep.1 m_X5_keep.2.2.1 43 [(.aload_n 0, 1, (0, 0, 0)), (.getfield 25, 3, (5, 4, 0)), (.iload 8, 2, (0, 0, 0)), (.iload 4, 2, (0, 0, 0))] = true ∧ plen 43 [(.aload_n 0, 1, (0, 0, 0)), (.getfield 25, 3, (5, 4, 0)), (.iload 8, 2, (0, 0, 0)), (.iload 4, 2, (0, 0, 0))] = 51 := by decide +kernel
theorem ok_X5_keep_54_2 : oks m_X5_keep.1 m_X5_keep.2.2.1 54 [(.iconst 0, 1, (0, 0, 0)), (.istore 9, 2, (0, 0, 0))] = true ∧ plen 54 [(.iconst 0, 1, (0, 0, 0)), (.istore 9, 2, (0, 0, 0))] = 57 := by decide +kernel
theorem ok_X5_keep_57_2 : oks m_X5_keep.1 m_X5_keep.2.2.1 57 [(.iload 9, 2, (0, 0, 0)), (.iconst 3, 1, (0, 0, 0))] = true ∧ plen 57 [(.iload 9, 2, (0, 0, 0)), (.iconst 3, 1, (0, 0, 0))] = 60 := by decide +kernel
theorem ok_X5_keep_63_4 : oks m_X5_keep.1 m_X5_keep.2.2.1 63 [(.iload 9, 2, (0, 0, 0)), (.iload 5, 2, (0, 0, 0)), (.iload 6, 2, (0, 0, 0)), (.iload 7, 2, (0, 0, 0))] = true ∧ plen 63 [(.iload 9, 2, (0, 0, 0)), (.iload 5, 2, (0, 0, 0)), (.iload 6, 2, (0, 0, 0)), (.iload 7, 2, (0, 0, 0))] = 71 := by decide +kernel
theorem ok_X5_keep_74_9 : oks m_X5_keep.1 m_X5_keep.2.2.1 74 [(.istore 10, 2, (0, 0, 0)), (.aload_n 0, 1, (0, 0, 0)), (.getfield 28, 3, (5, 5, 0)), (.iload 8, 2, (0, 0, 0)), (.iconst 3, 1, (0, 0, 0)), (.imul, 1, (0, 0, 0)), (.iload 9, 2, (0, 0, 0)), (.iadd, 1, (0, 0, 0)), (.iload 10, 2, (0, 0, 0))] = true ∧ plen 74 [(.istore 10, 2, (0, 0, 0)), (.aload_n 0, 1, (0, 0, 0)), (.getfield 28, 3, (5, 5, 0)), (.iload 8, 2, (0, 0, 0)), (.iconst 3, 1, (0, 0, 0)), (.imul, 1, (0, 0, 0)), (.iload 9, 2, (0, 0, 0)), (.iadd, 1, (0, 0, 0)), (.iload 10, 2, (0, 0, 0))] = 89 := by decide +kernel
theorem ok_X5_keep_92_5 : oks m_X5_keep.1 m_X5_keep.2.2.1 92 [(.aload_n 0, 1, (0, 0, 0)), (.getfield 31, 3, (5, 6, 0)), (.iload 8, 2, (0, 0, 0)), (.aload_n 0, 1, (0, 0, 0)), (.iload 8, 2, (0, 0, 0))] = true ∧ plen 92 [(.aload_n 0, 1, (0, 0, 0)), (.getfield 31, 3, (5, 6, 0)), (.iload 8, 2, (0, 0, 0)), (.aload_n 0, 1, (0, 0, 0)), (.iload 8, 2, (0, 0, 0))] = 101 := by decide +kernel
theorem ok_X5_keep_104_2 : oks m_X5_keep.1 m_X5_keep.2.2.1 104 [(.iload 10, 2, (0, 0, 0)), (.iconst (-1), 1, (0, 0, 0))] = true ∧ plen 104 [(.iload 10, 2, (0, 0, 0)), (.iconst (-1), 1, (0, 0, 0))] = 107 := by decide +kernel
theorem ok_X5_keep_110_1 : oks m_X5_keep.1 m_X5_keep.2.2.1 110 [(.iconst 0, 1, (0, 0, 0))] = true ∧ plen 110 [(.iconst 0, 1, (0, 0, 0))] = 111 := by decide +kernel
theorem ok_X5_keep_114_1 : oks m_X5_keep.1 m_X5_keep.2.2.1 114 [(.iconst 1, 1, (0, 0, 0))] = true ∧ plen 114 [(.iconst 1, 1, (0, 0, 0))] = 115 := by decide +kernel
theorem ok_X5_keep_115_1 : oks m_X5_keep.1 m_X5_keep.2.2.1 115 [(.iadd, 1, (0, 0, 0))] = true ∧ plen 115 [(.iadd, 1, (0, 0, 0))] = 116 := by decide +kernel
theorem ok_X5_keep_119_1 : oks m_X5_keep.1 m_X5_keep.2.2.1 119 [(.iinc 9 1, 3, (0, 0, 0))] = true ∧ plen 119 [(.iinc 9 1, 3, (0, 0, 0))] = 122 := by decide +kernel
theorem ok_X5_keep_125_2 : oks m_X5_keep.1 m_X5_keep.2.2.1 125 [(.iload_n 1, 1, (0, 0, 0)), (.iconst 1, 1, (0, 0, 0))] = true ∧ plen 125 [(.iload_n 1, 1, (0, 0, 0)), (.iconst 1, 1, (0, 0, 0))] = 127 := by decide +kernel
theorem ok_X5_keep_130_2 : oks m_X5_keep.1 m_X5_keep.2.2.1 130 [(.iload_n 1, 1, (0, 0, 0)), (.iconst 4, 1, (0, 0, 0))] = true ∧ plen 130 [(.iload_n 1, 1, (0, 0, 0)), (.iconst 4, 1, (0, 0, 0))] = 132 := by decide +kernel
theorem ok_X5_keep_135_2 : oks m_X5_keep.1 m_X5_keep.2.2.1 135 [(.iload_n 1, 1, (0, 0, 0)), (.iconst 5, 1, (0, 0, 0))] = true ∧ plen 135 [(.iload_n 1, 1, (0, 0, 0)), (.iconst 5, 1, (0, 0, 0))] = 137 := by decide +kernel
theorem ok_X5_keep_140_1 : oks m_X5_keep.1 m_X5_keep.2.2.1 140 [(.iconst 1, 1, (0, 0, 0))] = true ∧ plen 140 [(.iconst 1, 1, (0, 0, 0))] = 141 := by decide +kernel
theorem ok_X5_keep_144_1 : oks m_X5_keep.1 m_X5_keep.2.2.1 144 [(.iconst 0, 1, (0, 0, 0))] = true ∧ plen 144 [(.iconst 0, 1, (0, 0, 0))] = 145 := by decide +kernel
theorem ok_X5_keep_145_8 : oks m_X5_keep.1 m_X5_keep.2.2.1 145 [(.istore 9, 2, (0, 0, 0)), (.aload_n 0, 1, (0, 0, 0)), (.getfield 34, 3, (5, 7, 0)), (.iload 8, 2, (0, 0, 0)), (.aload_n 0, 1, (0, 0, 0)), (.iload 5, 2, (0, 0, 0)), (.iload 6, 2, (0, 0, 0)), (.iload 7, 2, (0, 0, 0))] = true ∧ plen 145 [(.istore 9, 2, (0, 0, 0)), (.aload_n 0, 1, (0, 0, 0)), (.getfield 34, 3, (5, 7, 0)), (.iload 8, 2, (0, 0, 0)), (.aload_n 0, 1, (0, 0, 0)), (.iload 5, 2, (0, 0, 0)), (.iload 6, 2, (0, 0, 0)), (.iload 7, 2, (0, 0, 0))] = 160 := by decide +kernel
theorem ok_X5_keep_163_1 : oks m_X5_keep.1 m_X5_keep.2.2.1 163 [(.iload 9, 2, (0, 0, 0))] = true ∧ plen 163 [(.iload 9, 2, (0, 0, 0))] = 165 := by decide +kernel
theorem ok_X5_keep_168_1 : oks m_X5_keep.1 m_X5_keep.2.2.1 168 [(.iconst 1, 1, (0, 0, 0))] = true ∧ plen 168 [(.iconst 1, 1, (0, 0, 0))] = 169 := by decide +kernel
theorem ok_X5_keep_172_1 : oks m_X5_keep.1 m_X5_keep.2.2.1 172 [(.iconst 0, 1, (0, 0, 0))] = true ∧ plen 172 [(.iconst 0, 1, (0, 0, 0))] = 173 := by decide +kernel
theorem ok_X5_keep_173_1 : oks m_X5_keep.1 m_X5_keep.2.2.1 173 [(.iadd, 1, (0, 0, 0))] = true ∧ plen 173 [(.iadd, 1, (0, 0, 0))] = 174 := by decide +kernel
theorem ok_X5_keep_177_6 : oks m_X5_keep.1 m_X5_keep.2.2.1 177 [(.aload_n 0, 1, (0, 0, 0)), (.getfield 37, 3, (5, 8, 0)), (.iload 8, 2, (0, 0, 0)), (.iconst 1, 1, (0, 0, 0)), (.aload_n 0, 1, (0, 0, 0)), (.iload 5, 2, (0, 0, 0))] = true ∧ plen 177 [(.aload_n 0, 1, (0, 0, 0)), (.getfield 37, 3, (5, 8, 0)), (.iload 8, 2, (0, 0, 0)), (.iconst 1, 1, (0, 0, 0)), (.aload_n 0, 1, (0, 0, 0)), (.iload 5, 2, (0, 0, 0))] = 187 := by decide +kernel
theorem ok_X5_keep_190_3 : oks m_X5_keep.1 m_X5_keep.2.2.1 190 [(.iadd, 1, (0, 0, 0)), (.aload_n 0, 1, (0, 0, 0)), (.iload 6, 2, (0, 0, 0))] = true ∧ plen 190 [(.iadd, 1, (0, 0, 0)), (.aload_n 0, 1, (0, 0, 0)), (.iload 6, 2, (0, 0, 0))] = 194 := by decide +kernel
theorem ok_X5_keep_197_3 : oks m_X5_keep.1 m_X5_keep.2.2.1 197 [(.iadd, 1, (0, 0, 0)), (.aload_n 0, 1, (0, 0, 0)), (.iload 7, 2, (0, 0, 0))] = true ∧ plen 197 [(.iadd, 1, (0, 0, 0)), (.aload_n 0, 1, (0, 0, 0)), (.iload 7, 2, (0, 0, 0))] = 201 := by decide +kernel
theorem ok_X5_keep_204_1 : oks m_X5_keep.1 m_X5_keep.2.2.1 204 [(.iadd, 1, (0, 0, 0))] = true ∧ plen 204 [(.iadd, 1, (0, 0, 0))] = 205 := by decide +kernel
theorem ok_X5_keep_208_2 : oks m_X5_keep.1 m_X5_keep.2.2.1 208 [(.aload_n 0, 1, (0, 0, 0)), (.iload 5, 2, (0, 0, 0))] = true ∧ plen 208 [(.aload_n 0, 1, (0, 0, 0)), (.iload 5, 2, (0, 0, 0))] = 211 := by decide +kernel
theorem ok_X5_keep_214_2 : oks m_X5_keep.1 m_X5_keep.2.2.1 214 [(.aload_n 0, 1, (0, 0, 0)), (.iload 6, 2, (0, 0, 0))] = true ∧ plen 214 [(.aload_n 0, 1, (0, 0, 0)), (.iload 6, 2, (0, 0, 0))] = 217 := by decide +kernel
theorem ok_X5_keep_220_3 : oks m_X5_keep.1 m_X5_keep.2.2.1 220 [(.ior, 1, (0, 0, 0)), (.aload_n 0, 1, (0, 0, 0)), (.iload 7, 2, (0, 0, 0))] = true ∧ plen 220 [(.ior, 1, (0, 0, 0)), (.aload_n 0, 1, (0, 0, 0)), (.iload 7, 2, (0, 0, 0))] = 224 := by decide +kernel
theorem ok_X5_keep_227_7 : oks m_X5_keep.1 m_X5_keep.2.2.1 227 [(.ior, 1, (0, 0, 0)), (.istore 10, 2, (0, 0, 0)), (.aload_n 0, 1, (0, 0, 0)), (.getfield 40, 3, (5, 9, 0)), (.iload 8, 2, (0, 0, 0)), (.iload_n 1, 1, (0, 0, 0)), (.iconst 1, 1, (0, 0, 0))] = true ∧ plen 227 [(.ior, 1, (0, 0, 0)), (.istore 10, 2, (0, 0, 0)), (.aload_n 0, 1, (0, 0, 0)), (.getfield 40, 3, (5, 9, 0)), (.iload 8, 2, (0, 0, 0)), (.iload_n 1, 1, (0, 0, 0)), (.iconst 1, 1, (0, 0, 0))] = 238 := by decide +kernel
theorem ok_X5_keep_241_5 : oks m_X5_keep.1 m_X5_keep.2.2.1 241 [(.iload 10, 2, (0, 0, 0)), (.iconst 1, 1, (0, 0, 0)), (.iload_n 3, 1, (0, 0, 0)), (.ishl, 1, (0, 0, 0)), (.ior, 1, (0, 0, 0))] = true ∧ plen 241 [(.iload 10, 2, (0, 0, 0)), (.iconst 1, 1, (0, 0, 0)), (.iload_n 3, 1, (0, 0, 0)), (.ishl, 1, (0, 0, 0)), (.ior, 1, (0, 0, 0))] = 247 := by decide +kernel
theorem ok_X5_keep_250_1 : oks m_X5_keep.1 m_X5_keep.2.2.1 250 [(.iload 10, 2, (0, 0, 0))] = true ∧ plen 250 [(.iload 10, 2, (0, 0, 0))] = 252 := by decide +kernel
theorem ok_X5_keep_255_2 : oks m_X5_keep.1 m_X5_keep.2.2.1 255 [(.iload_n 1, 1, (0, 0, 0)), (.iconst 5, 1, (0, 0, 0))] = true ∧ plen 255 [(.iload_n 1, 1, (0, 0, 0)), (.iconst 5, 1, (0, 0, 0))] = 257 := by decide +kernel
theorem ok_X5_keep_260_2 : oks m_X5_keep.1 m_X5_keep.2.2.1 260 [(.aload_n 0, 1, (0, 0, 0)), (.iload 5, 2, (0, 0, 0))] = true ∧ plen 260 [(.aload_n 0, 1, (0, 0, 0)), (.iload 5, 2, (0, 0, 0))] = 263 := by decide +kernel
theorem ok_X5_keep_269_2 : oks m_X5_keep.1 m_X5_keep.2.2.1 269 [(.aload_n 0, 1, (0, 0, 0)), (.iload 6, 2, (0, 0, 0))] = true ∧ plen 269 [(.aload_n 0, 1, (0, 0, 0)), (.iload 6, 2, (0, 0, 0))] = 272 := by decide +kernel
theorem ok_X5_keep_278_2 : oks m_X5_keep.1 m_X5_keep.2.2.1 278 [(.aload_n 0, 1, (0, 0, 0)), (.iload 7, 2, (0, 0, 0))] = true ∧ plen 278 [(.aload_n 0, 1, (0, 0, 0)), (.iload 7, 2, (0, 0, 0))] = 281 := by decide +kernel
theorem ok_X5_keep_287_1 : oks m_X5_keep.1 m_X5_keep.2.2.1 287 [(.iconst 1, 1, (0, 0, 0))] = true ∧ plen 287 [(.iconst 1, 1, (0, 0, 0))] = 288 := by decide +kernel
theorem ok_X5_keep_291_1 : oks m_X5_keep.1 m_X5_keep.2.2.1 291 [(.iconst 0, 1, (0, 0, 0))] = true ∧ plen 291 [(.iconst 0, 1, (0, 0, 0))] = 292 := by decide +kernel
theorem ok_X5_keep_292_5 : oks m_X5_keep.1 m_X5_keep.2.2.1 292 [(.istore 11, 2, (0, 0, 0)), (.aload_n 0, 1, (0, 0, 0)), (.getfield 43, 3, (5, 10, 0)), (.iload 8, 2, (0, 0, 0)), (.iload 11, 2, (0, 0, 0))] = true ∧ plen 292 [(.istore 11, 2, (0, 0, 0)), (.aload_n 0, 1, (0, 0, 0)), (.getfield 43, 3, (5, 10, 0)), (.iload 8, 2, (0, 0, 0)), (.iload 11, 2, (0, 0, 0))] = 302 := by decide +kernel
theorem ok_X5_keep_305_1 : oks m_X5_keep.1 m_X5_keep.2.2.1 305 [(.iconst 1, 1, (0, 0, 0))] = true ∧ plen 305 [(.iconst 1, 1, (0, 0, 0))] = 306 := by decide +kernel
theorem ok_X5_keep_309_1 : oks m_X5_keep.1 m_X5_keep.2.2.1 309 [(.iconst 0, 1, (0, 0, 0))] = true ∧ plen 309 [(.iconst 0, 1, (0, 0, 0))] = 310 := by decide +kernel
theorem ok_X5_keep_313_5 : oks m_X5_keep.1 m_X5_keep.2.2.1 313 [(.aload_n 0, 1, (0, 0, 0)), (.getfield 46, 3, (5, 11, 0)), (.iload 8, 2, (0, 0, 0)), (.aload_n 0, 1, (0, 0, 0)), (.iload 8, 2, (0, 0, 0))] = true ∧ plen 313 [(.aload_n 0, 1, (0, 0, 0)), (.getfield 46, 3, (5, 11, 0)), (.iload 8, 2, (0, 0, 0)), (.aload_n 0, 1, (0, 0, 0)), (.iload 8, 2, (0, 0, 0))] = 322 := by decide +kernel
theorem ok_X5_keep_328_1 : oks m_X5_keep.1 m_X5_keep.2.2.1 328 [(.iload 8, 2, (0, 0, 0))] = true ∧ plen 328 [(.iload 8, 2, (0, 0, 0))] = 330 := by decide +kernel
def B_X5_keep_115 (x9 : Int) (y0 : Bool) (y1 : Int) (y2 : Int) (σ : Sg) : Option ((Int × Sg) ⊕ Sg) :=
bnd (wrD σ 16 60 y2 (wrap (y1 + (b2i y0)))) fun s17 =>
some (.inl (wrap (x9 + 1), s17))
def L_X5_keep_57 (x5 : Int) (x6 : Int) (x7 : Int) (x8 : Int) (x9 : Int) (σ : Sg) : Option ((Int × Sg) ⊕ Sg) :=
if 3 ≤ x9 then
some (.inr σ)
else
bnd (F_X10_pick x9 x5 x6 x7) fun v13 =>
bnd (wrD σ 15 180 (wrap ((wrap (x8 * 3)) + x9)) v13) fun s15 =>
if v13 = (-1) then
B_X5_keep_115 x9 false (F_X5_partCount x8 s15) x8 s15
else
B_X5_keep_115 x9 true (F_X5_partCount x8 s15) x8 s15
def B_X5_keep_310 (x8 : Int) (y0 : Bool) (y1 : Int) (σ : Sg) : Option (Int × Sg) :=
bnd (wrD σ 20 60 y1 (b2i y0)) fun s29 =>
bnd (wrD s29 21 60 x8 (F_X5_digitsNow x8 s29)) fun s31 =>
some (x8, s31)
def B_X5_keep_292 (x8 : Int) (y0 : Bool) (σ : Sg) : Option (Int × Sg) :=
if y0 = true then
B_X5_keep_310 x8 true x8 σ
else
B_X5_keep_310 x8 false x8 σ
def B_X5_keep_287 (x8 : Int) (σ : Sg) : Option (Int × Sg) :=
B_X5_keep_292 x8 true σ
def B_X5_keep_252 (x1 : Int) (x5 : Int) (x6 : Int) (x7 : Int) (x8 : Int) (y0 : Int) (y1 : Int) (σ : Sg) : Option (Int × Sg) :=
bnd (wrD σ 19 60 y1 y0) fun s27 =>
if x1 = 5 then
B_X5_keep_287 x8 s27
else
if (F_X5_hasView x5 s27) = true then
B_X5_keep_287 x8 s27
else
if (F_X5_hasView x6 s27) = true then
B_X5_keep_287 x8 s27
else
if (F_X5_hasView x7 s27) = true then
B_X5_keep_287 x8 s27
else
B_X5_keep_292 x8 false s27
def B_X5_keep_173 (x1 : Int) (x3 : Int) (x5 : Int) (x6 : Int) (x7 : Int) (x8 : Int) (y0 : Bool) (y1 : Int) (y2 : Int) (σ : Sg) : Option (Int × Sg) :=
bnd (wrD σ 17 60 y2 (wrap (y1 + (b2i y0)))) fun s21 =>
bnd (wrD s21 18 60 x8 (wrap ((wrap ((wrap (1 + (F_X5_sizeOf x5 s21))) + (F_X5_sizeOf x6 s21))) + (F_X5_sizeOf x7 s21)))) fun s23 =>
bnd (jor (jor (F_X5_namesOf x5 s23) (F_X5_namesOf x6 s23)) (F_X5_namesOf x7 s23)) fun v25 =>
if x1 = 1 then
B_X5_keep_252 x1 x5 x6 x7 x8 (jor v25 (jshl 1 x3)) x8 s23
else
B_X5_keep_252 x1 x5 x6 x7 x8 v25 x8 s23
def B_X5_keep_145 (x1 : Int) (x3 : Int) (x5 : Int) (x6 : Int) (x7 : Int) (x8 : Int) (y0 : Bool) (σ : Sg) : Option (Int × Sg) :=
if y0 = true then
B_X5_keep_173 x1 x3 x5 x6 x7 x8 true (F_X5_deepest x5 x6 x7 σ) x8 σ
else
B_X5_keep_173 x1 x3 x5 x6 x7 x8 false (F_X5_deepest x5 x6 x7 σ) x8 σ
def B_X5_keep_144 (x1 : Int) (x3 : Int) (x5 : Int) (x6 : Int) (x7 : Int) (x8 : Int) (σ : Sg) : Option (Int × Sg) :=
B_X5_keep_145 x1 x3 x5 x6 x7 x8 false σ
def F_X5_keep (a1 : Int) (a2 : Int) (a3 : Int) (a4 : Int) (a5 : Int) (a6 : Int) (a7 : Int) (σ : Sg) : Option (Int × Sg) :=
bnd (up2 σ 10 0 (wrap ((σ 10 0) + 1))) fun s1 =>
bnd (σ 10 0) fun v3 =>
bnd (wrD s1 11 60 v3 a1) fun s5 =>
bnd (wrD s5 12 60 v3 a2) fun s7 =>
bnd (wrD s7 13 60 v3 a3) fun s9 =>
bnd (wrD s9 14 60 v3 a4) fun s11 =>
(iter (fun a : (Int × Sg) => L_X5_keep_57 a5 a6 a7 v3 a.1 a.2) 4 (0, s11)).bind fun y19 =>
if a1 = 1 then
B_X5_keep_144 a1 a3 a5 a6 a7 v3 y19
else
if a1 = 4 then
B_X5_keep_144 a1 a3 a5 a6 a7 v3 y19
else
if a1 = 5 then
B_X5_keep_144 a1 a3 a5 a6 a7 v3 y19
else
B_X5_keep_145 a1 a3 a5 a6 a7 v3 true y19
theorem lk_X5_keep (l : Launch) (d : Nat) (hd : 3 ≤ d) (a1 : Int) (a2 : Int) (a3 : Int) (a4 : Int) (a5 : Int) (a6 : Int) (a7 : Int) (σ : Sg) (q : (Int × Sg)) (h : F_X5_keep a1 a2 a3 a4 a5 a6 a7 σ = some q) : CT l d m_X5_keep.2.1 m_X5_keep.2.2.1 m_X5_keep.2.2.2.1 m_X5_keep.2.2.2.2 [.inr 10, .inl a1, .inl a2, .inl a3, .inl a4, .inl a5, .inl a6, .inl a7] (LAYC, σ) (some (.inl q.1)) (LAYC, q.2) := by
  obtain ⟨d, rfl⟩ : ∃ e, d = e + 1 := ⟨d - 1, by omega⟩
  have key : Go l m_X5_keep (d + 1) LAYC (.inl (some (.inl q.1))) q.2 0 [some (.inr 10), some (.inl a1), some (.inl a2), some (.inl a3), some (.inl a4), some (.inl a5), some (.inl a6), some (.inl a7), none, none, none, none] [] σ := by
    unfold F_X5_keep at h
    have hL_X5_keep_57 : ∀ (x1 : Int) (x3 : Int) (x5 : Int) (x6 : Int) (x7 : Int) (x8 : Int) (n : Nat) (a : (Int × Sg)) (y : Sg), iter (fun a : (Int × Sg) => L_X5_keep_57 x5 x6 x7 x8 a.1 a.2) n a = some y → (fun y : Sg => Go l m_X5_keep (d + 1) LAYC (.inl (some (.inl q.1))) q.2 125 [some (.inr 10), some (.inl x1), none, some (.inl x3), none, some (.inl x5), some (.inl x6), some (.inl x7), some (.inl x8), none, none, none] [] y) y → (fun a : (Int × Sg) => Go l m_X5_keep (d + 1) LAYC (.inl (some (.inl q.1))) q.2 57 [some (.inr 10), some (.inl x1), none, some (.inl x3), none, some (.inl x5), some (.inl x6), some (.inl x7), some (.inl x8), some (.inl a.1), none, none] [] a.2) a := by
      intro x1 x3 x5 x6 x7 x8
      refine go_iter (G := fun a : (Int × Sg) => Go l m_X5_keep (d + 1) LAYC (.inl (some (.inl q.1))) q.2 57 [some (.inr 10), some (.inl x1), none, some (.inl x3), none, some (.inl x5), some (.inl x6), some (.inl x7), some (.inl x8), some (.inl a.1), none, none] [] a.2) (K := fun y : Sg => Go l m_X5_keep (d + 1) LAYC (.inl (some (.inl q.1))) q.2 125 [some (.inr 10), some (.inl x1), none, some (.inl x3), none, some (.inl x5), some (.inl x6), some (.inl x7), some (.inl x8), none, none, none] [] y) ?_
      rintro ⟨x9, σ⟩ w h hK
      replace h : L_X5_keep_57 x5 x6 x7 x8 x9 σ = some w := h
      show Go l m_X5_keep (d + 1) LAYC (.inl (some (.inl q.1))) q.2 57 [some (.inr 10), some (.inl x1), none, some (.inl x3), none, some (.inl x5), some (.inl x6), some (.inl x7), some (.inl x8), some (.inl x9), none, none] [] σ
      unfold L_X5_keep_57 at h
      have hB_X5_keep_115 : ∀ (x9 : Int) (y0 : Bool) (y1 : Int) (y2 : Int) (σ : Sg), B_X5_keep_115 x9 y0 y1 y2 σ = some w → Go l m_X5_keep (d + 1) LAYC (.inl (some (.inl q.1))) q.2 115 [some (.inr 10), some (.inl x1), none, some (.inl x3), none, some (.inl x5), some (.inl x6), some (.inl x7), some (.inl x8), some (.inl x9), none, none] [.inl (b2i y0), .inl y1, .inl y2, .inr 16] σ := by
        intro x9 y0 y1 y2 σ h
        unfold B_X5_keep_115 at h
        refine go_ops ok_X5_keep_115_1 (L' := [some (.inr 10), some (.inl x1), none, some (.inl x3), none, some (.inl x5), some (.inl x6), some (.inl x7), some (.inl x8), some (.inl x9), none, none]) (st' := [.inl (wrap (y1 + (b2i y0))), .inl y2, .inr 16]) (σ1 := σ) rfl ?_
        obtain ⟨s17, e18, h⟩ := bnd_inv h
        refine go_SN (M1 := m_X10_put) (as := [.inr 16, .inl y2, .inl (wrap (y1 + (b2i y0)))]) (st := []) dc_X5_keep_116 ln_5_94 sm_X10_put mk_X10_put rfl (Nat.le_of_ble_eq_true rfl) (Nat.le_refl _) (v := none) (σ1 := s17) (lk_X10_put l d LAYC 16 60 rfl _ _ s17 e18) _ rfl ?_
        refine go_ops ok_X5_keep_119_1 (L' := [some (.inr 10), some (.inl x1), none, some (.inl x3), none, some (.inl x5), some (.inl x6), some (.inl x7), some (.inl x8), some (.inl (wrap (x9 + 1))), none, none]) (st' := []) (σ1 := s17) rfl ?_
        refine go_goto dc_X5_keep_122 (by rfl) ?_
        cases h
        exact hK
      refine go_ops ok_X5_keep_57_2 (L' := [some (.inr 10), some (.inl x1), none, some (.inl x3), none, some (.inl x5), some (.inl x6), some (.inl x7), some (.inl x8), some (.inl x9), none, none]) (st' := [.inl 3, .inl x9]) (σ1 := σ) rfl ?_
      refine go_icmp_ge dc_X5_keep_60 (by rfl) (fun hc => ?_) (fun hc => ?_)
      · replace h := (if_pos hc).symm.trans h
        cases h
        refine go_wk (L' := [some (.inr 10), some (.inl x1), none, some (.inl x3), none, some (.inl x5), some (.inl x6), some (.inl x7), some (.inl x8), none, none, none]) ⟨rfl, rfl, rfl, rfl, rfl, rfl, rfl, trivial⟩ ?_
        exact hK
      · replace h := (if_neg hc).symm.trans h
        refine go_ops ok_X5_keep_63_4 (L' := [some (.inr 10), some (.inl x1), none, some (.inl x3), none, some (.inl x5), some (.inl x6), some (.inl x7), some (.inl x8), some (.inl x9), none, none]) (st' := [.inl x7, .inl x6, .inl x5, .inl x9]) (σ1 := σ) rfl ?_
        refine go_SN (M1 := m_X10_pick) (as := [.inl x9, .inl x5, .inl x6, .inl x7]) (st := []) dc_X5_keep_71 ln_5_98 sm_X10_pick mk_X10_pick rfl (Nat.le_of_ble_eq_true rfl) (Nat.le_refl _) (v := (some (.inl (F_X10_pick x9 x5 x6 x7)))) (σ1 := σ) (lk_X10_pick l d (by omega) x9 x5 x6 x7 σ _ rfl) _ rfl ?_
        obtain ⟨v13, e14, h⟩ := bnd_inv h
        refine go_ops ok_X5_keep_74_9 (L' := [some (.inr 10), some (.inl x1), none, some (.inl x3), none, some (.inl x5), some (.inl x6), some (.inl x7), some (.inl x8), some (.inl x9), some (.inl v13), none]) (st' := [.inl v13, .inl (wrap ((wrap (x8 * 3)) + x9)), .inr 15]) (σ1 := σ) (by subst e14; rfl) ?_
        obtain ⟨s15, e16, h⟩ := bnd_inv h
        refine go_SN (M1 := m_X10_put) (as := [.inr 15, .inl (wrap ((wrap (x8 * 3)) + x9)), .inl v13]) (st := []) dc_X5_keep_89 ln_5_94 sm_X10_put mk_X10_put rfl (Nat.le_of_ble_eq_true rfl) (Nat.le_refl _) (v := none) (σ1 := s15) (lk_X10_put l d LAYC 15 180 rfl _ _ s15 e16) _ rfl ?_
        refine go_ops ok_X5_keep_92_5 (L' := [some (.inr 10), some (.inl x1), none, some (.inl x3), none, some (.inl x5), some (.inl x6), some (.inl x7), some (.inl x8), some (.inl x9), some (.inl v13), none]) (st' := [.inl x8, .inr 10, .inl x8, .inr 16]) (σ1 := s15) rfl ?_
        refine go_V (M1 := m_X5_partCount) (as := [.inl x8]) (st := [.inl x8, .inr 16]) (k := 10) (ci := 5) dc_X5_keep_101 ln_5_102 im_X5_partCount (by decide) rfl rfl mk_X5_partCount rfl (Nat.le_of_ble_eq_true rfl) (Nat.le_refl _) (v := (some (.inl (F_X5_partCount x8 s15)))) (σ1 := s15) (lk_X5_partCount l d (by omega) x8 s15 _ rfl) _ rfl ?_
        refine go_ops ok_X5_keep_104_2 (L' := [some (.inr 10), some (.inl x1), none, some (.inl x3), none, some (.inl x5), some (.inl x6), some (.inl x7), some (.inl x8), some (.inl x9), some (.inl v13), none]) (st' := [.inl (-1), .inl v13, .inl (F_X5_partCount x8 s15), .inl x8, .inr 16]) (σ1 := s15) rfl ?_
        refine go_icmp_ne dc_X5_keep_107 (by rfl) (fun hc => ?_) (fun hc => ?_)
        · replace h := (if_neg hc).symm.trans h
          refine go_ops ok_X5_keep_114_1 (L' := [some (.inr 10), some (.inl x1), none, some (.inl x3), none, some (.inl x5), some (.inl x6), some (.inl x7), some (.inl x8), some (.inl x9), some (.inl v13), none]) (st' := [.inl 1, .inl (F_X5_partCount x8 s15), .inl x8, .inr 16]) (σ1 := s15) rfl ?_
          refine go_wk (L' := [some (.inr 10), some (.inl x1), none, some (.inl x3), none, some (.inl x5), some (.inl x6), some (.inl x7), some (.inl x8), some (.inl x9), none, none]) ⟨rfl, rfl, rfl, rfl, rfl, rfl, rfl, rfl, trivial⟩ ?_
          exact hB_X5_keep_115 x9 true (F_X5_partCount x8 s15) x8 s15 h
        · replace h := (if_pos hc).symm.trans h
          refine go_ops ok_X5_keep_110_1 (L' := [some (.inr 10), some (.inl x1), none, some (.inl x3), none, some (.inl x5), some (.inl x6), some (.inl x7), some (.inl x8), some (.inl x9), some (.inl v13), none]) (st' := [.inl 0, .inl (F_X5_partCount x8 s15), .inl x8, .inr 16]) (σ1 := s15) rfl ?_
          refine go_goto dc_X5_keep_111 (by rfl) ?_
          refine go_wk (L' := [some (.inr 10), some (.inl x1), none, some (.inl x3), none, some (.inl x5), some (.inl x6), some (.inl x7), some (.inl x8), some (.inl x9), none, none]) ⟨rfl, rfl, rfl, rfl, rfl, rfl, rfl, rfl, trivial⟩ ?_
          exact hB_X5_keep_115 x9 false (F_X5_partCount x8 s15) x8 s15 h
    have hB_X5_keep_310 : ∀ (x8 : Int) (y0 : Bool) (y1 : Int) (σ : Sg), B_X5_keep_310 x8 y0 y1 σ = some q → Go l m_X5_keep (d + 1) LAYC (.inl (some (.inl q.1))) q.2 310 [some (.inr 10), none, none, none, none, none, none, none, some (.inl x8), none, none, none] [.inl (b2i y0), .inl y1, .inr 20] σ := by
      intro x8 y0 y1 σ h
      unfold B_X5_keep_310 at h
      obtain ⟨s29, e30, h⟩ := bnd_inv h
      refine go_SN (M1 := m_X10_put) (as := [.inr 20, .inl y1, .inl (b2i y0)]) (st := []) dc_X5_keep_310 ln_5_94 sm_X10_put mk_X10_put rfl (Nat.le_of_ble_eq_true rfl) (Nat.le_refl _) (v := none) (σ1 := s29) (lk_X10_put l d LAYC 20 60 rfl _ _ s29 e30) _ rfl ?_
      refine go_ops ok_X5_keep_313_5 (L' := [some (.inr 10), none, none, none, none, none, none, none, some (.inl x8), none, none, none]) (st' := [.inl x8, .inr 10, .inl x8, .inr 21]) (σ1 := s29) rfl ?_
      refine go_V (M1 := m_X5_digitsNow) (as := [.inl x8]) (st := [.inl x8, .inr 21]) (k := 10) (ci := 5) dc_X5_keep_322 ln_5_108 im_X5_digitsNow (by decide) rfl rfl mk_X5_digitsNow rfl (Nat.le_of_ble_eq_true rfl) (Nat.le_refl _) (v := (some (.inl (F_X5_digitsNow x8 s29)))) (σ1 := s29) (lk_X5_digitsNow l d (by omega) x8 s29 _ rfl) _ rfl ?_
      obtain ⟨s31, e32, h⟩ := bnd_inv h
      refine go_SN (M1 := m_X10_put) (as := [.inr 21, .inl x8, .inl (F_X5_digitsNow x8 s29)]) (st := []) dc_X5_keep_325 ln_5_94 sm_X10_put mk_X10_put rfl (Nat.le_of_ble_eq_true rfl) (Nat.le_refl _) (v := none) (σ1 := s31) (lk_X10_put l d LAYC 21 60 rfl _ _ s31 e32) _ rfl ?_
      refine go_ops ok_X5_keep_328_1 (L' := [some (.inr 10), none, none, none, none, none, none, none, some (.inl x8), none, none, none]) (st' := [.inl x8]) (σ1 := s31) rfl ?_
      have h9 := Option.some.inj h
      subst h9
      exact go_iret dc_X5_keep_330 rfl
    have hB_X5_keep_292 : ∀ (x8 : Int) (y0 : Bool) (σ : Sg), B_X5_keep_292 x8 y0 σ = some q → Go l m_X5_keep (d + 1) LAYC (.inl (some (.inl q.1))) q.2 292 [some (.inr 10), none, none, none, none, none, none, none, some (.inl x8), none, none, none] [.inl (b2i y0)] σ := by
      intro x8 y0 σ h
      unfold B_X5_keep_292 at h
      refine go_ops ok_X5_keep_292_5 (L' := [some (.inr 10), none, none, none, none, none, none, none, some (.inl x8), none, none, some (.inl (b2i y0))]) (st' := [.inl (b2i y0), .inl x8, .inr 20]) (σ1 := σ) rfl ?_
      refine go_ifb_eq dc_X5_keep_302 (by rfl) (fun hc => ?_) (fun hc => ?_)
      · replace h := (if_neg hc).symm.trans h
        refine go_ops ok_X5_keep_309_1 (L' := [some (.inr 10), none, none, none, none, none, none, none, some (.inl x8), none, none, some (.inl (b2i y0))]) (st' := [.inl 0, .inl x8, .inr 20]) (σ1 := σ) rfl ?_
        refine go_wk (L' := [some (.inr 10), none, none, none, none, none, none, none, some (.inl x8), none, none, none]) ⟨rfl, rfl, trivial⟩ ?_
        exact hB_X5_keep_310 x8 false x8 σ h
      · replace h := (if_pos hc).symm.trans h
        refine go_ops ok_X5_keep_305_1 (L' := [some (.inr 10), none, none, none, none, none, none, none, some (.inl x8), none, none, some (.inl (b2i y0))]) (st' := [.inl 1, .inl x8, .inr 20]) (σ1 := σ) rfl ?_
        refine go_goto dc_X5_keep_306 (by rfl) ?_
        refine go_wk (L' := [some (.inr 10), none, none, none, none, none, none, none, some (.inl x8), none, none, none]) ⟨rfl, rfl, trivial⟩ ?_
        exact hB_X5_keep_310 x8 true x8 σ h
    have hB_X5_keep_287 : ∀ (x8 : Int) (σ : Sg), B_X5_keep_287 x8 σ = some q → Go l m_X5_keep (d + 1) LAYC (.inl (some (.inl q.1))) q.2 287 [some (.inr 10), none, none, none, none, none, none, none, some (.inl x8), none, none, none] [] σ := by
      intro x8 σ h
      unfold B_X5_keep_287 at h
      refine go_ops ok_X5_keep_287_1 (L' := [some (.inr 10), none, none, none, none, none, none, none, some (.inl x8), none, none, none]) (st' := [.inl 1]) (σ1 := σ) rfl ?_
      refine go_goto dc_X5_keep_288 (by rfl) ?_
      exact hB_X5_keep_292 x8 true σ h
    have hB_X5_keep_252 : ∀ (x1 : Int) (x5 : Int) (x6 : Int) (x7 : Int) (x8 : Int) (y0 : Int) (y1 : Int) (σ : Sg), B_X5_keep_252 x1 x5 x6 x7 x8 y0 y1 σ = some q → Go l m_X5_keep (d + 1) LAYC (.inl (some (.inl q.1))) q.2 252 [some (.inr 10), some (.inl x1), none, none, none, some (.inl x5), some (.inl x6), some (.inl x7), some (.inl x8), none, none, none] [.inl y0, .inl y1, .inr 19] σ := by
      intro x1 x5 x6 x7 x8 y0 y1 σ h
      unfold B_X5_keep_252 at h
      obtain ⟨s27, e28, h⟩ := bnd_inv h
      refine go_SN (M1 := m_X10_put) (as := [.inr 19, .inl y1, .inl y0]) (st := []) dc_X5_keep_252 ln_5_94 sm_X10_put mk_X10_put rfl (Nat.le_of_ble_eq_true rfl) (Nat.le_refl _) (v := none) (σ1 := s27) (lk_X10_put l d LAYC 19 60 rfl _ _ s27 e28) _ rfl ?_
      refine go_ops ok_X5_keep_255_2 (L' := [some (.inr 10), some (.inl x1), none, none, none, some (.inl x5), some (.inl x6), some (.inl x7), some (.inl x8), none, none, none]) (st' := [.inl 5, .inl x1]) (σ1 := s27) rfl ?_
      refine go_icmp_eq dc_X5_keep_257 (by rfl) (fun hc => ?_) (fun hc => ?_)
      · replace h := (if_pos hc).symm.trans h
        refine go_wk (L' := [some (.inr 10), none, none, none, none, none, none, none, some (.inl x8), none, none, none]) ⟨rfl, rfl, trivial⟩ ?_
        exact hB_X5_keep_287 x8 s27 h
      · replace h := (if_neg hc).symm.trans h
        refine go_ops ok_X5_keep_260_2 (L' := [some (.inr 10), some (.inl x1), none, none, none, some (.inl x5), some (.inl x6), some (.inl x7), some (.inl x8), none, none, none]) (st' := [.inl x5, .inr 10]) (σ1 := s27) rfl ?_
        refine go_V (M1 := m_X5_hasView) (as := [.inl x5]) (st := []) (k := 10) (ci := 5) dc_X5_keep_263 ln_5_105 im_X5_hasView (by decide) rfl rfl mk_X5_hasView rfl (Nat.le_of_ble_eq_true rfl) (Nat.le_refl _) (v := (some (.inl (b2i (F_X5_hasView x5 s27))))) (σ1 := s27) (lk_X5_hasView l d (by omega) x5 s27 _ rfl) _ rfl ?_
        refine go_ifb_ne dc_X5_keep_266 (by rfl) (fun hc => ?_) (fun hc => ?_)
        · replace h := (if_pos hc).symm.trans h
          refine go_wk (L' := [some (.inr 10), none, none, none, none, none, none, none, some (.inl x8), none, none, none]) ⟨rfl, rfl, trivial⟩ ?_
          exact hB_X5_keep_287 x8 s27 h
        · replace h := (if_neg hc).symm.trans h
          refine go_ops ok_X5_keep_269_2 (L' := [some (.inr 10), some (.inl x1), none, none, none, some (.inl x5), some (.inl x6), some (.inl x7), some (.inl x8), none, none, none]) (st' := [.inl x6, .inr 10]) (σ1 := s27) rfl ?_
          refine go_V (M1 := m_X5_hasView) (as := [.inl x6]) (st := []) (k := 10) (ci := 5) dc_X5_keep_272 ln_5_105 im_X5_hasView (by decide) rfl rfl mk_X5_hasView rfl (Nat.le_of_ble_eq_true rfl) (Nat.le_refl _) (v := (some (.inl (b2i (F_X5_hasView x6 s27))))) (σ1 := s27) (lk_X5_hasView l d (by omega) x6 s27 _ rfl) _ rfl ?_
          refine go_ifb_ne dc_X5_keep_275 (by rfl) (fun hc => ?_) (fun hc => ?_)
          · replace h := (if_pos hc).symm.trans h
            refine go_wk (L' := [some (.inr 10), none, none, none, none, none, none, none, some (.inl x8), none, none, none]) ⟨rfl, rfl, trivial⟩ ?_
            exact hB_X5_keep_287 x8 s27 h
          · replace h := (if_neg hc).symm.trans h
            refine go_ops ok_X5_keep_278_2 (L' := [some (.inr 10), some (.inl x1), none, none, none, some (.inl x5), some (.inl x6), some (.inl x7), some (.inl x8), none, none, none]) (st' := [.inl x7, .inr 10]) (σ1 := s27) rfl ?_
            refine go_V (M1 := m_X5_hasView) (as := [.inl x7]) (st := []) (k := 10) (ci := 5) dc_X5_keep_281 ln_5_105 im_X5_hasView (by decide) rfl rfl mk_X5_hasView rfl (Nat.le_of_ble_eq_true rfl) (Nat.le_refl _) (v := (some (.inl (b2i (F_X5_hasView x7 s27))))) (σ1 := s27) (lk_X5_hasView l d (by omega) x7 s27 _ rfl) _ rfl ?_
            refine go_ifb_eq dc_X5_keep_284 (by rfl) (fun hc => ?_) (fun hc => ?_)
            · replace h := (if_neg hc).symm.trans h
              refine go_ops ok_X5_keep_291_1 (L' := [some (.inr 10), some (.inl x1), none, none, none, some (.inl x5), some (.inl x6), some (.inl x7), some (.inl x8), none, none, none]) (st' := [.inl 0]) (σ1 := s27) rfl ?_
              refine go_wk (L' := [some (.inr 10), none, none, none, none, none, none, none, some (.inl x8), none, none, none]) ⟨rfl, rfl, trivial⟩ ?_
              exact hB_X5_keep_292 x8 false s27 h
            · replace h := (if_pos hc).symm.trans h
              refine go_wk (L' := [some (.inr 10), none, none, none, none, none, none, none, some (.inl x8), none, none, none]) ⟨rfl, rfl, trivial⟩ ?_
              exact hB_X5_keep_287 x8 s27 h
    have hB_X5_keep_173 : ∀ (x1 : Int) (x3 : Int) (x5 : Int) (x6 : Int) (x7 : Int) (x8 : Int) (y0 : Bool) (y1 : Int) (y2 : Int) (σ : Sg), B_X5_keep_173 x1 x3 x5 x6 x7 x8 y0 y1 y2 σ = some q → Go l m_X5_keep (d + 1) LAYC (.inl (some (.inl q.1))) q.2 173 [some (.inr 10), some (.inl x1), none, some (.inl x3), none, some (.inl x5), some (.inl x6), some (.inl x7), some (.inl x8), none, none, none] [.inl (b2i y0), .inl y1, .inl y2, .inr 17] σ := by
      intro x1 x3 x5 x6 x7 x8 y0 y1 y2 σ h
      unfold B_X5_keep_173 at h
      refine go_ops ok_X5_keep_173_1 (L' := [some (.inr 10), some (.inl x1), none, some (.inl x3), none, some (.inl x5), some (.inl x6), some (.inl x7), some (.inl x8), none, none, none]) (st' := [.inl (wrap (y1 + (b2i y0))), .inl y2, .inr 17]) (σ1 := σ) rfl ?_
      obtain ⟨s21, e22, h⟩ := bnd_inv h
      refine go_SN (M1 := m_X10_put) (as := [.inr 17, .inl y2, .inl (wrap (y1 + (b2i y0)))]) (st := []) dc_X5_keep_174 ln_5_94 sm_X10_put mk_X10_put rfl (Nat.le_of_ble_eq_true rfl) (Nat.le_refl _) (v := none) (σ1 := s21) (lk_X10_put l d LAYC 17 60 rfl _ _ s21 e22) _ rfl ?_
      refine go_ops ok_X5_keep_177_6 (L' := [some (.inr 10), some (.inl x1), none, some (.inl x3), none, some (.inl x5), some (.inl x6), some (.inl x7), some (.inl x8), none, none, none]) (st' := [.inl x5, .inr 10, .inl 1, .inl x8, .inr 18]) (σ1 := s21) rfl ?_
      refine go_V (M1 := m_X5_sizeOf) (as := [.inl x5]) (st := [.inl 1, .inl x8, .inr 18]) (k := 10) (ci := 5) dc_X5_keep_187 ln_5_77 im_X5_sizeOf (by decide) rfl rfl mk_X5_sizeOf rfl (Nat.le_of_ble_eq_true rfl) (Nat.le_refl _) (v := (some (.inl (F_X5_sizeOf x5 s21)))) (σ1 := s21) (lk_X5_sizeOf l d (by omega) x5 s21 _ rfl) _ rfl ?_
      refine go_ops ok_X5_keep_190_3 (L' := [some (.inr 10), some (.inl x1), none, some (.inl x3), none, some (.inl x5), some (.inl x6), some (.inl x7), some (.inl x8), none, none, none]) (st' := [.inl x6, .inr 10, .inl (wrap (1 + (F_X5_sizeOf x5 s21))), .inl x8, .inr 18]) (σ1 := s21) rfl ?_
      refine go_V (M1 := m_X5_sizeOf) (as := [.inl x6]) (st := [.inl (wrap (1 + (F_X5_sizeOf x5 s21))), .inl x8, .inr 18]) (k := 10) (ci := 5) dc_X5_keep_194 ln_5_77 im_X5_sizeOf (by decide) rfl rfl mk_X5_sizeOf rfl (Nat.le_of_ble_eq_true rfl) (Nat.le_refl _) (v := (some (.inl (F_X5_sizeOf x6 s21)))) (σ1 := s21) (lk_X5_sizeOf l d (by omega) x6 s21 _ rfl) _ rfl ?_
      refine go_ops ok_X5_keep_197_3 (L' := [some (.inr 10), some (.inl x1), none, some (.inl x3), none, some (.inl x5), some (.inl x6), some (.inl x7), some (.inl x8), none, none, none]) (st' := [.inl x7, .inr 10, .inl (wrap ((wrap (1 + (F_X5_sizeOf x5 s21))) + (F_X5_sizeOf x6 s21))), .inl x8, .inr 18]) (σ1 := s21) rfl ?_
      refine go_V (M1 := m_X5_sizeOf) (as := [.inl x7]) (st := [.inl (wrap ((wrap (1 + (F_X5_sizeOf x5 s21))) + (F_X5_sizeOf x6 s21))), .inl x8, .inr 18]) (k := 10) (ci := 5) dc_X5_keep_201 ln_5_77 im_X5_sizeOf (by decide) rfl rfl mk_X5_sizeOf rfl (Nat.le_of_ble_eq_true rfl) (Nat.le_refl _) (v := (some (.inl (F_X5_sizeOf x7 s21)))) (σ1 := s21) (lk_X5_sizeOf l d (by omega) x7 s21 _ rfl) _ rfl ?_
      refine go_ops ok_X5_keep_204_1 (L' := [some (.inr 10), some (.inl x1), none, some (.inl x3), none, some (.inl x5), some (.inl x6), some (.inl x7), some (.inl x8), none, none, none]) (st' := [.inl (wrap ((wrap ((wrap (1 + (F_X5_sizeOf x5 s21))) + (F_X5_sizeOf x6 s21))) + (F_X5_sizeOf x7 s21))), .inl x8, .inr 18]) (σ1 := s21) rfl ?_
      obtain ⟨s23, e24, h⟩ := bnd_inv h
      refine go_SN (M1 := m_X10_put) (as := [.inr 18, .inl x8, .inl (wrap ((wrap ((wrap (1 + (F_X5_sizeOf x5 s21))) + (F_X5_sizeOf x6 s21))) + (F_X5_sizeOf x7 s21)))]) (st := []) dc_X5_keep_205 ln_5_94 sm_X10_put mk_X10_put rfl (Nat.le_of_ble_eq_true rfl) (Nat.le_refl _) (v := none) (σ1 := s23) (lk_X10_put l d LAYC 18 60 rfl _ _ s23 e24) _ rfl ?_
      refine go_ops ok_X5_keep_208_2 (L' := [some (.inr 10), some (.inl x1), none, some (.inl x3), none, some (.inl x5), some (.inl x6), some (.inl x7), some (.inl x8), none, none, none]) (st' := [.inl x5, .inr 10]) (σ1 := s23) rfl ?_
      refine go_V (M1 := m_X5_namesOf) (as := [.inl x5]) (st := []) (k := 10) (ci := 5) dc_X5_keep_211 ln_5_74 im_X5_namesOf (by decide) rfl rfl mk_X5_namesOf rfl (Nat.le_of_ble_eq_true rfl) (Nat.le_refl _) (v := (some (.inl (F_X5_namesOf x5 s23)))) (σ1 := s23) (lk_X5_namesOf l d (by omega) x5 s23 _ rfl) _ rfl ?_
      refine go_ops ok_X5_keep_214_2 (L' := [some (.inr 10), some (.inl x1), none, some (.inl x3), none, some (.inl x5), some (.inl x6), some (.inl x7), some (.inl x8), none, none, none]) (st' := [.inl x6, .inr 10, .inl (F_X5_namesOf x5 s23)]) (σ1 := s23) rfl ?_
      refine go_V (M1 := m_X5_namesOf) (as := [.inl x6]) (st := [.inl (F_X5_namesOf x5 s23)]) (k := 10) (ci := 5) dc_X5_keep_217 ln_5_74 im_X5_namesOf (by decide) rfl rfl mk_X5_namesOf rfl (Nat.le_of_ble_eq_true rfl) (Nat.le_refl _) (v := (some (.inl (F_X5_namesOf x6 s23)))) (σ1 := s23) (lk_X5_namesOf l d (by omega) x6 s23 _ rfl) _ rfl ?_
      refine go_ops ok_X5_keep_220_3 (L' := [some (.inr 10), some (.inl x1), none, some (.inl x3), none, some (.inl x5), some (.inl x6), some (.inl x7), some (.inl x8), none, none, none]) (st' := [.inl x7, .inr 10, .inl (jor (F_X5_namesOf x5 s23) (F_X5_namesOf x6 s23))]) (σ1 := s23) rfl ?_
      refine go_V (M1 := m_X5_namesOf) (as := [.inl x7]) (st := [.inl (jor (F_X5_namesOf x5 s23) (F_X5_namesOf x6 s23))]) (k := 10) (ci := 5) dc_X5_keep_224 ln_5_74 im_X5_namesOf (by decide) rfl rfl mk_X5_namesOf rfl (Nat.le_of_ble_eq_true rfl) (Nat.le_refl _) (v := (some (.inl (F_X5_namesOf x7 s23)))) (σ1 := s23) (lk_X5_namesOf l d (by omega) x7 s23 _ rfl) _ rfl ?_
      obtain ⟨v25, e26, h⟩ := bnd_inv h
      refine go_ops ok_X5_keep_227_7 (L' := [some (.inr 10), some (.inl x1), none, some (.inl x3), none, some (.inl x5), some (.inl x6), some (.inl x7), some (.inl x8), none, some (.inl v25), none]) (st' := [.inl 1, .inl x1, .inl x8, .inr 19]) (σ1 := s23) (by subst e26; rfl) ?_
      refine go_icmp_ne dc_X5_keep_238 (by rfl) (fun hc => ?_) (fun hc => ?_)
      · replace h := (if_neg hc).symm.trans h
        refine go_ops ok_X5_keep_250_1 (L' := [some (.inr 10), some (.inl x1), none, some (.inl x3), none, some (.inl x5), some (.inl x6), some (.inl x7), some (.inl x8), none, some (.inl v25), none]) (st' := [.inl v25, .inl x8, .inr 19]) (σ1 := s23) rfl ?_
        refine go_wk (L' := [some (.inr 10), some (.inl x1), none, none, none, some (.inl x5), some (.inl x6), some (.inl x7), some (.inl x8), none, none, none]) ⟨rfl, rfl, rfl, rfl, rfl, rfl, trivial⟩ ?_
        exact hB_X5_keep_252 x1 x5 x6 x7 x8 v25 x8 s23 h
      · replace h := (if_pos hc).symm.trans h
        refine go_ops ok_X5_keep_241_5 (L' := [some (.inr 10), some (.inl x1), none, some (.inl x3), none, some (.inl x5), some (.inl x6), some (.inl x7), some (.inl x8), none, some (.inl v25), none]) (st' := [.inl (jor v25 (jshl 1 x3)), .inl x8, .inr 19]) (σ1 := s23) rfl ?_
        refine go_goto dc_X5_keep_247 (by rfl) ?_
        refine go_wk (L' := [some (.inr 10), some (.inl x1), none, none, none, some (.inl x5), some (.inl x6), some (.inl x7), some (.inl x8), none, none, none]) ⟨rfl, rfl, rfl, rfl, rfl, rfl, trivial⟩ ?_
        exact hB_X5_keep_252 x1 x5 x6 x7 x8 (jor v25 (jshl 1 x3)) x8 s23 h
    have hB_X5_keep_145 : ∀ (x1 : Int) (x3 : Int) (x5 : Int) (x6 : Int) (x7 : Int) (x8 : Int) (y0 : Bool) (σ : Sg), B_X5_keep_145 x1 x3 x5 x6 x7 x8 y0 σ = some q → Go l m_X5_keep (d + 1) LAYC (.inl (some (.inl q.1))) q.2 145 [some (.inr 10), some (.inl x1), none, some (.inl x3), none, some (.inl x5), some (.inl x6), some (.inl x7), some (.inl x8), none, none, none] [.inl (b2i y0)] σ := by
      intro x1 x3 x5 x6 x7 x8 y0 σ h
      unfold B_X5_keep_145 at h
      refine go_ops ok_X5_keep_145_8 (L' := [some (.inr 10), some (.inl x1), none, some (.inl x3), none, some (.inl x5), some (.inl x6), some (.inl x7), some (.inl x8), some (.inl (b2i y0)), none, none]) (st' := [.inl x7, .inl x6, .inl x5, .inr 10, .inl x8, .inr 17]) (σ1 := σ) rfl ?_
      refine go_V (M1 := m_X5_deepest) (as := [.inl x5, .inl x6, .inl x7]) (st := [.inl x8, .inr 17]) (k := 10) (ci := 5) dc_X5_keep_160 ln_5_86 im_X5_deepest (by decide) rfl rfl mk_X5_deepest rfl (Nat.le_of_ble_eq_true rfl) (Nat.le_refl _) (v := (some (.inl (F_X5_deepest x5 x6 x7 σ)))) (σ1 := σ) (lk_X5_deepest l d (by omega) x5 x6 x7 σ _ rfl) _ rfl ?_
      refine go_ops ok_X5_keep_163_1 (L' := [some (.inr 10), some (.inl x1), none, some (.inl x3), none, some (.inl x5), some (.inl x6), some (.inl x7), some (.inl x8), some (.inl (b2i y0)), none, none]) (st' := [.inl (b2i y0), .inl (F_X5_deepest x5 x6 x7 σ), .inl x8, .inr 17]) (σ1 := σ) rfl ?_
      refine go_ifb_eq dc_X5_keep_165 (by rfl) (fun hc => ?_) (fun hc => ?_)
      · replace h := (if_neg hc).symm.trans h
        refine go_ops ok_X5_keep_172_1 (L' := [some (.inr 10), some (.inl x1), none, some (.inl x3), none, some (.inl x5), some (.inl x6), some (.inl x7), some (.inl x8), some (.inl (b2i y0)), none, none]) (st' := [.inl 0, .inl (F_X5_deepest x5 x6 x7 σ), .inl x8, .inr 17]) (σ1 := σ) rfl ?_
        refine go_wk (L' := [some (.inr 10), some (.inl x1), none, some (.inl x3), none, some (.inl x5), some (.inl x6), some (.inl x7), some (.inl x8), none, none, none]) ⟨rfl, rfl, rfl, rfl, rfl, rfl, rfl, trivial⟩ ?_
        exact hB_X5_keep_173 x1 x3 x5 x6 x7 x8 false (F_X5_deepest x5 x6 x7 σ) x8 σ h
      · replace h := (if_pos hc).symm.trans h
        refine go_ops ok_X5_keep_168_1 (L' := [some (.inr 10), some (.inl x1), none, some (.inl x3), none, some (.inl x5), some (.inl x6), some (.inl x7), some (.inl x8), some (.inl (b2i y0)), none, none]) (st' := [.inl 1, .inl (F_X5_deepest x5 x6 x7 σ), .inl x8, .inr 17]) (σ1 := σ) rfl ?_
        refine go_goto dc_X5_keep_169 (by rfl) ?_
        refine go_wk (L' := [some (.inr 10), some (.inl x1), none, some (.inl x3), none, some (.inl x5), some (.inl x6), some (.inl x7), some (.inl x8), none, none, none]) ⟨rfl, rfl, rfl, rfl, rfl, rfl, rfl, trivial⟩ ?_
        exact hB_X5_keep_173 x1 x3 x5 x6 x7 x8 true (F_X5_deepest x5 x6 x7 σ) x8 σ h
    have hB_X5_keep_144 : ∀ (x1 : Int) (x3 : Int) (x5 : Int) (x6 : Int) (x7 : Int) (x8 : Int) (σ : Sg), B_X5_keep_144 x1 x3 x5 x6 x7 x8 σ = some q → Go l m_X5_keep (d + 1) LAYC (.inl (some (.inl q.1))) q.2 144 [some (.inr 10), some (.inl x1), none, some (.inl x3), none, some (.inl x5), some (.inl x6), some (.inl x7), some (.inl x8), none, none, none] [] σ := by
      intro x1 x3 x5 x6 x7 x8 σ h
      unfold B_X5_keep_144 at h
      refine go_ops ok_X5_keep_144_1 (L' := [some (.inr 10), some (.inl x1), none, some (.inl x3), none, some (.inl x5), some (.inl x6), some (.inl x7), some (.inl x8), none, none, none]) (st' := [.inl 0]) (σ1 := σ) rfl ?_
      exact hB_X5_keep_145 x1 x3 x5 x6 x7 x8 false σ h
    obtain ⟨s1, e2, h⟩ := bnd_inv h
    obtain ⟨v3, e4, h⟩ := bnd_inv h
    refine go_ops ok_X5_keep_0_12 (L' := [some (.inr 10), some (.inl a1), some (.inl a2), some (.inl a3), some (.inl a4), some (.inl a5), some (.inl a6), some (.inl a7), some (.inl v3), none, none, none]) (st' := [.inl a1, .inl v3, .inr 11]) (σ1 := s1) (by subst e4; subst e2; rfl) ?_
    obtain ⟨s5, e6, h⟩ := bnd_inv h
    refine go_SN (M1 := m_X10_put) (as := [.inr 11, .inl v3, .inl a1]) (st := []) dc_X5_keep_20 ln_5_94 sm_X10_put mk_X10_put rfl (Nat.le_of_ble_eq_true rfl) (Nat.le_refl _) (v := none) (σ1 := s5) (lk_X10_put l d LAYC 11 60 rfl _ _ s5 e6) _ rfl ?_
    refine go_ops ok_X5_keep_23_4 (L' := [some (.inr 10), some (.inl a1), some (.inl a2), some (.inl a3), some (.inl a4), some (.inl a5), some (.inl a6), some (.inl a7), some (.inl v3), none, none, none]) (st' := [.inl a2, .inl v3, .inr 12]) (σ1 := s5) rfl ?_
    obtain ⟨s7, e8, h⟩ := bnd_inv h
    refine go_SN (M1 := m_X10_put) (as := [.inr 12, .inl v3, .inl a2]) (st := []) dc_X5_keep_30 ln_5_94 sm_X10_put mk_X10_put rfl (Nat.le_of_ble_eq_true rfl) (Nat.le_refl _) (v := none) (σ1 := s7) (lk_X10_put l d LAYC 12 60 rfl _ _ s7 e8) _ rfl ?_
    refine go_ops ok_X5_keep_33_4 (L' := [some (.inr 10), some (.inl a1), some (.inl a2), some (.inl a3), some (.inl a4), some (.inl a5), some (.inl a6), some (.inl a7), some (.inl v3), none, none, none]) (st' := [.inl a3, .inl v3, .inr 13]) (σ1 := s7) rfl ?_
    obtain ⟨s9, e10, h⟩ := bnd_inv h
    refine go_SN (M1 := m_X10_put) (as := [.inr 13, .inl v3, .inl a3]) (st := []) dc_X5_keep_40 ln_5_94 sm_X10_put mk_X10_put rfl (Nat.le_of_ble_eq_true rfl) (Nat.le_refl _) (v := none) (σ1 := s9) (lk_X10_put l d LAYC 13 60 rfl _ _ s9 e10) _ rfl ?_
    refine go_ops ok_X5_keep_43_4 (L' := [some (.inr 10), some (.inl a1), some (.inl a2), some (.inl a3), some (.inl a4), some (.inl a5), some (.inl a6), some (.inl a7), some (.inl v3), none, none, none]) (st' := [.inl a4, .inl v3, .inr 14]) (σ1 := s9) rfl ?_
    obtain ⟨s11, e12, h⟩ := bnd_inv h
    refine go_SN (M1 := m_X10_put) (as := [.inr 14, .inl v3, .inl a4]) (st := []) dc_X5_keep_51 ln_5_94 sm_X10_put mk_X10_put rfl (Nat.le_of_ble_eq_true rfl) (Nat.le_refl _) (v := none) (σ1 := s11) (lk_X10_put l d LAYC 14 60 rfl _ _ s11 e12) _ rfl ?_
    refine go_ops ok_X5_keep_54_2 (L' := [some (.inr 10), some (.inl a1), some (.inl a2), some (.inl a3), some (.inl a4), some (.inl a5), some (.inl a6), some (.inl a7), some (.inl v3), some (.inl 0), none, none]) (st' := []) (σ1 := s11) rfl ?_
    refine go_wk (L' := [some (.inr 10), some (.inl a1), none, some (.inl a3), none, some (.inl a5), some (.inl a6), some (.inl a7), some (.inl v3), some (.inl 0), none, none]) ⟨rfl, rfl, rfl, rfl, rfl, rfl, rfl, rfl, trivial⟩ ?_
    obtain ⟨y19, e20, h⟩ := bind_inv h
    refine hL_X5_keep_57 a1 a3 a5 a6 a7 v3 4 (0, s11) y19 e20 ?_
    show Go l m_X5_keep (d + 1) LAYC (.inl (some (.inl q.1))) q.2 125 [some (.inr 10), some (.inl a1), none, some (.inl a3), none, some (.inl a5), some (.inl a6), some (.inl a7), some (.inl v3), none, none, none] [] y19
    refine go_ops ok_X5_keep_125_2 (L' := [some (.inr 10), some (.inl a1), none, some (.inl a3), none, some (.inl a5), some (.inl a6), some (.inl a7), some (.inl v3), none, none, none]) (st' := [.inl 1, .inl a1]) (σ1 := y19) rfl ?_
    refine go_icmp_eq dc_X5_keep_127 (by rfl) (fun hc => ?_) (fun hc => ?_)
    · replace h := (if_pos hc).symm.trans h
      exact hB_X5_keep_144 a1 a3 a5 a6 a7 v3 y19 h
    · replace h := (if_neg hc).symm.trans h
      refine go_ops ok_X5_keep_130_2 (L' := [some (.inr 10), some (.inl a1), none, some (.inl a3), none, some (.inl a5), some (.inl a6), some (.inl a7), some (.inl v3), none, none, none]) (st' := [.inl 4, .inl a1]) (σ1 := y19) rfl ?_
      refine go_icmp_eq dc_X5_keep_132 (by rfl) (fun hc => ?_) (fun hc => ?_)
      · replace h := (if_pos hc).symm.trans h
        exact hB_X5_keep_144 a1 a3 a5 a6 a7 v3 y19 h
      · replace h := (if_neg hc).symm.trans h
        refine go_ops ok_X5_keep_135_2 (L' := [some (.inr 10), some (.inl a1), none, some (.inl a3), none, some (.inl a5), some (.inl a6), some (.inl a7), some (.inl v3), none, none, none]) (st' := [.inl 5, .inl a1]) (σ1 := y19) rfl ?_
        refine go_icmp_eq dc_X5_keep_137 (by rfl) (fun hc => ?_) (fun hc => ?_)
        · replace h := (if_pos hc).symm.trans h
          exact hB_X5_keep_144 a1 a3 a5 a6 a7 v3 y19 h
        · replace h := (if_neg hc).symm.trans h
          refine go_ops ok_X5_keep_140_1 (L' := [some (.inr 10), some (.inl a1), none, some (.inl a3), none, some (.inl a5), some (.inl a6), some (.inl a7), some (.inl v3), none, none, none]) (st' := [.inl 1]) (σ1 := y19) rfl ?_
          refine go_goto dc_X5_keep_141 (by rfl) ?_
          exact hB_X5_keep_145 a1 a3 a5 a6 a7 v3 true y19 h
  have hf := go_ct (as := [.inr 10, .inl a1, .inl a2, .inl a3, .inl a4, .inl a5, .inl a6, .inl a7]) mk_X5_keep (by rfl) (Nat.le_of_ble_eq_true rfl) key
  exact hf
theorem dc_X6_fitsNumber_4 : decode m_X6_fitsNumber.2.2.1 4 = .ok (.if_icmp .le 5, 3) := by decide +kernel
theorem dc_X6_fitsNumber_8 : decode m_X6_fitsNumber.2.2.1 8 = .ok (.ireturn, 1) := by decide +kernel
theorem dc_X6_fitsNumber_11 : decode m_X6_fitsNumber.2.2.1 11 = .ok (.invokevirtual 59, 3) := by decide +kernel
theorem dc_X6_fitsNumber_14 : decode m_X6_fitsNumber.2.2.1 14 = .ok (.lookupswitch 72 #[(0, 26), (4, 28)], 26) := by decide +kernel
theorem dc_X6_fitsNumber_41 : decode m_X6_fitsNumber.2.2.1 41 = .ok (.ireturn, 1) := by decide +kernel
theorem dc_X6_fitsNumber_47 : decode m_X6_fitsNumber.2.2.1 47 = .ok (.invokevirtual 71, 3) := by decide +kernel
theorem dc_X6_fitsNumber_55 : decode m_X6_fitsNumber.2.2.1 55 = .ok (.invokestatic 77, 3) := by decide +kernel
theorem dc_X6_fitsNumber_58 : decode m_X6_fitsNumber.2.2.1 58 = .ok (.ifCond .ne 22, 3) := by decide +kernel
theorem dc_X6_fitsNumber_66 : decode m_X6_fitsNumber.2.2.1 66 = .ok (.invokevirtual 71, 3) := by decide +kernel
theorem dc_X6_fitsNumber_74 : decode m_X6_fitsNumber.2.2.1 74 = .ok (.invokestatic 77, 3) := by decide +kernel
theorem dc_X6_fitsNumber_77 : decode m_X6_fitsNumber.2.2.1 77 = .ok (.ifCond .eq 7, 3) := by decide +kernel
theorem dc_X6_fitsNumber_81 : decode m_X6_fitsNumber.2.2.1 81 = .ok (.goto 4, 3) := by decide +kernel
theorem dc_X6_fitsNumber_85 : decode m_X6_fitsNumber.2.2.1 85 = .ok (.ireturn, 1) := by decide +kernel
theorem dc_X6_fitsNumber_87 : decode m_X6_fitsNumber.2.2.1 87 = .ok (.invokevirtual 87, 3) := by decide +kernel
theorem dc_X6_fitsNumber_93 : decode m_X6_fitsNumber.2.2.1 93 = .ok (.invokevirtual 90, 3) := by decide +kernel
theorem dc_X6_fitsNumber_96 : decode m_X6_fitsNumber.2.2.1 96 = .ok (.ireturn, 1) := by decide +kernel
theorem ok_X6_fitsNumber_0_2 : oks m_X6_fitsNumber.1 m_X6_fitsNumber.2.2.1 0 [(.iload 4, 2, (0, 0, 0)), (.bipush 40, 2, (0, 0, 0))] = true ∧ plen 0 [(.iload 4, 2, (0, 0, 0)), (.bipush 40, 2, (0, 0, 0))] = 4 := by decide +kernel
theorem ok_X6_fitsNumber_7_1 : oks m_X6_fitsNumber.1 m_X6_fitsNumber.2.2.1 7 [(.iconst 0, 1, (0, 0, 0))] = true ∧ plen 7 [(.iconst 0, 1, (0, 0, 0))] = 8 := by decide +kernel
theorem ok_X6_fitsNumber_9_2 : oks m_X6_fitsNumber.1 m_X6_fitsNumber.2.2.1 9 [(.aload_n 0, 1, (0, 0, 0)), (.iload_n 2, 1, (0, 0, 0))] = true ∧ plen 9 [(.aload_n 0, 1, (0, 0, 0)), (.iload_n 2, 1, (0, 0, 0))] = 11 := by decide +kernel
theorem ok_X6_fitsNumber_40_1 : oks m_X6_fitsNumber.1 m_X6_fitsNumber.2.2.1 40 [(.iconst 1, 1, (0, 0, 0))] = true ∧ plen 40 [(.iconst 1, 1, (0, 0, 0))] = 41 := by decide +kernel
theorem ok_X6_fitsNumber_42_5 : oks m_X6_fitsNumber.1 m_X6_fitsNumber.2.2.1 42 [(.aload_n 0, 1, (0, 0, 0)), (.aload_n 1, 1, (0, 0, 0)), (.aload_n 0, 1, (0, 0, 0)), (.iload_n 2, 1, (0, 0, 0)), (.iconst 0, 1, (0, 0, 0))] = true ∧ plen 42 [(.aload_n 0, 1, (0, 0, 0)), (.aload_n 1, 1, (0, 0, 0)), (.aload_n 0, 1, (0, 0, 0)), (.iload_n 2, 1, (0, 0, 0)), (.iconst 0, 1, (0, 0, 0))] = 47 := by decide +kernel
theorem ok_X6_fitsNumber_50_4 : oks m_X6_fitsNumber.1 m_X6_fitsNumber.2.2.1 50 [(.iload_n 3, 1, (0, 0, 0)), (.iload 4, 2, (0, 0, 0)), (.iconst 1, 1, (0, 0, 0)), (.iadd, 1, (0, 0, 0))] = true ∧ plen 50 [(.iload_n 3, 1, (0, 0, 0)), (.iload 4, 2, (0, 0, 0)), (.iconst 1, 1, (0, 0, 0)), (.iadd, 1, (0, 0, 0))] = 55 := by decide +kernel
theorem ok_X6_fitsNumber_61_5 : oks m_X6_fitsNumber.1 m_X6_fitsNumber.2.2.1 61 [(.aload_n 0, 1, (0, 0, 0)), (.aload_n 1, 1, (0, 0, 0)), (.aload_n 0, 1, (0, 0, 0)), (.iload_n 2, 1, (0, 0, 0)), (.iconst 1, 1, (0, 0, 0))] = true ∧ plen 61 [(.aload_n 0, 1, (0, 0, 0)), (.aload_n 1, 1, (0, 0, 0)), (.aload_n 0, 1, (0, 0, 0)), (.iload_n 2, 1, (0, 0, 0)), (.iconst 1, 1, (0, 0, 0))] = 66 := by decide +kernel
theorem ok_X6_fitsNumber_69_4 : oks m_X6_fitsNumber.1 m_X6_fitsNumber.2.2.1 69 [(.iload_n 3, 1, (0, 0, 0)), (.iload 4, 2, (0, 0, 0)), (.iconst 1, 1, (0, 0, 0)), (.iadd, 1, (0, 0, 0))] = true ∧ plen 69 [(.iload_n 3, 1, (0, 0, 0)), (.iload 4, 2, (0, 0, 0)), (.iconst 1, 1, (0, 0, 0)), (.iadd, 1, (0, 0, 0))] = 74 := by decide +kernel
theorem ok_X6_fitsNumber_80_1 : oks m_X6_fitsNumber.1 m_X6_fitsNumber.2.2.1 80 [(.iconst 1, 1, (0, 0, 0))] = true ∧ plen 80 [(.iconst 1, 1, (0, 0, 0))] = 81 := by decide +kernel
theorem ok_X6_fitsNumber_84_1 : oks m_X6_fitsNumber.1 m_X6_fitsNumber.2.2.1 84 [(.iconst 0, 1, (0, 0, 0))] = true ∧ plen 84 [(.iconst 0, 1, (0, 0, 0))] = 85 := by decide +kernel
theorem ok_X6_fitsNumber_86_1 : oks m_X6_fitsNumber.1 m_X6_fitsNumber.2.2.1 86 [(.aload_n 1, 1, (0, 0, 0))] = true ∧ plen 86 [(.aload_n 1, 1, (0, 0, 0))] = 87 := by decide +kernel
theorem ok_X6_fitsNumber_90_3 : oks m_X6_fitsNumber.1 m_X6_fitsNumber.2.2.1 90 [(.aload_n 0, 1, (0, 0, 0)), (.iload_n 2, 1, (0, 0, 0)), (.iload_n 3, 1, (0, 0, 0))] = true ∧ plen 90 [(.aload_n 0, 1, (0, 0, 0)), (.iload_n 2, 1, (0, 0, 0)), (.iload_n 3, 1, (0, 0, 0))] = 93 := by decide +kernel
def B_X6_fitsNumber_80 (rec : Int → Int → Int → Sg → Option (Bool × Sg)) (σ : Sg) : Option (Bool × Sg) :=
some (true, σ)
def G_X6_fitsNumber (rec : Int → Int → Int → Sg → Option (Bool × Sg)) (a2 : Int) (a3 : Int) (a4 : Int) (σ : Sg) : Option (Bool × Sg) :=
if a4 ≤ 40 then
if (F_X5_sortOf a2 σ) = 0 then
some (true, σ)
else if (F_X5_sortOf a2 σ) = 4 then
(rec (F_X5_partOf a2 0 σ) a3 (wrap (a4 + 1)) σ).bind fun q2 =>
if q2.1 = true then
B_X6_fitsNumber_80 rec q2.2
else
(rec (F_X5_partOf a2 1 q2.2) a3 (wrap (a4 + 1)) q2.2).bind fun q4 =>
if q4.1 = true then
B_X6_fitsNumber_80 rec q4.2
else
some (false, q4.2)
else bnd (F_X1_countTest σ) fun q7 =>
some (F_X5_accepts a2 a3 q7, q7)
else
some (false, σ)
theorem lk_X6_fitsNumber (l : Launch) (Dr : Nat) (rec : Int → Int → Int → Sg → Option (Bool × Sg)) (hrec : ∀ d, Dr ≤ d → ∀ (a2 : Int) (a3 : Int) (a4 : Int) (σ : Sg) (q : (Bool × Sg)), rec a2 a3 a4 σ = some q → CT l d m_X6_fitsNumber.2.1 m_X6_fitsNumber.2.2.1 m_X6_fitsNumber.2.2.2.1 m_X6_fitsNumber.2.2.2.2 [.inr 10, .inr 27, .inl a2, .inl a3, .inl a4] (LAYC, σ) (some (.inl (b2i q.1))) (LAYC, q.2)) (d : Nat) (hd : Dr + 1 ≤ d) (hdB : 3 ≤ d) (a2 : Int) (a3 : Int) (a4 : Int) (σ : Sg) (q : (Bool × Sg)) (h : G_X6_fitsNumber rec a2 a3 a4 σ = some q) : CT l d m_X6_fitsNumber.2.1 m_X6_fitsNumber.2.2.1 m_X6_fitsNumber.2.2.2.1 m_X6_fitsNumber.2.2.2.2 [.inr 10, .inr 27, .inl a2, .inl a3, .inl a4] (LAYC, σ) (some (.inl (b2i q.1))) (LAYC, q.2) := by
  obtain ⟨d, rfl⟩ : ∃ e, d = e + 1 := ⟨d - 1, by omega⟩
  have key : Go l m_X6_fitsNumber (d + 1) LAYC (.inl (some (.inl (b2i q.1)))) q.2 0 [some (.inr 10), some (.inr 27), some (.inl a2), some (.inl a3), some (.inl a4)] [] σ := by
    unfold G_X6_fitsNumber at h
    have hB_X6_fitsNumber_80 : ∀ (σ : Sg), B_X6_fitsNumber_80 rec σ = some q → Go l m_X6_fitsNumber (d + 1) LAYC (.inl (some (.inl (b2i q.1)))) q.2 80 [none, none, none, none, none] [] σ := by
      intro σ h
      unfold B_X6_fitsNumber_80 at h
      refine go_ops ok_X6_fitsNumber_80_1 (L' := [none, none, none, none, none]) (st' := [.inl 1]) (σ1 := σ) rfl ?_
      refine go_goto dc_X6_fitsNumber_81 (by rfl) ?_
      have h9 := Option.some.inj h
      subst h9
      exact go_zret (x := true) dc_X6_fitsNumber_85 rfl
    refine go_ops ok_X6_fitsNumber_0_2 (L' := [some (.inr 10), some (.inr 27), some (.inl a2), some (.inl a3), some (.inl a4)]) (st' := [.inl 40, .inl a4]) (σ1 := σ) rfl ?_
    refine go_icmp_le dc_X6_fitsNumber_4 (by rfl) (fun hc => ?_) (fun hc => ?_)
    · replace h := (if_pos hc).symm.trans h
      refine go_ops ok_X6_fitsNumber_9_2 (L' := [some (.inr 10), some (.inr 27), some (.inl a2), some (.inl a3), some (.inl a4)]) (st' := [.inl a2, .inr 10]) (σ1 := σ) rfl ?_
      refine go_V (M1 := m_X5_sortOf) (as := [.inl a2]) (st := []) (k := 10) (ci := 5) dc_X6_fitsNumber_11 ln_6_59 im_X5_sortOf (by decide) rfl rfl mk_X5_sortOf rfl (Nat.le_of_ble_eq_true rfl) (Nat.le_refl _) (v := (some (.inl (F_X5_sortOf a2 σ)))) (σ1 := σ) (lk_X5_sortOf l d (by omega) a2 σ _ rfl) _ rfl ?_
      rcases Decidable.em ((F_X5_sortOf a2 σ) = 0) with hs1 | hs1
      · replace h := (if_pos hs1).symm.trans h
        refine go_lsw (off := 26) dc_X6_fitsNumber_14 (by decide) (lsk hs1 (by decide +kernel)) (by rfl) ?_
        refine go_ops ok_X6_fitsNumber_40_1 (L' := [some (.inr 10), some (.inr 27), some (.inl a2), some (.inl a3), some (.inl a4)]) (st' := [.inl 1]) (σ1 := σ) rfl ?_
        have h9 := Option.some.inj h
        subst h9
        exact go_zret (x := true) dc_X6_fitsNumber_41 rfl
      replace h := (if_neg hs1).symm.trans h
      rcases Decidable.em ((F_X5_sortOf a2 σ) = 4) with hs6 | hs6
      · replace h := (if_pos hs6).symm.trans h
        refine go_lsw (off := 28) dc_X6_fitsNumber_14 (by decide) (lsk hs6 (by decide +kernel)) (by rfl) ?_
        refine go_ops ok_X6_fitsNumber_42_5 (L' := [some (.inr 10), some (.inr 27), some (.inl a2), some (.inl a3), some (.inl a4)]) (st' := [.inl 0, .inl a2, .inr 10, .inr 27, .inr 10]) (σ1 := σ) rfl ?_
        refine go_V (M1 := m_X5_partOf) (as := [.inl a2, .inl 0]) (st := [.inr 27, .inr 10]) (k := 10) (ci := 5) dc_X6_fitsNumber_47 ln_6_71 im_X5_partOf (by decide) rfl rfl mk_X5_partOf rfl (Nat.le_of_ble_eq_true rfl) (Nat.le_refl _) (v := (some (.inl (F_X5_partOf a2 0 σ)))) (σ1 := σ) (lk_X5_partOf l d (by omega) a2 0 σ _ rfl) _ rfl ?_
        refine go_ops ok_X6_fitsNumber_50_4 (L' := [some (.inr 10), some (.inr 27), some (.inl a2), some (.inl a3), some (.inl a4)]) (st' := [.inl (wrap (a4 + 1)), .inl a3, .inl (F_X5_partOf a2 0 σ), .inr 27, .inr 10]) (σ1 := σ) rfl ?_
        obtain ⟨q2, e3, h⟩ := bind_inv h
        refine go_S (M1 := m_X6_fitsNumber) (as := [.inr 10, .inr 27, .inl (F_X5_partOf a2 0 σ), .inl a3, .inl (wrap (a4 + 1))]) (st := []) dc_X6_fitsNumber_55 ln_6_77 sm_X6_fitsNumber mk_X6_fitsNumber rfl (Nat.le_of_ble_eq_true rfl) (Nat.le_refl _) (v := (some (.inl (b2i q2.1)))) (σ1 := q2.2) (hrec d (by omega) (F_X5_partOf a2 0 σ) a3 (wrap (a4 + 1)) σ q2 e3) _ rfl ?_
        refine go_ifb_ne dc_X6_fitsNumber_58 (by rfl) (fun hc => ?_) (fun hc => ?_)
        · replace h := (if_pos hc).symm.trans h
          refine go_wk (L' := [none, none, none, none, none]) trivial ?_
          exact hB_X6_fitsNumber_80 q2.2 h
        · replace h := (if_neg hc).symm.trans h
          refine go_ops ok_X6_fitsNumber_61_5 (L' := [some (.inr 10), some (.inr 27), some (.inl a2), some (.inl a3), some (.inl a4)]) (st' := [.inl 1, .inl a2, .inr 10, .inr 27, .inr 10]) (σ1 := q2.2) rfl ?_
          refine go_V (M1 := m_X5_partOf) (as := [.inl a2, .inl 1]) (st := [.inr 27, .inr 10]) (k := 10) (ci := 5) dc_X6_fitsNumber_66 ln_6_71 im_X5_partOf (by decide) rfl rfl mk_X5_partOf rfl (Nat.le_of_ble_eq_true rfl) (Nat.le_refl _) (v := (some (.inl (F_X5_partOf a2 1 q2.2)))) (σ1 := q2.2) (lk_X5_partOf l d (by omega) a2 1 q2.2 _ rfl) _ rfl ?_
          refine go_ops ok_X6_fitsNumber_69_4 (L' := [some (.inr 10), some (.inr 27), some (.inl a2), some (.inl a3), some (.inl a4)]) (st' := [.inl (wrap (a4 + 1)), .inl a3, .inl (F_X5_partOf a2 1 q2.2), .inr 27, .inr 10]) (σ1 := q2.2) rfl ?_
          obtain ⟨q4, e5, h⟩ := bind_inv h
          refine go_S (M1 := m_X6_fitsNumber) (as := [.inr 10, .inr 27, .inl (F_X5_partOf a2 1 q2.2), .inl a3, .inl (wrap (a4 + 1))]) (st := []) dc_X6_fitsNumber_74 ln_6_77 sm_X6_fitsNumber mk_X6_fitsNumber rfl (Nat.le_of_ble_eq_true rfl) (Nat.le_refl _) (v := (some (.inl (b2i q4.1)))) (σ1 := q4.2) (hrec d (by omega) (F_X5_partOf a2 1 q2.2) a3 (wrap (a4 + 1)) q2.2 q4 e5) _ rfl ?_
          refine go_ifb_eq dc_X6_fitsNumber_77 (by rfl) (fun hc => ?_) (fun hc => ?_)
          · replace h := (if_neg hc).symm.trans h
            refine go_ops ok_X6_fitsNumber_84_1 (L' := [some (.inr 10), some (.inr 27), some (.inl a2), some (.inl a3), some (.inl a4)]) (st' := [.inl 0]) (σ1 := q4.2) rfl ?_
            have h9 := Option.some.inj h
            subst h9
            exact go_zret (x := false) dc_X6_fitsNumber_85 rfl
          · replace h := (if_pos hc).symm.trans h
            refine go_wk (L' := [none, none, none, none, none]) trivial ?_
            exact hB_X6_fitsNumber_80 q4.2 h
      replace h := (if_neg hs6).symm.trans h
      refine go_lsw (off := 72) dc_X6_fitsNumber_14 (by decide) (ls_d [0, 4] (nn1 hs1 (nn1 hs6 nn0)) (by decide +kernel)) (by rfl) ?_
      refine go_ops ok_X6_fitsNumber_86_1 (L' := [some (.inr 10), some (.inr 27), some (.inl a2), some (.inl a3), some (.inl a4)]) (st' := [.inr 27]) (σ1 := σ) rfl ?_
      obtain ⟨q7, e8, h⟩ := bnd_inv h
      refine go_V (M1 := m_X1_countTest) (as := []) (st := []) (k := 27) (ci := 1) dc_X6_fitsNumber_87 ln_6_87 im_X1_countTest (by decide) rfl rfl mk_X1_countTest rfl (Nat.le_of_ble_eq_true rfl) (Nat.le_refl _) (v := none) (σ1 := q7) (lk_X1_countTest l d (by omega) σ q7 e8.symm) _ rfl ?_
      refine go_ops ok_X6_fitsNumber_90_3 (L' := [some (.inr 10), some (.inr 27), some (.inl a2), some (.inl a3), some (.inl a4)]) (st' := [.inl a3, .inl a2, .inr 10]) (σ1 := q7) rfl ?_
      refine go_V (M1 := m_X5_accepts) (as := [.inl a2, .inl a3]) (st := []) (k := 10) (ci := 5) dc_X6_fitsNumber_93 ln_6_90 im_X5_accepts (by decide) rfl rfl mk_X5_accepts rfl (Nat.le_of_ble_eq_true rfl) (Nat.le_refl _) (v := (some (.inl (b2i (F_X5_accepts a2 a3 q7))))) (σ1 := q7) (lk_X5_accepts l d (by omega) a2 a3 q7 _ rfl) _ rfl ?_
      have h9 := Option.some.inj h
      subst h9
      exact go_zret (x := (F_X5_accepts a2 a3 q7)) dc_X6_fitsNumber_96 rfl
    · replace h := (if_neg hc).symm.trans h
      refine go_ops ok_X6_fitsNumber_7_1 (L' := [some (.inr 10), some (.inr 27), some (.inl a2), some (.inl a3), some (.inl a4)]) (st' := [.inl 0]) (σ1 := σ) rfl ?_
      have h9 := Option.some.inj h
      subst h9
      exact go_zret (x := false) dc_X6_fitsNumber_8 rfl
  have hf := go_ct (as := [.inr 10, .inr 27, .inl a2, .inl a3, .inl a4]) mk_X6_fitsNumber (by rfl) (Nat.le_of_ble_eq_true rfl) key
  exact hf
def F_X6_fitsNumber : Nat → Int → Int → Int → Sg → Option (Bool × Sg)
  | 0 => fun _ _ _ _ => none
  | n + 1 => G_X6_fitsNumber (F_X6_fitsNumber n)
theorem lkr_X6_fitsNumber (l : Launch) : ∀ (n d : Nat), 1 * n + 3 ≤ d → ∀ (a2 : Int) (a3 : Int) (a4 : Int) (σ : Sg) (q : (Bool × Sg)), F_X6_fitsNumber n a2 a3 a4 σ = some q → CT l d m_X6_fitsNumber.2.1 m_X6_fitsNumber.2.2.1 m_X6_fitsNumber.2.2.2.1 m_X6_fitsNumber.2.2.2.2 [.inr 10, .inr 27, .inl a2, .inl a3, .inl a4] (LAYC, σ) (some (.inl (b2i q.1))) (LAYC, q.2)
  | 0, d, hd, a2, a3, a4, σ, q, h => by cases h
  | n + 1, d, hd, a2, a3, a4, σ, q, h => lk_X6_fitsNumber l (1 * n + 3) (F_X6_fitsNumber n) (fun d hd => lkr_X6_fitsNumber l n d hd) d (by omega) (by omega) a2 a3 a4 σ q h
theorem dc_X6_fitsHead_5 : decode m_X6_fitsHead.2.2.1 5 = .ok (.invokevirtual 84, 3) := by decide +kernel
theorem dc_X6_fitsHead_14 : decode m_X6_fitsHead.2.2.1 14 = .ok (.invokevirtual 87, 3) := by decide +kernel
theorem dc_X6_fitsHead_24 : decode m_X6_fitsHead.2.2.1 24 = .ok (.invokevirtual 90, 3) := by decide +kernel
theorem dc_X6_fitsHead_27 : decode m_X6_fitsHead.2.2.1 27 = .ok (.ifCond .ne 5, 3) := by decide +kernel
theorem dc_X6_fitsHead_31 : decode m_X6_fitsHead.2.2.1 31 = .ok (.ireturn, 1) := by decide +kernel
theorem dc_X6_fitsHead_37 : decode m_X6_fitsHead.2.2.1 37 = .ok (.invokevirtual 94, 3) := by decide +kernel
theorem dc_X6_fitsHead_47 : decode m_X6_fitsHead.2.2.1 47 = .ok (.invokevirtual 98, 3) := by decide +kernel
theorem dc_X6_fitsHead_62 : decode m_X6_fitsHead.2.2.1 62 = .ok (.invokevirtual 101, 3) := by decide +kernel
theorem dc_X6_fitsHead_65 : decode m_X6_fitsHead.2.2.1 65 = .ok (.if_icmp .ge 40, 3) := by decide +kernel
theorem dc_X6_fitsHead_76 : decode m_X6_fitsHead.2.2.1 76 = .ok (.invokevirtual 71, 3) := by decide +kernel
theorem dc_X6_fitsHead_85 : decode m_X6_fitsHead.2.2.1 85 = .ok (.invokestatic 104, 3) := by decide +kernel
theorem dc_X6_fitsHead_91 : decode m_X6_fitsHead.2.2.1 91 = .ok (.invokevirtual 55, 3) := by decide +kernel
theorem dc_X6_fitsHead_94 : decode m_X6_fitsHead.2.2.1 94 = .ok (.ifCond .ne 5, 3) := by decide +kernel
theorem dc_X6_fitsHead_98 : decode m_X6_fitsHead.2.2.1 98 = .ok (.ireturn, 1) := by decide +kernel
theorem dc_X6_fitsHead_102 : decode m_X6_fitsHead.2.2.1 102 = .ok (.goto (-47), 3) := by decide +kernel
theorem dc_X6_fitsHead_106 : decode m_X6_fitsHead.2.2.1 106 = .ok (.ireturn, 1) := by decide +kernel
theorem ok_X6_fitsHead_0_3 : oks m_X6_fitsHead.1 m_X6_fitsHead.2.2.1 0 [(.aload_n 0, 1, (0, 0, 0)), (.getfield 19, 3, (6, 2, 0)), (.iload_n 2, 1, (0, 0, 0))] = true ∧ plen 0 [(.aload_n 0, 1, (0, 0, 0)), (.getfield 19, 3, (6, 2, 0)), (.iload_n 2, 1, (0, 0, 0))] = 5 := by decide +kernel
theorem ok_X6_fitsHead_8_3 : oks m_X6_fitsHead.1 m_X6_fitsHead.2.2.1 8 [(.istore 4, 2, (0, 0, 0)), (.aload_n 0, 1, (0, 0, 0)), (.getfield 19, 3, (6, 2, 0))] = true ∧ plen 8 [(.istore 4, 2, (0, 0, 0)), (.aload_n 0, 1, (0, 0, 0)), (.getfield 19, 3, (6, 2, 0))] = 14 := by decide +kernel
theorem ok_X6_fitsHead_17_4 : oks m_X6_fitsHead.1 m_X6_fitsHead.2.2.1 17 [(.aload_n 0, 1, (0, 0, 0)), (.getfield 9, 3, (6, 0, 0)), (.iload_n 1, 1, (0, 0, 0)), (.iload 4, 2, (0, 0, 0))] = true ∧ plen 17 [(.aload_n 0, 1, (0, 0, 0)), (.getfield 9, 3, (6, 0, 0)), (.iload_n 1, 1, (0, 0, 0)), (.iload 4, 2, (0, 0, 0))] = 24 := by decide +kernel
theorem ok_X6_fitsHead_30_1 : oks m_X6_fitsHead.1 m_X6_fitsHead.2.2.1 30 [(.iconst 0, 1, (0, 0, 0))] = true ∧ plen 30 [(.iconst 0, 1, (0, 0, 0))] = 31 := by decide +kernel
theorem ok_X6_fitsHead_32_3 : oks m_X6_fitsHead.1 m_X6_fitsHead.2.2.1 32 [(.aload_n 0, 1, (0, 0, 0)), (.getfield 19, 3, (6, 2, 0)), (.iload_n 2, 1, (0, 0, 0))] = true ∧ plen 32 [(.aload_n 0, 1, (0, 0, 0)), (.getfield 19, 3, (6, 2, 0)), (.iload_n 2, 1, (0, 0, 0))] = 37 := by decide +kernel
theorem ok_X6_fitsHead_40_4 : oks m_X6_fitsHead.1 m_X6_fitsHead.2.2.1 40 [(.aload_n 0, 1, (0, 0, 0)), (.getfield 9, 3, (6, 0, 0)), (.iload_n 1, 1, (0, 0, 0)), (.iload 4, 2, (0, 0, 0))] = true ∧ plen 40 [(.aload_n 0, 1, (0, 0, 0)), (.getfield 9, 3, (6, 0, 0)), (.iload_n 1, 1, (0, 0, 0)), (.iload 4, 2, (0, 0, 0))] = 47 := by decide +kernel
theorem ok_X6_fitsHead_50_3 : oks m_X6_fitsHead.1 m_X6_fitsHead.2.2.1 50 [(.istore 5, 2, (0, 0, 0)), (.iconst 0, 1, (0, 0, 0)), (.istore 6, 2, (0, 0, 0))] = true ∧ plen 50 [(.istore 5, 2, (0, 0, 0)), (.iconst 0, 1, (0, 0, 0)), (.istore 6, 2, (0, 0, 0))] = 55 := by decide +kernel
theorem ok_X6_fitsHead_55_4 : oks m_X6_fitsHead.1 m_X6_fitsHead.2.2.1 55 [(.iload 6, 2, (0, 0, 0)), (.aload_n 0, 1, (0, 0, 0)), (.getfield 9, 3, (6, 0, 0)), (.iload_n 1, 1, (0, 0, 0))] = true ∧ plen 55 [(.iload 6, 2, (0, 0, 0)), (.aload_n 0, 1, (0, 0, 0)), (.getfield 9, 3, (6, 0, 0)), (.iload_n 1, 1, (0, 0, 0))] = 62 := by decide +kernel
theorem ok_X6_fitsHead_68_5 : oks m_X6_fitsHead.1 m_X6_fitsHead.2.2.1 68 [(.aload_n 0, 1, (0, 0, 0)), (.aload_n 0, 1, (0, 0, 0)), (.getfield 9, 3, (6, 0, 0)), (.iload_n 1, 1, (0, 0, 0)), (.iload 6, 2, (0, 0, 0))] = true ∧ plen 68 [(.aload_n 0, 1, (0, 0, 0)), (.aload_n 0, 1, (0, 0, 0)), (.getfield 9, 3, (6, 0, 0)), (.iload_n 1, 1, (0, 0, 0)), (.iload 6, 2, (0, 0, 0))] = 76 := by decide +kernel
theorem ok_X6_fitsHead_79_4 : oks m_X6_fitsHead.1 m_X6_fitsHead.2.2.1 79 [(.iload_n 2, 1, (0, 0, 0)), (.iload 5, 2, (0, 0, 0)), (.iload 6, 2, (0, 0, 0)), (.iadd, 1, (0, 0, 0))] = true ∧ plen 79 [(.iload_n 2, 1, (0, 0, 0)), (.iload 5, 2, (0, 0, 0)), (.iload 6, 2, (0, 0, 0)), (.iadd, 1, (0, 0, 0))] = 85 := by decide +kernel
theorem ok_X6_fitsHead_88_3 : oks m_X6_fitsHead.1 m_X6_fitsHead.2.2.1 88 [(.iload_n 3, 1, (0, 0, 0)), (.iconst 1, 1, (0, 0, 0)), (.iadd, 1, (0, 0, 0))] = true ∧ plen 88 [(.iload_n 3, 1, (0, 0, 0)), (.iconst 1, 1, (0, 0, 0)), (.iadd, 1, (0, 0, 0))] = 91 := by decide +kernel
theorem ok_X6_fitsHead_97_1 : oks m_X6_fitsHead.1 m_X6_fitsHead.2.2.1 97 [(.iconst 0, 1, (0, 0, 0))] = true ∧ plen 97 [(.iconst 0, 1, (0, 0, 0))] = 98 := by decide +kernel
theorem ok_X6_fitsHead_99_1 : oks m_X6_fitsHead.1 m_X6_fitsHead.2.2.1 99 [(.iinc 6 1, 3, (0, 0, 0))] = true ∧ plen 99 [(.iinc 6 1, 3, (0, 0, 0))] = 102 := by decide +kernel
theorem ok_X6_fitsHead_105_1 : oks m_X6_fitsHead.1 m_X6_fitsHead.2.2.1 105 [(.iconst 1, 1, (0, 0, 0))] = true ∧ plen 105 [(.iconst 1, 1, (0, 0, 0))] = 106 := by decide +kernel
def L_X6_fitsHead_55 (rec : Int → Int → Int → Sg → Option (Bool × Sg)) (x1 : Int) (x2 : Int) (x3 : Int) (x5 : Int) (x6 : Int) (σ : Sg) : Option ((Int × Sg) ⊕ (Sg ⊕ (Bool × Sg))) :=
if (F_X5_partCount x1 σ) ≤ x6 then
some (.inr (.inl σ))
else
(rec (F_X5_partOf x1 x6 σ) (F_X10_inner x2 (wrap (x5 + x6))) (wrap (x3 + 1)) σ).bind fun q9 =>
if q9.1 = true then
some (.inl (wrap (x6 + 1), q9.2))
else
some (.inr (.inr (false, q9.2)))
def G_X6_fitsHead (rec : Int → Int → Int → Sg → Option (Bool × Sg)) (a1 : Int) (a2 : Int) (a3 : Int) (σ : Sg) : Option (Bool × Sg) :=
bnd (F_X1_headAt a2 σ) fun v1 =>
bnd (F_X1_countTest σ) fun q3 =>
if (F_X5_accepts a1 v1 q3) = true then
(F_X1_open a2 q3).bind fun q5 =>
bnd (F_X5_offset a1 v1 q5) fun v7 =>
(iter (fun a : (Int × Sg) => L_X6_fitsHead_55 rec a1 a2 a3 v7 a.1 a.2) 3000 (0, q5)).bind fun y11 => Sum.elim (fun z13 =>
some (true, z13)) (fun r14 => some r14) y11
else
some (false, q3)
theorem lk_X6_fitsHead (l : Launch) (Dr : Nat) (rec : Int → Int → Int → Sg → Option (Bool × Sg)) (hrec : ∀ d, Dr ≤ d → ∀ (a1 : Int) (a2 : Int) (a3 : Int) (σ : Sg) (q : (Bool × Sg)), rec a1 a2 a3 σ = some q → CT l d m_X6_fitsAt.2.1 m_X6_fitsAt.2.2.1 m_X6_fitsAt.2.2.2.1 m_X6_fitsAt.2.2.2.2 [.inr 32, .inl a1, .inl a2, .inl a3] (LAYC, σ) (some (.inl (b2i q.1))) (LAYC, q.2)) (d : Nat) (hd : Dr + 1 ≤ d) (hdB : 55 ≤ d) (a1 : Int) (a2 : Int) (a3 : Int) (σ : Sg) (q : (Bool × Sg)) (h : G_X6_fitsHead rec a1 a2 a3 σ = some q) : CT l d m_X6_fitsHead.2.1 m_X6_fitsHead.2.2.1 m_X6_fitsHead.2.2.2.1 m_X6_fitsHead.2.2.2.2 [.inr 32, .inl a1, .inl a2, .inl a3] (LAYC, σ) (some (.inl (b2i q.1))) (LAYC, q.2) := by
  obtain ⟨d, rfl⟩ : ∃ e, d = e + 1 := ⟨d - 1, by omega⟩
  have key : Go l m_X6_fitsHead (d + 1) LAYC (.inl (some (.inl (b2i q.1)))) q.2 0 [some (.inr 32), some (.inl a1), some (.inl a2), some (.inl a3), none, none, none] [] σ := by
    unfold G_X6_fitsHead at h
    have hL_X6_fitsHead_55 : ∀ (x1 : Int) (x2 : Int) (x3 : Int) (x5 : Int) (n : Nat) (a : (Int × Sg)) (y : (Sg ⊕ (Bool × Sg))), iter (fun a : (Int × Sg) => L_X6_fitsHead_55 rec x1 x2 x3 x5 a.1 a.2) n a = some y → (Sum.elim (fun y : Sg => Go l m_X6_fitsHead (d + 1) LAYC (.inl (some (.inl (b2i q.1)))) q.2 105 [none, none, none, none, none, none, none] [] y) (fun r : (Bool × Sg) => r = q)) y → (fun a : (Int × Sg) => Go l m_X6_fitsHead (d + 1) LAYC (.inl (some (.inl (b2i q.1)))) q.2 55 [some (.inr 32), some (.inl x1), some (.inl x2), some (.inl x3), none, some (.inl x5), some (.inl a.1)] [] a.2) a := by
      intro x1 x2 x3 x5
      refine go_iter (G := fun a : (Int × Sg) => Go l m_X6_fitsHead (d + 1) LAYC (.inl (some (.inl (b2i q.1)))) q.2 55 [some (.inr 32), some (.inl x1), some (.inl x2), some (.inl x3), none, some (.inl x5), some (.inl a.1)] [] a.2) (K := Sum.elim (fun y : Sg => Go l m_X6_fitsHead (d + 1) LAYC (.inl (some (.inl (b2i q.1)))) q.2 105 [none, none, none, none, none, none, none] [] y) (fun r : (Bool × Sg) => r = q)) ?_
      rintro ⟨x6, σ⟩ w h hK
      replace h : L_X6_fitsHead_55 rec x1 x2 x3 x5 x6 σ = some w := h
      show Go l m_X6_fitsHead (d + 1) LAYC (.inl (some (.inl (b2i q.1)))) q.2 55 [some (.inr 32), some (.inl x1), some (.inl x2), some (.inl x3), none, some (.inl x5), some (.inl x6)] [] σ
      unfold L_X6_fitsHead_55 at h
      refine go_ops ok_X6_fitsHead_55_4 (L' := [some (.inr 32), some (.inl x1), some (.inl x2), some (.inl x3), none, some (.inl x5), some (.inl x6)]) (st' := [.inl x1, .inr 10, .inl x6]) (σ1 := σ) rfl ?_
      refine go_V (M1 := m_X5_partCount) (as := [.inl x1]) (st := [.inl x6]) (k := 10) (ci := 5) dc_X6_fitsHead_62 ln_6_101 im_X5_partCount (by decide) rfl rfl mk_X5_partCount rfl (Nat.le_of_ble_eq_true rfl) (Nat.le_refl _) (v := (some (.inl (F_X5_partCount x1 σ)))) (σ1 := σ) (lk_X5_partCount l d (by omega) x1 σ _ rfl) _ rfl ?_
      refine go_icmp_ge dc_X6_fitsHead_65 (by rfl) (fun hc => ?_) (fun hc => ?_)
      · replace h := (if_pos hc).symm.trans h
        cases h
        refine go_wk (L' := [none, none, none, none, none, none, none]) trivial ?_
        exact hK
      · replace h := (if_neg hc).symm.trans h
        refine go_ops ok_X6_fitsHead_68_5 (L' := [some (.inr 32), some (.inl x1), some (.inl x2), some (.inl x3), none, some (.inl x5), some (.inl x6)]) (st' := [.inl x6, .inl x1, .inr 10, .inr 32]) (σ1 := σ) rfl ?_
        refine go_V (M1 := m_X5_partOf) (as := [.inl x1, .inl x6]) (st := [.inr 32]) (k := 10) (ci := 5) dc_X6_fitsHead_76 ln_6_71 im_X5_partOf (by decide) rfl rfl mk_X5_partOf rfl (Nat.le_of_ble_eq_true rfl) (Nat.le_refl _) (v := (some (.inl (F_X5_partOf x1 x6 σ)))) (σ1 := σ) (lk_X5_partOf l d (by omega) x1 x6 σ _ rfl) _ rfl ?_
        refine go_ops ok_X6_fitsHead_79_4 (L' := [some (.inr 32), some (.inl x1), some (.inl x2), some (.inl x3), none, some (.inl x5), some (.inl x6)]) (st' := [.inl (wrap (x5 + x6)), .inl x2, .inl (F_X5_partOf x1 x6 σ), .inr 32]) (σ1 := σ) rfl ?_
        refine go_SN (M1 := m_X10_inner) (as := [.inl x2, .inl (wrap (x5 + x6))]) (st := [.inl (F_X5_partOf x1 x6 σ), .inr 32]) dc_X6_fitsHead_85 ln_6_104 sm_X10_inner mk_X10_inner rfl (Nat.le_of_ble_eq_true rfl) (Nat.le_refl _) (v := (some (.inl (F_X10_inner x2 (wrap (x5 + x6)))))) (σ1 := σ) (lk_X10_inner l d (by omega) x2 (wrap (x5 + x6)) σ _ rfl) _ rfl ?_
        refine go_ops ok_X6_fitsHead_88_3 (L' := [some (.inr 32), some (.inl x1), some (.inl x2), some (.inl x3), none, some (.inl x5), some (.inl x6)]) (st' := [.inl (wrap (x3 + 1)), .inl (F_X10_inner x2 (wrap (x5 + x6))), .inl (F_X5_partOf x1 x6 σ), .inr 32]) (σ1 := σ) rfl ?_
        obtain ⟨q9, e10, h⟩ := bind_inv h
        refine go_V (M1 := m_X6_fitsAt) (as := [.inl (F_X5_partOf x1 x6 σ), .inl (F_X10_inner x2 (wrap (x5 + x6))), .inl (wrap (x3 + 1))]) (st := []) (k := 32) (ci := 6) dc_X6_fitsHead_91 ln_6_55 im_X6_fitsAt (by decide) rfl rfl mk_X6_fitsAt rfl (Nat.le_of_ble_eq_true rfl) (Nat.le_refl _) (v := (some (.inl (b2i q9.1)))) (σ1 := q9.2) (hrec d (by omega) (F_X5_partOf x1 x6 σ) (F_X10_inner x2 (wrap (x5 + x6))) (wrap (x3 + 1)) σ q9 e10) _ rfl ?_
        refine go_ifb_ne dc_X6_fitsHead_94 (by rfl) (fun hc => ?_) (fun hc => ?_)
        · replace h := (if_pos hc).symm.trans h
          refine go_ops ok_X6_fitsHead_99_1 (L' := [some (.inr 32), some (.inl x1), some (.inl x2), some (.inl x3), none, some (.inl x5), some (.inl (wrap (x6 + 1)))]) (st' := []) (σ1 := q9.2) rfl ?_
          refine go_goto dc_X6_fitsHead_102 (by rfl) ?_
          cases h
          exact hK
        · replace h := (if_neg hc).symm.trans h
          refine go_ops ok_X6_fitsHead_97_1 (L' := [some (.inr 32), some (.inl x1), some (.inl x2), some (.inl x3), none, some (.inl x5), some (.inl x6)]) (st' := [.inl 0]) (σ1 := q9.2) rfl ?_
          cases h
          have hK2 : _ = q := hK
          subst hK2
          exact go_zret (x := false) dc_X6_fitsHead_98 rfl
    refine go_ops ok_X6_fitsHead_0_3 (L' := [some (.inr 32), some (.inl a1), some (.inl a2), some (.inl a3), none, none, none]) (st' := [.inl a2, .inr 27]) (σ1 := σ) rfl ?_
    refine go_V (M1 := m_X1_headAt) (as := [.inl a2]) (st := []) (k := 27) (ci := 1) dc_X6_fitsHead_5 ln_6_84 im_X1_headAt (by decide) rfl rfl mk_X1_headAt rfl (Nat.le_of_ble_eq_true rfl) (Nat.le_refl _) (v := (some (.inl (F_X1_headAt a2 σ)))) (σ1 := σ) (lk_X1_headAt l d (by omega) a2 σ _ rfl) _ rfl ?_
    obtain ⟨v1, e2, h⟩ := bnd_inv h
    refine go_ops ok_X6_fitsHead_8_3 (L' := [some (.inr 32), some (.inl a1), some (.inl a2), some (.inl a3), some (.inl v1), none, none]) (st' := [.inr 27]) (σ1 := σ) (by subst e2; rfl) ?_
    obtain ⟨q3, e4, h⟩ := bnd_inv h
    refine go_V (M1 := m_X1_countTest) (as := []) (st := []) (k := 27) (ci := 1) dc_X6_fitsHead_14 ln_6_87 im_X1_countTest (by decide) rfl rfl mk_X1_countTest rfl (Nat.le_of_ble_eq_true rfl) (Nat.le_refl _) (v := none) (σ1 := q3) (lk_X1_countTest l d (by omega) σ q3 e4.symm) _ rfl ?_
    refine go_ops ok_X6_fitsHead_17_4 (L' := [some (.inr 32), some (.inl a1), some (.inl a2), some (.inl a3), some (.inl v1), none, none]) (st' := [.inl v1, .inl a1, .inr 10]) (σ1 := q3) rfl ?_
    refine go_V (M1 := m_X5_accepts) (as := [.inl a1, .inl v1]) (st := []) (k := 10) (ci := 5) dc_X6_fitsHead_24 ln_6_90 im_X5_accepts (by decide) rfl rfl mk_X5_accepts rfl (Nat.le_of_ble_eq_true rfl) (Nat.le_refl _) (v := (some (.inl (b2i (F_X5_accepts a1 v1 q3))))) (σ1 := q3) (lk_X5_accepts l d (by omega) a1 v1 q3 _ rfl) _ rfl ?_
    refine go_ifb_ne dc_X6_fitsHead_27 (by rfl) (fun hc => ?_) (fun hc => ?_)
    · replace h := (if_pos hc).symm.trans h
      refine go_ops ok_X6_fitsHead_32_3 (L' := [some (.inr 32), some (.inl a1), some (.inl a2), some (.inl a3), some (.inl v1), none, none]) (st' := [.inl a2, .inr 27]) (σ1 := q3) rfl ?_
      obtain ⟨q5, e6, h⟩ := bind_inv h
      refine go_V (M1 := m_X1_open) (as := [.inl a2]) (st := []) (k := 27) (ci := 1) dc_X6_fitsHead_37 ln_6_94 im_X1_open (by decide) rfl rfl mk_X1_open rfl (Nat.le_of_ble_eq_true rfl) (Nat.le_refl _) (v := none) (σ1 := q5) (lk_X1_open l d (by omega) a2 q3 q5 e6) _ rfl ?_
      refine go_ops ok_X6_fitsHead_40_4 (L' := [some (.inr 32), some (.inl a1), some (.inl a2), some (.inl a3), some (.inl v1), none, none]) (st' := [.inl v1, .inl a1, .inr 10]) (σ1 := q5) rfl ?_
      refine go_V (M1 := m_X5_offset) (as := [.inl a1, .inl v1]) (st := []) (k := 10) (ci := 5) dc_X6_fitsHead_47 ln_6_98 im_X5_offset (by decide) rfl rfl mk_X5_offset rfl (Nat.le_of_ble_eq_true rfl) (Nat.le_refl _) (v := (some (.inl (F_X5_offset a1 v1 q5)))) (σ1 := q5) (lk_X5_offset l d (by omega) a1 v1 q5 _ rfl) _ rfl ?_
      obtain ⟨v7, e8, h⟩ := bnd_inv h
      refine go_ops ok_X6_fitsHead_50_3 (L' := [some (.inr 32), some (.inl a1), some (.inl a2), some (.inl a3), some (.inl v1), some (.inl v7), some (.inl 0)]) (st' := []) (σ1 := q5) (by subst e8; rfl) ?_
      refine go_wk (L' := [some (.inr 32), some (.inl a1), some (.inl a2), some (.inl a3), none, some (.inl v7), some (.inl 0)]) ⟨rfl, rfl, rfl, rfl, rfl, rfl, trivial⟩ ?_
      obtain ⟨y11, e12, h⟩ := bind_inv h
      refine hL_X6_fitsHead_55 a1 a2 a3 v7 3000 (0, q5) y11 e12 ?_
      rcases y11 with z13 | r14
      rotate_left
      · show r14 = q
        cases h; rfl
      show Go l m_X6_fitsHead (d + 1) LAYC (.inl (some (.inl (b2i q.1)))) q.2 105 [none, none, none, none, none, none, none] [] z13
      rw [Sum.elim_inl] at h
      refine go_ops ok_X6_fitsHead_105_1 (L' := [none, none, none, none, none, none, none]) (st' := [.inl 1]) (σ1 := z13) rfl ?_
      have h9 := Option.some.inj h
      subst h9
      exact go_zret (x := true) dc_X6_fitsHead_106 rfl
    · replace h := (if_neg hc).symm.trans h
      refine go_ops ok_X6_fitsHead_30_1 (L' := [some (.inr 32), some (.inl a1), some (.inl a2), some (.inl a3), some (.inl v1), none, none]) (st' := [.inl 0]) (σ1 := q3) rfl ?_
      have h9 := Option.some.inj h
      subst h9
      exact go_zret (x := false) dc_X6_fitsHead_31 rfl
  have hf := go_ct (as := [.inr 32, .inl a1, .inl a2, .inl a3]) mk_X6_fitsHead (by rfl) (Nat.le_of_ble_eq_true rfl) key
  exact hf
theorem dc_X6_fitsAt_3 : decode m_X6_fitsAt.2.2.1 3 = .ok (.if_icmp .le 5, 3) := by decide +kernel
theorem dc_X6_fitsAt_7 : decode m_X6_fitsAt.2.2.1 7 = .ok (.ireturn, 1) := by decide +kernel
theorem dc_X6_fitsAt_13 : decode m_X6_fitsAt.2.2.1 13 = .ok (.invokevirtual 59, 3) := by decide +kernel
theorem dc_X6_fitsAt_16 : decode m_X6_fitsAt.2.2.1 16 = .ok (.tableswitch 166 0 5 #[40, 42, 166, 166, 76, 122], 40) := by decide +kernel
theorem dc_X6_fitsAt_57 : decode m_X6_fitsAt.2.2.1 57 = .ok (.ireturn, 1) := by decide +kernel
theorem dc_X6_fitsAt_67 : decode m_X6_fitsAt.2.2.1 67 = .ok (.invokevirtual 64, 3) := by decide +kernel
theorem dc_X6_fitsAt_71 : decode m_X6_fitsAt.2.2.1 71 = .ok (.invokevirtual 67, 3) := by decide +kernel
theorem dc_X6_fitsAt_81 : decode m_X6_fitsAt.2.2.1 81 = .ok (.invokevirtual 71, 3) := by decide +kernel
theorem dc_X6_fitsAt_88 : decode m_X6_fitsAt.2.2.1 88 = .ok (.invokevirtual 55, 3) := by decide +kernel
theorem dc_X6_fitsAt_91 : decode m_X6_fitsAt.2.2.1 91 = .ok (.ireturn, 1) := by decide +kernel
theorem dc_X6_fitsAt_99 : decode m_X6_fitsAt.2.2.1 99 = .ok (.invokevirtual 71, 3) := by decide +kernel
theorem dc_X6_fitsAt_106 : decode m_X6_fitsAt.2.2.1 106 = .ok (.invokevirtual 55, 3) := by decide +kernel
theorem dc_X6_fitsAt_109 : decode m_X6_fitsAt.2.2.1 109 = .ok (.ifCond .ne 23, 3) := by decide +kernel
theorem dc_X6_fitsAt_119 : decode m_X6_fitsAt.2.2.1 119 = .ok (.invokevirtual 71, 3) := by decide +kernel
theorem dc_X6_fitsAt_126 : decode m_X6_fitsAt.2.2.1 126 = .ok (.invokevirtual 55, 3) := by decide +kernel
theorem dc_X6_fitsAt_129 : decode m_X6_fitsAt.2.2.1 129 = .ok (.ifCond .eq 7, 3) := by decide +kernel
theorem dc_X6_fitsAt_133 : decode m_X6_fitsAt.2.2.1 133 = .ok (.goto 4, 3) := by decide +kernel
theorem dc_X6_fitsAt_137 : decode m_X6_fitsAt.2.2.1 137 = .ok (.ireturn, 1) := by decide +kernel
theorem dc_X6_fitsAt_147 : decode m_X6_fitsAt.2.2.1 147 = .ok (.invokevirtual 64, 3) := by decide +kernel
theorem dc_X6_fitsAt_151 : decode m_X6_fitsAt.2.2.1 151 = .ok (.invokevirtual 74, 3) := by decide +kernel
theorem dc_X6_fitsAt_170 : decode m_X6_fitsAt.2.2.1 170 = .ok (.invokevirtual 71, 3) := by decide +kernel
theorem dc_X6_fitsAt_178 : decode m_X6_fitsAt.2.2.1 178 = .ok (.invokestatic 77, 3) := by decide +kernel
theorem dc_X6_fitsAt_181 : decode m_X6_fitsAt.2.2.1 181 = .ok (.ireturn, 1) := by decide +kernel
theorem dc_X6_fitsAt_186 : decode m_X6_fitsAt.2.2.1 186 = .ok (.invokevirtual 81, 3) := by decide +kernel
theorem dc_X6_fitsAt_189 : decode m_X6_fitsAt.2.2.1 189 = .ok (.ireturn, 1) := by decide +kernel
theorem ok_X6_fitsAt_0_2 : oks m_X6_fitsAt.1 m_X6_fitsAt.2.2.1 0 [(.iload_n 3, 1, (0, 0, 0)), (.bipush 40, 2, (0, 0, 0))] = true ∧ plen 0 [(.iload_n 3, 1, (0, 0, 0)), (.bipush 40, 2, (0, 0, 0))] = 3 := by decide +kernel
theorem ok_X6_fitsAt_6_1 : oks m_X6_fitsAt.1 m_X6_fitsAt.2.2.1 6 [(.iconst 0, 1, (0, 0, 0))] = true ∧ plen 6 [(.iconst 0, 1, (0, 0, 0))] = 7 := by decide +kernel
theorem ok_X6_fitsAt_8_3 : oks m_X6_fitsAt.1 m_X6_fitsAt.2.2.1 8 [(.aload_n 0, 1, (0, 0, 0)), (.getfield 9, 3, (6, 0, 0)), (.iload_n 1, 1, (0, 0, 0))] = true ∧ plen 8 [(.aload_n 0, 1, (0, 0, 0)), (.getfield 9, 3, (6, 0, 0)), (.iload_n 1, 1, (0, 0, 0))] = 13 := by decide +kernel
theorem ok_X6_fitsAt_56_1 : oks m_X6_fitsAt.1 m_X6_fitsAt.2.2.1 56 [(.iconst 1, 1, (0, 0, 0))] = true ∧ plen 56 [(.iconst 1, 1, (0, 0, 0))] = 57 := by decide +kernel
theorem ok_X6_fitsAt_58_5 : oks m_X6_fitsAt.1 m_X6_fitsAt.2.2.1 58 [(.aload_n 0, 1, (0, 0, 0)), (.getfield 19, 3, (6, 2, 0)), (.aload_n 0, 1, (0, 0, 0)), (.getfield 9, 3, (6, 0, 0)), (.iload_n 1, 1, (0, 0, 0))] = true ∧ plen 58 [(.aload_n 0, 1, (0, 0, 0)), (.getfield 19, 3, (6, 2, 0)), (.aload_n 0, 1, (0, 0, 0)), (.getfield 9, 3, (6, 0, 0)), (.iload_n 1, 1, (0, 0, 0))] = 67 := by decide +kernel
theorem ok_X6_fitsAt_70_1 : oks m_X6_fitsAt.1 m_X6_fitsAt.2.2.1 70 [(.iload_n 2, 1, (0, 0, 0))] = true ∧ plen 70 [(.iload_n 2, 1, (0, 0, 0))] = 71 := by decide +kernel
theorem ok_X6_fitsAt_74_5 : oks m_X6_fitsAt.1 m_X6_fitsAt.2.2.1 74 [(.aload_n 0, 1, (0, 0, 0)), (.aload_n 0, 1, (0, 0, 0)), (.getfield 9, 3, (6, 0, 0)), (.iload_n 1, 1, (0, 0, 0)), (.iconst 0, 1, (0, 0, 0))] = true ∧ plen 74 [(.aload_n 0, 1, (0, 0, 0)), (.aload_n 0, 1, (0, 0, 0)), (.getfield 9, 3, (6, 0, 0)), (.iload_n 1, 1, (0, 0, 0)), (.iconst 0, 1, (0, 0, 0))] = 81 := by decide +kernel
theorem ok_X6_fitsAt_84_4 : oks m_X6_fitsAt.1 m_X6_fitsAt.2.2.1 84 [(.iload_n 2, 1, (0, 0, 0)), (.iload_n 3, 1, (0, 0, 0)), (.iconst 1, 1, (0, 0, 0)), (.iadd, 1, (0, 0, 0))] = true ∧ plen 84 [(.iload_n 2, 1, (0, 0, 0)), (.iload_n 3, 1, (0, 0, 0)), (.iconst 1, 1, (0, 0, 0)), (.iadd, 1, (0, 0, 0))] = 88 := by decide +kernel
theorem ok_X6_fitsAt_92_5 : oks m_X6_fitsAt.1 m_X6_fitsAt.2.2.1 92 [(.aload_n 0, 1, (0, 0, 0)), (.aload_n 0, 1, (0, 0, 0)), (.getfield 9, 3, (6, 0, 0)), (.iload_n 1, 1, (0, 0, 0)), (.iconst 0, 1, (0, 0, 0))] = true ∧ plen 92 [(.aload_n 0, 1, (0, 0, 0)), (.aload_n 0, 1, (0, 0, 0)), (.getfield 9, 3, (6, 0, 0)), (.iload_n 1, 1, (0, 0, 0)), (.iconst 0, 1, (0, 0, 0))] = 99 := by decide +kernel
theorem ok_X6_fitsAt_102_4 : oks m_X6_fitsAt.1 m_X6_fitsAt.2.2.1 102 [(.iload_n 2, 1, (0, 0, 0)), (.iload_n 3, 1, (0, 0, 0)), (.iconst 1, 1, (0, 0, 0)), (.iadd, 1, (0, 0, 0))] = true ∧ plen 102 [(.iload_n 2, 1, (0, 0, 0)), (.iload_n 3, 1, (0, 0, 0)), (.iconst 1, 1, (0, 0, 0)), (.iadd, 1, (0, 0, 0))] = 106 := by decide +kernel
theorem ok_X6_fitsAt_112_5 : oks m_X6_fitsAt.1 m_X6_fitsAt.2.2.1 112 [(.aload_n 0, 1, (0, 0, 0)), (.aload_n 0, 1, (0, 0, 0)), (.getfield 9, 3, (6, 0, 0)), (.iload_n 1, 1, (0, 0, 0)), (.iconst 1, 1, (0, 0, 0))] = true ∧ plen 112 [(.aload_n 0, 1, (0, 0, 0)), (.aload_n 0, 1, (0, 0, 0)), (.getfield 9, 3, (6, 0, 0)), (.iload_n 1, 1, (0, 0, 0)), (.iconst 1, 1, (0, 0, 0))] = 119 := by decide +kernel
theorem ok_X6_fitsAt_122_4 : oks m_X6_fitsAt.1 m_X6_fitsAt.2.2.1 122 [(.iload_n 2, 1, (0, 0, 0)), (.iload_n 3, 1, (0, 0, 0)), (.iconst 1, 1, (0, 0, 0)), (.iadd, 1, (0, 0, 0))] = true ∧ plen 122 [(.iload_n 2, 1, (0, 0, 0)), (.iload_n 3, 1, (0, 0, 0)), (.iconst 1, 1, (0, 0, 0)), (.iadd, 1, (0, 0, 0))] = 126 := by decide +kernel
theorem ok_X6_fitsAt_132_1 : oks m_X6_fitsAt.1 m_X6_fitsAt.2.2.1 132 [(.iconst 1, 1, (0, 0, 0))] = true ∧ plen 132 [(.iconst 1, 1, (0, 0, 0))] = 133 := by decide +kernel
theorem ok_X6_fitsAt_136_1 : oks m_X6_fitsAt.1 m_X6_fitsAt.2.2.1 136 [(.iconst 0, 1, (0, 0, 0))] = true ∧ plen 136 [(.iconst 0, 1, (0, 0, 0))] = 137 := by decide +kernel
theorem ok_X6_fitsAt_138_5 : oks m_X6_fitsAt.1 m_X6_fitsAt.2.2.1 138 [(.aload_n 0, 1, (0, 0, 0)), (.getfield 19, 3, (6, 2, 0)), (.aload_n 0, 1, (0, 0, 0)), (.getfield 9, 3, (6, 0, 0)), (.iload_n 1, 1, (0, 0, 0))] = true ∧ plen 138 [(.aload_n 0, 1, (0, 0, 0)), (.getfield 19, 3, (6, 2, 0)), (.aload_n 0, 1, (0, 0, 0)), (.getfield 9, 3, (6, 0, 0)), (.iload_n 1, 1, (0, 0, 0))] = 147 := by decide +kernel
theorem ok_X6_fitsAt_150_1 : oks m_X6_fitsAt.1 m_X6_fitsAt.2.2.1 150 [(.iload_n 2, 1, (0, 0, 0))] = true ∧ plen 150 [(.iload_n 2, 1, (0, 0, 0))] = 151 := by decide +kernel
theorem ok_X6_fitsAt_154_9 : oks m_X6_fitsAt.1 m_X6_fitsAt.2.2.1 154 [(.istore 4, 2, (0, 0, 0)), (.aload_n 0, 1, (0, 0, 0)), (.getfield 9, 3, (6, 0, 0)), (.aload_n 0, 1, (0, 0, 0)), (.getfield 19, 3, (6, 2, 0)), (.aload_n 0, 1, (0, 0, 0)), (.getfield 9, 3, (6, 0, 0)), (.iload_n 1, 1, (0, 0, 0)), (.iconst 0, 1, (0, 0, 0))] = true ∧ plen 154 [(.istore 4, 2, (0, 0, 0)), (.aload_n 0, 1, (0, 0, 0)), (.getfield 9, 3, (6, 0, 0)), (.aload_n 0, 1, (0, 0, 0)), (.getfield 19, 3, (6, 2, 0)), (.aload_n 0, 1, (0, 0, 0)), (.getfield 9, 3, (6, 0, 0)), (.iload_n 1, 1, (0, 0, 0)), (.iconst 0, 1, (0, 0, 0))] = 170 := by decide +kernel
theorem ok_X6_fitsAt_173_4 : oks m_X6_fitsAt.1 m_X6_fitsAt.2.2.1 173 [(.iload 4, 2, (0, 0, 0)), (.iload_n 3, 1, (0, 0, 0)), (.iconst 1, 1, (0, 0, 0)), (.iadd, 1, (0, 0, 0))] = true ∧ plen 173 [(.iload 4, 2, (0, 0, 0)), (.iload_n 3, 1, (0, 0, 0)), (.iconst 1, 1, (0, 0, 0)), (.iadd, 1, (0, 0, 0))] = 178 := by decide +kernel
theorem ok_X6_fitsAt_182_4 : oks m_X6_fitsAt.1 m_X6_fitsAt.2.2.1 182 [(.aload_n 0, 1, (0, 0, 0)), (.iload_n 1, 1, (0, 0, 0)), (.iload_n 2, 1, (0, 0, 0)), (.iload_n 3, 1, (0, 0, 0))] = true ∧ plen 182 [(.aload_n 0, 1, (0, 0, 0)), (.iload_n 1, 1, (0, 0, 0)), (.iload_n 2, 1, (0, 0, 0)), (.iload_n 3, 1, (0, 0, 0))] = 186 := by decide +kernel
def B_X6_fitsAt_132 (rec : Int → Int → Int → Sg → Option (Bool × Sg)) (σ : Sg) : Option (Bool × Sg) :=
some (true, σ)
def B_X6_fitsAt_182 (rec : Int → Int → Int → Sg → Option (Bool × Sg)) (x1 : Int) (x2 : Int) (x3 : Int) (σ : Sg) : Option (Bool × Sg) :=
(G_X6_fitsHead rec x1 x2 x3 σ).bind fun q17 =>
some (q17.1, q17.2)
def G_X6_fitsAt (rec : Int → Int → Int → Sg → Option (Bool × Sg)) (a1 : Int) (a2 : Int) (a3 : Int) (σ : Sg) : Option (Bool × Sg) :=
if a3 ≤ 40 then
if (F_X5_sortOf a1 σ) = 0 then
some (true, σ)
else if (F_X5_sortOf a1 σ) = 1 then
bnd (F_X1_bind (F_X5_lowOf a1 σ) a2 σ) fun q2 =>
(rec (F_X5_partOf a1 0 q2) a2 (wrap (a3 + 1)) q2).bind fun q4 =>
some (q4.1, q4.2)
else if (F_X5_sortOf a1 σ) = 4 then
(rec (F_X5_partOf a1 0 σ) a2 (wrap (a3 + 1)) σ).bind fun q7 =>
if q7.1 = true then
B_X6_fitsAt_132 rec q7.2
else
(rec (F_X5_partOf a1 1 q7.2) a2 (wrap (a3 + 1)) q7.2).bind fun q9 =>
if q9.1 = true then
B_X6_fitsAt_132 rec q9.2
else
some (false, q9.2)
else if (F_X5_sortOf a1 σ) = 5 then
(F_X1_look (F_X5_lowOf a1 σ) a2 σ).bind fun q12 =>
(F_X6_fitsNumber 50 (F_X5_partOf a1 0 q12.2) q12.1 (wrap (a3 + 1)) q12.2).bind fun q14 =>
some (q14.1, q14.2)
else B_X6_fitsAt_182 rec a1 a2 a3 σ
else
some (false, σ)
theorem lk_X6_fitsAt (l : Launch) (Dr : Nat) (rec : Int → Int → Int → Sg → Option (Bool × Sg)) (hrec : ∀ d, Dr ≤ d → ∀ (a1 : Int) (a2 : Int) (a3 : Int) (σ : Sg) (q : (Bool × Sg)), rec a1 a2 a3 σ = some q → CT l d m_X6_fitsAt.2.1 m_X6_fitsAt.2.2.1 m_X6_fitsAt.2.2.2.1 m_X6_fitsAt.2.2.2.2 [.inr 32, .inl a1, .inl a2, .inl a3] (LAYC, σ) (some (.inl (b2i q.1))) (LAYC, q.2)) (d : Nat) (hd : Dr + 2 ≤ d) (hdB : 56 ≤ d) (a1 : Int) (a2 : Int) (a3 : Int) (σ : Sg) (q : (Bool × Sg)) (h : G_X6_fitsAt rec a1 a2 a3 σ = some q) : CT l d m_X6_fitsAt.2.1 m_X6_fitsAt.2.2.1 m_X6_fitsAt.2.2.2.1 m_X6_fitsAt.2.2.2.2 [.inr 32, .inl a1, .inl a2, .inl a3] (LAYC, σ) (some (.inl (b2i q.1))) (LAYC, q.2) := by
  obtain ⟨d, rfl⟩ : ∃ e, d = e + 1 := ⟨d - 1, by omega⟩
  have key : Go l m_X6_fitsAt (d + 1) LAYC (.inl (some (.inl (b2i q.1)))) q.2 0 [some (.inr 32), some (.inl a1), some (.inl a2), some (.inl a3), none] [] σ := by
    unfold G_X6_fitsAt at h
    have hB_X6_fitsAt_132 : ∀ (σ : Sg), B_X6_fitsAt_132 rec σ = some q → Go l m_X6_fitsAt (d + 1) LAYC (.inl (some (.inl (b2i q.1)))) q.2 132 [none, none, none, none, none] [] σ := by
      intro σ h
      unfold B_X6_fitsAt_132 at h
      refine go_ops ok_X6_fitsAt_132_1 (L' := [none, none, none, none, none]) (st' := [.inl 1]) (σ1 := σ) rfl ?_
      refine go_goto dc_X6_fitsAt_133 (by rfl) ?_
      have h9 := Option.some.inj h
      subst h9
      exact go_zret (x := true) dc_X6_fitsAt_137 rfl
    have hB_X6_fitsAt_182 : ∀ (x1 : Int) (x2 : Int) (x3 : Int) (σ : Sg), B_X6_fitsAt_182 rec x1 x2 x3 σ = some q → Go l m_X6_fitsAt (d + 1) LAYC (.inl (some (.inl (b2i q.1)))) q.2 182 [some (.inr 32), some (.inl x1), some (.inl x2), some (.inl x3), none] [] σ := by
      intro x1 x2 x3 σ h
      unfold B_X6_fitsAt_182 at h
      refine go_ops ok_X6_fitsAt_182_4 (L' := [some (.inr 32), some (.inl x1), some (.inl x2), some (.inl x3), none]) (st' := [.inl x3, .inl x2, .inl x1, .inr 32]) (σ1 := σ) rfl ?_
      obtain ⟨q17, e18, h⟩ := bind_inv h
      refine go_V (M1 := m_X6_fitsHead) (as := [.inl x1, .inl x2, .inl x3]) (st := []) (k := 32) (ci := 6) dc_X6_fitsAt_186 ln_6_81 im_X6_fitsHead (by decide) rfl rfl mk_X6_fitsHead rfl (Nat.le_of_ble_eq_true rfl) (Nat.le_refl _) (v := (some (.inl (b2i q17.1)))) (σ1 := q17.2) (lk_X6_fitsHead l Dr rec hrec d (by omega) (by omega) x1 x2 x3 σ q17 e18) _ rfl ?_
      have h9 := Option.some.inj h
      subst h9
      exact go_zret (x := q17.1) dc_X6_fitsAt_189 rfl
    refine go_ops ok_X6_fitsAt_0_2 (L' := [some (.inr 32), some (.inl a1), some (.inl a2), some (.inl a3), none]) (st' := [.inl 40, .inl a3]) (σ1 := σ) rfl ?_
    refine go_icmp_le dc_X6_fitsAt_3 (by rfl) (fun hc => ?_) (fun hc => ?_)
    · replace h := (if_pos hc).symm.trans h
      refine go_ops ok_X6_fitsAt_8_3 (L' := [some (.inr 32), some (.inl a1), some (.inl a2), some (.inl a3), none]) (st' := [.inl a1, .inr 10]) (σ1 := σ) rfl ?_
      refine go_V (M1 := m_X5_sortOf) (as := [.inl a1]) (st := []) (k := 10) (ci := 5) dc_X6_fitsAt_13 ln_6_59 im_X5_sortOf (by decide) rfl rfl mk_X5_sortOf rfl (Nat.le_of_ble_eq_true rfl) (Nat.le_refl _) (v := (some (.inl (F_X5_sortOf a1 σ)))) (σ1 := σ) (lk_X5_sortOf l d (by omega) a1 σ _ rfl) _ rfl ?_
      rcases Decidable.em ((F_X5_sortOf a1 σ) = 0) with hs1 | hs1
      · replace h := (if_pos hs1).symm.trans h
        refine go_tsw (off := 40) dc_X6_fitsAt_16 (by decide) (by decide) (tsk hs1 (by decide +kernel)) (by rfl) ?_
        refine go_ops ok_X6_fitsAt_56_1 (L' := [some (.inr 32), some (.inl a1), some (.inl a2), some (.inl a3), none]) (st' := [.inl 1]) (σ1 := σ) rfl ?_
        have h9 := Option.some.inj h
        subst h9
        exact go_zret (x := true) dc_X6_fitsAt_57 rfl
      replace h := (if_neg hs1).symm.trans h
      rcases Decidable.em ((F_X5_sortOf a1 σ) = 1) with hs6 | hs6
      · replace h := (if_pos hs6).symm.trans h
        refine go_tsw (off := 42) dc_X6_fitsAt_16 (by decide) (by decide) (tsk hs6 (by decide +kernel)) (by rfl) ?_
        refine go_ops ok_X6_fitsAt_58_5 (L' := [some (.inr 32), some (.inl a1), some (.inl a2), some (.inl a3), none]) (st' := [.inl a1, .inr 10, .inr 27]) (σ1 := σ) rfl ?_
        refine go_V (M1 := m_X5_lowOf) (as := [.inl a1]) (st := [.inr 27]) (k := 10) (ci := 5) dc_X6_fitsAt_67 ln_6_64 im_X5_lowOf (by decide) rfl rfl mk_X5_lowOf rfl (Nat.le_of_ble_eq_true rfl) (Nat.le_refl _) (v := (some (.inl (F_X5_lowOf a1 σ)))) (σ1 := σ) (lk_X5_lowOf l d (by omega) a1 σ _ rfl) _ rfl ?_
        refine go_ops ok_X6_fitsAt_70_1 (L' := [some (.inr 32), some (.inl a1), some (.inl a2), some (.inl a3), none]) (st' := [.inl a2, .inl (F_X5_lowOf a1 σ), .inr 27]) (σ1 := σ) rfl ?_
        obtain ⟨q2, e3, h⟩ := bnd_inv h
        refine go_V (M1 := m_X1_bind) (as := [.inl (F_X5_lowOf a1 σ), .inl a2]) (st := []) (k := 27) (ci := 1) dc_X6_fitsAt_71 ln_6_67 im_X1_bind (by decide) rfl rfl mk_X1_bind rfl (Nat.le_of_ble_eq_true rfl) (Nat.le_refl _) (v := none) (σ1 := q2) (lk_X1_bind l d (by omega) (F_X5_lowOf a1 σ) a2 σ q2 e3.symm) _ rfl ?_
        refine go_ops ok_X6_fitsAt_74_5 (L' := [some (.inr 32), some (.inl a1), some (.inl a2), some (.inl a3), none]) (st' := [.inl 0, .inl a1, .inr 10, .inr 32]) (σ1 := q2) rfl ?_
        refine go_V (M1 := m_X5_partOf) (as := [.inl a1, .inl 0]) (st := [.inr 32]) (k := 10) (ci := 5) dc_X6_fitsAt_81 ln_6_71 im_X5_partOf (by decide) rfl rfl mk_X5_partOf rfl (Nat.le_of_ble_eq_true rfl) (Nat.le_refl _) (v := (some (.inl (F_X5_partOf a1 0 q2)))) (σ1 := q2) (lk_X5_partOf l d (by omega) a1 0 q2 _ rfl) _ rfl ?_
        refine go_ops ok_X6_fitsAt_84_4 (L' := [some (.inr 32), some (.inl a1), some (.inl a2), some (.inl a3), none]) (st' := [.inl (wrap (a3 + 1)), .inl a2, .inl (F_X5_partOf a1 0 q2), .inr 32]) (σ1 := q2) rfl ?_
        obtain ⟨q4, e5, h⟩ := bind_inv h
        refine go_V (M1 := m_X6_fitsAt) (as := [.inl (F_X5_partOf a1 0 q2), .inl a2, .inl (wrap (a3 + 1))]) (st := []) (k := 32) (ci := 6) dc_X6_fitsAt_88 ln_6_55 im_X6_fitsAt (by decide) rfl rfl mk_X6_fitsAt rfl (Nat.le_of_ble_eq_true rfl) (Nat.le_refl _) (v := (some (.inl (b2i q4.1)))) (σ1 := q4.2) (hrec d (by omega) (F_X5_partOf a1 0 q2) a2 (wrap (a3 + 1)) q2 q4 e5) _ rfl ?_
        have h9 := Option.some.inj h
        subst h9
        exact go_zret (x := q4.1) dc_X6_fitsAt_91 rfl
      replace h := (if_neg hs6).symm.trans h
      rcases Decidable.em ((F_X5_sortOf a1 σ) = 4) with hs11 | hs11
      · replace h := (if_pos hs11).symm.trans h
        refine go_tsw (off := 76) dc_X6_fitsAt_16 (by decide) (by decide) (tsk hs11 (by decide +kernel)) (by rfl) ?_
        refine go_ops ok_X6_fitsAt_92_5 (L' := [some (.inr 32), some (.inl a1), some (.inl a2), some (.inl a3), none]) (st' := [.inl 0, .inl a1, .inr 10, .inr 32]) (σ1 := σ) rfl ?_
        refine go_V (M1 := m_X5_partOf) (as := [.inl a1, .inl 0]) (st := [.inr 32]) (k := 10) (ci := 5) dc_X6_fitsAt_99 ln_6_71 im_X5_partOf (by decide) rfl rfl mk_X5_partOf rfl (Nat.le_of_ble_eq_true rfl) (Nat.le_refl _) (v := (some (.inl (F_X5_partOf a1 0 σ)))) (σ1 := σ) (lk_X5_partOf l d (by omega) a1 0 σ _ rfl) _ rfl ?_
        refine go_ops ok_X6_fitsAt_102_4 (L' := [some (.inr 32), some (.inl a1), some (.inl a2), some (.inl a3), none]) (st' := [.inl (wrap (a3 + 1)), .inl a2, .inl (F_X5_partOf a1 0 σ), .inr 32]) (σ1 := σ) rfl ?_
        obtain ⟨q7, e8, h⟩ := bind_inv h
        refine go_V (M1 := m_X6_fitsAt) (as := [.inl (F_X5_partOf a1 0 σ), .inl a2, .inl (wrap (a3 + 1))]) (st := []) (k := 32) (ci := 6) dc_X6_fitsAt_106 ln_6_55 im_X6_fitsAt (by decide) rfl rfl mk_X6_fitsAt rfl (Nat.le_of_ble_eq_true rfl) (Nat.le_refl _) (v := (some (.inl (b2i q7.1)))) (σ1 := q7.2) (hrec d (by omega) (F_X5_partOf a1 0 σ) a2 (wrap (a3 + 1)) σ q7 e8) _ rfl ?_
        refine go_ifb_ne dc_X6_fitsAt_109 (by rfl) (fun hc => ?_) (fun hc => ?_)
        · replace h := (if_pos hc).symm.trans h
          refine go_wk (L' := [none, none, none, none, none]) trivial ?_
          exact hB_X6_fitsAt_132 q7.2 h
        · replace h := (if_neg hc).symm.trans h
          refine go_ops ok_X6_fitsAt_112_5 (L' := [some (.inr 32), some (.inl a1), some (.inl a2), some (.inl a3), none]) (st' := [.inl 1, .inl a1, .inr 10, .inr 32]) (σ1 := q7.2) rfl ?_
          refine go_V (M1 := m_X5_partOf) (as := [.inl a1, .inl 1]) (st := [.inr 32]) (k := 10) (ci := 5) dc_X6_fitsAt_119 ln_6_71 im_X5_partOf (by decide) rfl rfl mk_X5_partOf rfl (Nat.le_of_ble_eq_true rfl) (Nat.le_refl _) (v := (some (.inl (F_X5_partOf a1 1 q7.2)))) (σ1 := q7.2) (lk_X5_partOf l d (by omega) a1 1 q7.2 _ rfl) _ rfl ?_
          refine go_ops ok_X6_fitsAt_122_4 (L' := [some (.inr 32), some (.inl a1), some (.inl a2), some (.inl a3), none]) (st' := [.inl (wrap (a3 + 1)), .inl a2, .inl (F_X5_partOf a1 1 q7.2), .inr 32]) (σ1 := q7.2) rfl ?_
          obtain ⟨q9, e10, h⟩ := bind_inv h
          refine go_V (M1 := m_X6_fitsAt) (as := [.inl (F_X5_partOf a1 1 q7.2), .inl a2, .inl (wrap (a3 + 1))]) (st := []) (k := 32) (ci := 6) dc_X6_fitsAt_126 ln_6_55 im_X6_fitsAt (by decide) rfl rfl mk_X6_fitsAt rfl (Nat.le_of_ble_eq_true rfl) (Nat.le_refl _) (v := (some (.inl (b2i q9.1)))) (σ1 := q9.2) (hrec d (by omega) (F_X5_partOf a1 1 q7.2) a2 (wrap (a3 + 1)) q7.2 q9 e10) _ rfl ?_
          refine go_ifb_eq dc_X6_fitsAt_129 (by rfl) (fun hc => ?_) (fun hc => ?_)
          · replace h := (if_neg hc).symm.trans h
            refine go_ops ok_X6_fitsAt_136_1 (L' := [some (.inr 32), some (.inl a1), some (.inl a2), some (.inl a3), none]) (st' := [.inl 0]) (σ1 := q9.2) rfl ?_
            have h9 := Option.some.inj h
            subst h9
            exact go_zret (x := false) dc_X6_fitsAt_137 rfl
          · replace h := (if_pos hc).symm.trans h
            refine go_wk (L' := [none, none, none, none, none]) trivial ?_
            exact hB_X6_fitsAt_132 q9.2 h
      replace h := (if_neg hs11).symm.trans h
      rcases Decidable.em ((F_X5_sortOf a1 σ) = 5) with hs16 | hs16
      · replace h := (if_pos hs16).symm.trans h
        refine go_tsw (off := 122) dc_X6_fitsAt_16 (by decide) (by decide) (tsk hs16 (by decide +kernel)) (by rfl) ?_
        refine go_ops ok_X6_fitsAt_138_5 (L' := [some (.inr 32), some (.inl a1), some (.inl a2), some (.inl a3), none]) (st' := [.inl a1, .inr 10, .inr 27]) (σ1 := σ) rfl ?_
        refine go_V (M1 := m_X5_lowOf) (as := [.inl a1]) (st := [.inr 27]) (k := 10) (ci := 5) dc_X6_fitsAt_147 ln_6_64 im_X5_lowOf (by decide) rfl rfl mk_X5_lowOf rfl (Nat.le_of_ble_eq_true rfl) (Nat.le_refl _) (v := (some (.inl (F_X5_lowOf a1 σ)))) (σ1 := σ) (lk_X5_lowOf l d (by omega) a1 σ _ rfl) _ rfl ?_
        refine go_ops ok_X6_fitsAt_150_1 (L' := [some (.inr 32), some (.inl a1), some (.inl a2), some (.inl a3), none]) (st' := [.inl a2, .inl (F_X5_lowOf a1 σ), .inr 27]) (σ1 := σ) rfl ?_
        obtain ⟨q12, e13, h⟩ := bind_inv h
        refine go_V (M1 := m_X1_look) (as := [.inl (F_X5_lowOf a1 σ), .inl a2]) (st := []) (k := 27) (ci := 1) dc_X6_fitsAt_151 ln_6_74 im_X1_look (by decide) rfl rfl mk_X1_look rfl (Nat.le_of_ble_eq_true rfl) (Nat.le_refl _) (v := (some (.inl q12.1))) (σ1 := q12.2) (lk_X1_look l d (by omega) (F_X5_lowOf a1 σ) a2 σ q12 e13) _ rfl ?_
        refine go_ops ok_X6_fitsAt_154_9 (L' := [some (.inr 32), some (.inl a1), some (.inl a2), some (.inl a3), some (.inl q12.1)]) (st' := [.inl 0, .inl a1, .inr 10, .inr 27, .inr 10]) (σ1 := q12.2) rfl ?_
        refine go_V (M1 := m_X5_partOf) (as := [.inl a1, .inl 0]) (st := [.inr 27, .inr 10]) (k := 10) (ci := 5) dc_X6_fitsAt_170 ln_6_71 im_X5_partOf (by decide) rfl rfl mk_X5_partOf rfl (Nat.le_of_ble_eq_true rfl) (Nat.le_refl _) (v := (some (.inl (F_X5_partOf a1 0 q12.2)))) (σ1 := q12.2) (lk_X5_partOf l d (by omega) a1 0 q12.2 _ rfl) _ rfl ?_
        refine go_ops ok_X6_fitsAt_173_4 (L' := [some (.inr 32), some (.inl a1), some (.inl a2), some (.inl a3), some (.inl q12.1)]) (st' := [.inl (wrap (a3 + 1)), .inl q12.1, .inl (F_X5_partOf a1 0 q12.2), .inr 27, .inr 10]) (σ1 := q12.2) rfl ?_
        obtain ⟨q14, e15, h⟩ := bind_inv h
        refine go_S (M1 := m_X6_fitsNumber) (as := [.inr 10, .inr 27, .inl (F_X5_partOf a1 0 q12.2), .inl q12.1, .inl (wrap (a3 + 1))]) (st := []) dc_X6_fitsAt_178 ln_6_77 sm_X6_fitsNumber mk_X6_fitsNumber rfl (Nat.le_of_ble_eq_true rfl) (Nat.le_refl _) (v := (some (.inl (b2i q14.1)))) (σ1 := q14.2) (lkr_X6_fitsNumber l 50 d (by omega) (F_X5_partOf a1 0 q12.2) q12.1 (wrap (a3 + 1)) q12.2 q14 e15) _ rfl ?_
        have h9 := Option.some.inj h
        subst h9
        exact go_zret (x := q14.1) dc_X6_fitsAt_181 rfl
      replace h := (if_neg hs16).symm.trans h
      refine go_tsw (off := 166) dc_X6_fitsAt_16 (by decide) (by decide) (ts_d [0, 1, 4, 5] (nn1 hs1 (nn1 hs6 (nn1 hs11 (nn1 hs16 nn0)))) (by decide +kernel)) (by rfl) ?_
      exact hB_X6_fitsAt_182 a1 a2 a3 σ h
    · replace h := (if_neg hc).symm.trans h
      refine go_ops ok_X6_fitsAt_6_1 (L' := [some (.inr 32), some (.inl a1), some (.inl a2), some (.inl a3), none]) (st' := [.inl 0]) (σ1 := σ) rfl ?_
      have h9 := Option.some.inj h
      subst h9
      exact go_zret (x := false) dc_X6_fitsAt_7 rfl
  have hf := go_ct (as := [.inr 32, .inl a1, .inl a2, .inl a3]) mk_X6_fitsAt (by rfl) (Nat.le_of_ble_eq_true rfl) key
  exact hf
def F_X6_fitsAt : Nat → Int → Int → Int → Sg → Option (Bool × Sg)
  | 0 => fun _ _ _ _ => none
  | n + 1 => G_X6_fitsAt (F_X6_fitsAt n)
theorem lkr_X6_fitsAt (l : Launch) : ∀ (n d : Nat), 2 * n + 56 ≤ d → ∀ (a1 : Int) (a2 : Int) (a3 : Int) (σ : Sg) (q : (Bool × Sg)), F_X6_fitsAt n a1 a2 a3 σ = some q → CT l d m_X6_fitsAt.2.1 m_X6_fitsAt.2.2.1 m_X6_fitsAt.2.2.2.1 m_X6_fitsAt.2.2.2.2 [.inr 32, .inl a1, .inl a2, .inl a3] (LAYC, σ) (some (.inl (b2i q.1))) (LAYC, q.2)
  | 0, d, hd, a1, a2, a3, σ, q, h => by cases h
  | n + 1, d, hd, a1, a2, a3, σ, q, h => lk_X6_fitsAt l (2 * n + 56) (F_X6_fitsAt n) (fun d hd => lkr_X6_fitsAt l n d hd) d (by omega) (by omega) a1 a2 a3 σ q h
theorem dc_X6_fitsCase_4 : decode m_X6_fitsCase.2.2.1 4 = .ok (.invokevirtual 45, 3) := by decide +kernel
theorem dc_X6_fitsCase_14 : decode m_X6_fitsCase.2.2.1 14 = .ok (.invokevirtual 48, 3) := by decide +kernel
theorem dc_X6_fitsCase_17 : decode m_X6_fitsCase.2.2.1 17 = .ok (.if_icmp .ge 31, 3) := by decide +kernel
theorem dc_X6_fitsCase_27 : decode m_X6_fitsCase.2.2.1 27 = .ok (.invokevirtual 51, 3) := by decide +kernel
theorem dc_X6_fitsCase_34 : decode m_X6_fitsCase.2.2.1 34 = .ok (.invokevirtual 55, 3) := by decide +kernel
theorem dc_X6_fitsCase_37 : decode m_X6_fitsCase.2.2.1 37 = .ok (.ifCond .ne 5, 3) := by decide +kernel
theorem dc_X6_fitsCase_41 : decode m_X6_fitsCase.2.2.1 41 = .ok (.ireturn, 1) := by decide +kernel
theorem dc_X6_fitsCase_45 : decode m_X6_fitsCase.2.2.1 45 = .ok (.goto (-36), 3) := by decide +kernel
theorem dc_X6_fitsCase_49 : decode m_X6_fitsCase.2.2.1 49 = .ok (.ireturn, 1) := by decide +kernel
theorem ok_X6_fitsCase_0_2 : oks m_X6_fitsCase.1 m_X6_fitsCase.2.2.1 0 [(.aload_n 0, 1, (0, 0, 0)), (.getfield 19, 3, (6, 2, 0))] = true ∧ plen 0 [(.aload_n 0, 1, (0, 0, 0)), (.getfield 19, 3, (6, 2, 0))] = 4 := by decide +kernel
theorem ok_X6_fitsCase_7_2 : oks m_X6_fitsCase.1 m_X6_fitsCase.2.2.1 7 [(.iconst 0, 1, (0, 0, 0)), (.istore_n 2, 1, (0, 0, 0))] = true ∧ plen 7 [(.iconst 0, 1, (0, 0, 0)), (.istore_n 2, 1, (0, 0, 0))] = 9 := by decide +kernel
theorem ok_X6_fitsCase_9_3 : oks m_X6_fitsCase.1 m_X6_fitsCase.2.2.1 9 [(.iload_n 2, 1, (0, 0, 0)), (.aload_n 0, 1, (0, 0, 0)), (.getfield 15, 3, (6, 1, 0))] = true ∧ plen 9 [(.iload_n 2, 1, (0, 0, 0)), (.aload_n 0, 1, (0, 0, 0)), (.getfield 15, 3, (6, 1, 0))] = 14 := by decide +kernel
theorem ok_X6_fitsCase_20_5 : oks m_X6_fitsCase.1 m_X6_fitsCase.2.2.1 20 [(.aload_n 0, 1, (0, 0, 0)), (.aload_n 0, 1, (0, 0, 0)), (.getfield 15, 3, (6, 1, 0)), (.iload_n 1, 1, (0, 0, 0)), (.iload_n 2, 1, (0, 0, 0))] = true ∧ plen 20 [(.aload_n 0, 1, (0, 0, 0)), (.aload_n 0, 1, (0, 0, 0)), (.getfield 15, 3, (6, 1, 0)), (.iload_n 1, 1, (0, 0, 0)), (.iload_n 2, 1, (0, 0, 0))] = 27 := by decide +kernel
theorem ok_X6_fitsCase_30_4 : oks m_X6_fitsCase.1 m_X6_fitsCase.2.2.1 30 [(.iload_n 2, 1, (0, 0, 0)), (.iconst 1, 1, (0, 0, 0)), (.iadd, 1, (0, 0, 0)), (.iconst 0, 1, (0, 0, 0))] = true ∧ plen 30 [(.iload_n 2, 1, (0, 0, 0)), (.iconst 1, 1, (0, 0, 0)), (.iadd, 1, (0, 0, 0)), (.iconst 0, 1, (0, 0, 0))] = 34 := by decide +kernel
theorem ok_X6_fitsCase_40_1 : oks m_X6_fitsCase.1 m_X6_fitsCase.2.2.1 40 [(.iconst 0, 1, (0, 0, 0))] = true ∧ plen 40 [(.iconst 0, 1, (0, 0, 0))] = 41 := by decide +kernel
theorem ok_X6_fitsCase_42_1 : oks m_X6_fitsCase.1 m_X6_fitsCase.2.2.1 42 [(.iinc 2 1, 3, (0, 0, 0))] = true ∧ plen 42 [(.iinc 2 1, 3, (0, 0, 0))] = 45 := by decide +kernel
theorem ok_X6_fitsCase_48_1 : oks m_X6_fitsCase.1 m_X6_fitsCase.2.2.1 48 [(.iconst 1, 1, (0, 0, 0))] = true ∧ plen 48 [(.iconst 1, 1, (0, 0, 0))] = 49 := by decide +kernel
def L_X6_fitsCase_9 (x1 : Int) (x2 : Int) (σ : Sg) : Option ((Int × Sg) ⊕ (Sg ⊕ (Bool × Sg))) :=
if (F_X4_columns σ) ≤ x2 then
some (.inr (.inl σ))
else
(F_X6_fitsAt 50 (F_X4_get x1 x2 σ) (wrap (x2 + 1)) 0 σ).bind fun q3 =>
if q3.1 = true then
some (.inl (wrap (x2 + 1), q3.2))
else
some (.inr (.inr (false, q3.2)))
def F_X6_fitsCase (a1 : Int) (σ : Sg) : Option (Bool × Sg) :=
bnd (F_X1_unbind σ) fun q1 =>
(iter (fun a : (Int × Sg) => L_X6_fitsCase_9 a1 a.1 a.2) 3000 (0, q1)).bind fun y5 => Sum.elim (fun z7 =>
some (true, z7)) (fun r8 => some r8) y5
theorem lk_X6_fitsCase (l : Launch) (d : Nat) (hd : 157 ≤ d) (a1 : Int) (σ : Sg) (q : (Bool × Sg)) (h : F_X6_fitsCase a1 σ = some q) : CT l d m_X6_fitsCase.2.1 m_X6_fitsCase.2.2.1 m_X6_fitsCase.2.2.2.1 m_X6_fitsCase.2.2.2.2 [.inr 32, .inl a1] (LAYC, σ) (some (.inl (b2i q.1))) (LAYC, q.2) := by
  obtain ⟨d, rfl⟩ : ∃ e, d = e + 1 := ⟨d - 1, by omega⟩
  have key : Go l m_X6_fitsCase (d + 1) LAYC (.inl (some (.inl (b2i q.1)))) q.2 0 [some (.inr 32), some (.inl a1), none] [] σ := by
    unfold F_X6_fitsCase at h
    have hL_X6_fitsCase_9 : ∀ (x1 : Int) (n : Nat) (a : (Int × Sg)) (y : (Sg ⊕ (Bool × Sg))), iter (fun a : (Int × Sg) => L_X6_fitsCase_9 x1 a.1 a.2) n a = some y → (Sum.elim (fun y : Sg => Go l m_X6_fitsCase (d + 1) LAYC (.inl (some (.inl (b2i q.1)))) q.2 48 [none, none, none] [] y) (fun r : (Bool × Sg) => r = q)) y → (fun a : (Int × Sg) => Go l m_X6_fitsCase (d + 1) LAYC (.inl (some (.inl (b2i q.1)))) q.2 9 [some (.inr 32), some (.inl x1), some (.inl a.1)] [] a.2) a := by
      intro x1
      refine go_iter (G := fun a : (Int × Sg) => Go l m_X6_fitsCase (d + 1) LAYC (.inl (some (.inl (b2i q.1)))) q.2 9 [some (.inr 32), some (.inl x1), some (.inl a.1)] [] a.2) (K := Sum.elim (fun y : Sg => Go l m_X6_fitsCase (d + 1) LAYC (.inl (some (.inl (b2i q.1)))) q.2 48 [none, none, none] [] y) (fun r : (Bool × Sg) => r = q)) ?_
      rintro ⟨x2, σ⟩ w h hK
      replace h : L_X6_fitsCase_9 x1 x2 σ = some w := h
      show Go l m_X6_fitsCase (d + 1) LAYC (.inl (some (.inl (b2i q.1)))) q.2 9 [some (.inr 32), some (.inl x1), some (.inl x2)] [] σ
      unfold L_X6_fitsCase_9 at h
      refine go_ops ok_X6_fitsCase_9_3 (L' := [some (.inr 32), some (.inl x1), some (.inl x2)]) (st' := [.inr 24, .inl x2]) (σ1 := σ) rfl ?_
      refine go_V (M1 := m_X4_columns) (as := []) (st := [.inl x2]) (k := 24) (ci := 4) dc_X6_fitsCase_14 ln_6_48 im_X4_columns (by decide) rfl rfl mk_X4_columns rfl (Nat.le_of_ble_eq_true rfl) (Nat.le_refl _) (v := (some (.inl (F_X4_columns σ)))) (σ1 := σ) (lk_X4_columns l d (by omega) σ _ rfl) _ rfl ?_
      refine go_icmp_ge dc_X6_fitsCase_17 (by rfl) (fun hc => ?_) (fun hc => ?_)
      · replace h := (if_pos hc).symm.trans h
        cases h
        refine go_wk (L' := [none, none, none]) trivial ?_
        exact hK
      · replace h := (if_neg hc).symm.trans h
        refine go_ops ok_X6_fitsCase_20_5 (L' := [some (.inr 32), some (.inl x1), some (.inl x2)]) (st' := [.inl x2, .inl x1, .inr 24, .inr 32]) (σ1 := σ) rfl ?_
        refine go_V (M1 := m_X4_get) (as := [.inl x1, .inl x2]) (st := [.inr 32]) (k := 24) (ci := 4) dc_X6_fitsCase_27 ln_6_51 im_X4_get (by decide) rfl rfl mk_X4_get rfl (Nat.le_of_ble_eq_true rfl) (Nat.le_refl _) (v := (some (.inl (F_X4_get x1 x2 σ)))) (σ1 := σ) (lk_X4_get l d (by omega) x1 x2 σ _ rfl) _ rfl ?_
        refine go_ops ok_X6_fitsCase_30_4 (L' := [some (.inr 32), some (.inl x1), some (.inl x2)]) (st' := [.inl 0, .inl (wrap (x2 + 1)), .inl (F_X4_get x1 x2 σ), .inr 32]) (σ1 := σ) rfl ?_
        obtain ⟨q3, e4, h⟩ := bind_inv h
        refine go_V (M1 := m_X6_fitsAt) (as := [.inl (F_X4_get x1 x2 σ), .inl (wrap (x2 + 1)), .inl 0]) (st := []) (k := 32) (ci := 6) dc_X6_fitsCase_34 ln_6_55 im_X6_fitsAt (by decide) rfl rfl mk_X6_fitsAt rfl (Nat.le_of_ble_eq_true rfl) (Nat.le_refl _) (v := (some (.inl (b2i q3.1)))) (σ1 := q3.2) (lkr_X6_fitsAt l 50 d (by omega) (F_X4_get x1 x2 σ) (wrap (x2 + 1)) 0 σ q3 e4) _ rfl ?_
        refine go_ifb_ne dc_X6_fitsCase_37 (by rfl) (fun hc => ?_) (fun hc => ?_)
        · replace h := (if_pos hc).symm.trans h
          refine go_ops ok_X6_fitsCase_42_1 (L' := [some (.inr 32), some (.inl x1), some (.inl (wrap (x2 + 1)))]) (st' := []) (σ1 := q3.2) rfl ?_
          refine go_goto dc_X6_fitsCase_45 (by rfl) ?_
          cases h
          exact hK
        · replace h := (if_neg hc).symm.trans h
          refine go_ops ok_X6_fitsCase_40_1 (L' := [some (.inr 32), some (.inl x1), some (.inl x2)]) (st' := [.inl 0]) (σ1 := q3.2) rfl ?_
          cases h
          have hK2 : _ = q := hK
          subst hK2
          exact go_zret (x := false) dc_X6_fitsCase_41 rfl
    refine go_ops ok_X6_fitsCase_0_2 (L' := [some (.inr 32), some (.inl a1), none]) (st' := [.inr 27]) (σ1 := σ) rfl ?_
    obtain ⟨q1, e2, h⟩ := bnd_inv h
    refine go_V (M1 := m_X1_unbind) (as := []) (st := []) (k := 27) (ci := 1) dc_X6_fitsCase_4 ln_6_45 im_X1_unbind (by decide) rfl rfl mk_X1_unbind rfl (Nat.le_of_ble_eq_true rfl) (Nat.le_refl _) (v := none) (σ1 := q1) (lk_X1_unbind l d (by omega) σ q1 e2.symm) _ rfl ?_
    refine go_ops ok_X6_fitsCase_7_2 (L' := [some (.inr 32), some (.inl a1), some (.inl 0)]) (st' := []) (σ1 := q1) rfl ?_
    obtain ⟨y5, e6, h⟩ := bind_inv h
    refine hL_X6_fitsCase_9 a1 3000 (0, q1) y5 e6 ?_
    rcases y5 with z7 | r8
    rotate_left
    · show r8 = q
      cases h; rfl
    show Go l m_X6_fitsCase (d + 1) LAYC (.inl (some (.inl (b2i q.1)))) q.2 48 [none, none, none] [] z7
    rw [Sum.elim_inl] at h
    refine go_ops ok_X6_fitsCase_48_1 (L' := [none, none, none]) (st' := [.inl 1]) (σ1 := z7) rfl ?_
    have h9 := Option.some.inj h
    subst h9
    exact go_zret (x := true) dc_X6_fitsCase_49 rfl
  have hf := go_ct (as := [.inr 32, .inl a1]) mk_X6_fitsCase (by rfl) (Nat.le_of_ble_eq_true rfl) key
  exact hf
theorem dc_X6_decide_7 : decode m_X6_decide.2.2.1 7 = .ok (.invokevirtual 23, 3) := by decide +kernel
theorem dc_X6_decide_10 : decode m_X6_decide.2.2.1 10 = .ok (.if_icmp .ge 49, 3) := by decide +kernel
theorem dc_X6_decide_15 : decode m_X6_decide.2.2.1 15 = .ok (.invokevirtual 29, 3) := by decide +kernel
theorem dc_X6_decide_18 : decode m_X6_decide.2.2.1 18 = .ok (.ifCond .eq 35, 3) := by decide +kernel
theorem dc_X6_decide_26 : decode m_X6_decide.2.2.1 26 = .ok (.invokevirtual 33, 3) := by decide +kernel
theorem dc_X6_decide_32 : decode m_X6_decide.2.2.1 32 = .ok (.if_icmp .eq 21, 3) := by decide +kernel
theorem dc_X6_decide_36 : decode m_X6_decide.2.2.1 36 = .ok (.ifCond .ne 14, 3) := by decide +kernel
theorem dc_X6_decide_44 : decode m_X6_decide.2.2.1 44 = .ok (.invokevirtual 39, 3) := by decide +kernel
theorem dc_X6_decide_47 : decode m_X6_decide.2.2.1 47 = .ok (.goto 5, 3) := by decide +kernel
theorem dc_X6_decide_52 : decode m_X6_decide.2.2.1 52 = .ok (.ireturn, 1) := by decide +kernel
theorem dc_X6_decide_56 : decode m_X6_decide.2.2.1 56 = .ok (.goto (-54), 3) := by decide +kernel
theorem dc_X6_decide_63 : decode m_X6_decide.2.2.1 63 = .ok (.invokevirtual 42, 3) := by decide +kernel
theorem dc_X6_decide_66 : decode m_X6_decide.2.2.1 66 = .ok (.ireturn, 1) := by decide +kernel
theorem ok_X6_decide_0_2 : oks m_X6_decide.1 m_X6_decide.2.2.1 0 [(.iconst 0, 1, (0, 0, 0)), (.istore_n 1, 1, (0, 0, 0))] = true ∧ plen 0 [(.iconst 0, 1, (0, 0, 0)), (.istore_n 1, 1, (0, 0, 0))] = 2 := by decide +kernel
theorem ok_X6_decide_2_3 : oks m_X6_decide.1 m_X6_decide.2.2.1 2 [(.iload_n 1, 1, (0, 0, 0)), (.aload_n 0, 1, (0, 0, 0)), (.getfield 15, 3, (6, 1, 0))] = true ∧ plen 2 [(.iload_n 1, 1, (0, 0, 0)), (.aload_n 0, 1, (0, 0, 0)), (.getfield 15, 3, (6, 1, 0))] = 7 := by decide +kernel
theorem ok_X6_decide_13_2 : oks m_X6_decide.1 m_X6_decide.2.2.1 13 [(.aload_n 0, 1, (0, 0, 0)), (.iload_n 1, 1, (0, 0, 0))] = true ∧ plen 13 [(.aload_n 0, 1, (0, 0, 0)), (.iload_n 1, 1, (0, 0, 0))] = 15 := by decide +kernel
theorem ok_X6_decide_21_3 : oks m_X6_decide.1 m_X6_decide.2.2.1 21 [(.aload_n 0, 1, (0, 0, 0)), (.getfield 19, 3, (6, 2, 0)), (.iload_n 1, 1, (0, 0, 0))] = true ∧ plen 21 [(.aload_n 0, 1, (0, 0, 0)), (.getfield 19, 3, (6, 2, 0)), (.iload_n 1, 1, (0, 0, 0))] = 26 := by decide +kernel
theorem ok_X6_decide_29_3 : oks m_X6_decide.1 m_X6_decide.2.2.1 29 [(.istore_n 2, 1, (0, 0, 0)), (.iload_n 2, 1, (0, 0, 0)), (.iconst 1, 1, (0, 0, 0))] = true ∧ plen 29 [(.istore_n 2, 1, (0, 0, 0)), (.iload_n 2, 1, (0, 0, 0)), (.iconst 1, 1, (0, 0, 0))] = 32 := by decide +kernel
theorem ok_X6_decide_35_1 : oks m_X6_decide.1 m_X6_decide.2.2.1 35 [(.iload_n 2, 1, (0, 0, 0))] = true ∧ plen 35 [(.iload_n 2, 1, (0, 0, 0))] = 36 := by decide +kernel
theorem ok_X6_decide_39_3 : oks m_X6_decide.1 m_X6_decide.2.2.1 39 [(.aload_n 0, 1, (0, 0, 0)), (.getfield 19, 3, (6, 2, 0)), (.iload_n 1, 1, (0, 0, 0))] = true ∧ plen 39 [(.aload_n 0, 1, (0, 0, 0)), (.getfield 19, 3, (6, 2, 0)), (.iload_n 1, 1, (0, 0, 0))] = 44 := by decide +kernel
theorem ok_X6_decide_50_1 : oks m_X6_decide.1 m_X6_decide.2.2.1 50 [(.bipush (-2), 2, (0, 0, 0))] = true ∧ plen 50 [(.bipush (-2), 2, (0, 0, 0))] = 52 := by decide +kernel
theorem ok_X6_decide_53_1 : oks m_X6_decide.1 m_X6_decide.2.2.1 53 [(.iinc 1 1, 3, (0, 0, 0))] = true ∧ plen 53 [(.iinc 1 1, 3, (0, 0, 0))] = 56 := by decide +kernel
theorem ok_X6_decide_59_2 : oks m_X6_decide.1 m_X6_decide.2.2.1 59 [(.aload_n 0, 1, (0, 0, 0)), (.getfield 19, 3, (6, 2, 0))] = true ∧ plen 59 [(.aload_n 0, 1, (0, 0, 0)), (.getfield 19, 3, (6, 2, 0))] = 63 := by decide +kernel
def B_X6_decide_53 (x1 : Int) (σ : Sg) : Option ((Int × Sg) ⊕ (Sg ⊕ (Int × Sg))) :=
some (.inl (wrap (x1 + 1), σ))
def L_X6_decide_2 (x1 : Int) (σ : Sg) : Option ((Int × Sg) ⊕ (Sg ⊕ (Int × Sg))) :=
if (F_X4_count σ) ≤ x1 then
some (.inr (.inl σ))
else
(F_X6_fitsCase x1 σ).bind fun q1 =>
if q1.1 = true then
bnd (F_X1_guardOf x1 q1.2) fun v3 =>
if v3 = 1 then
B_X6_decide_53 x1 q1.2
else
if v3 = 0 then
bnd (F_X1_take x1 q1.2) fun q5 =>
some (.inr (.inr (q5.1, q5.2)))
else
some (.inr (.inr ((-2), q1.2)))
else
B_X6_decide_53 x1 q1.2
def F_X6_decide (σ : Sg) : Option (Int × Sg) :=
(iter (fun a : (Int × Sg) => L_X6_decide_2 a.1 a.2) 3000 (0, σ)).bind fun y7 => Sum.elim (fun z9 =>
bnd (F_X1_miss z9) fun q11 =>
some (q11.1, q11.2)) (fun r10 => some r10) y7
theorem lk_X6_decide (l : Launch) (d : Nat) (hd : 158 ≤ d) (σ : Sg) (q : (Int × Sg)) (h : F_X6_decide σ = some q) : CT l d m_X6_decide.2.1 m_X6_decide.2.2.1 m_X6_decide.2.2.2.1 m_X6_decide.2.2.2.2 [.inr 32] (LAYC, σ) (some (.inl q.1)) (LAYC, q.2) := by
  obtain ⟨d, rfl⟩ : ∃ e, d = e + 1 := ⟨d - 1, by omega⟩
  have key : Go l m_X6_decide (d + 1) LAYC (.inl (some (.inl q.1))) q.2 0 [some (.inr 32), none, none] [] σ := by
    unfold F_X6_decide at h
    have hL_X6_decide_2 : ∀ (n : Nat) (a : (Int × Sg)) (y : (Sg ⊕ (Int × Sg))), iter (fun a : (Int × Sg) => L_X6_decide_2 a.1 a.2) n a = some y → (Sum.elim (fun y : Sg => Go l m_X6_decide (d + 1) LAYC (.inl (some (.inl q.1))) q.2 59 [some (.inr 32), none, none] [] y) (fun r : (Int × Sg) => r = q)) y → (fun a : (Int × Sg) => Go l m_X6_decide (d + 1) LAYC (.inl (some (.inl q.1))) q.2 2 [some (.inr 32), some (.inl a.1), none] [] a.2) a := by
      skip
      refine go_iter (G := fun a : (Int × Sg) => Go l m_X6_decide (d + 1) LAYC (.inl (some (.inl q.1))) q.2 2 [some (.inr 32), some (.inl a.1), none] [] a.2) (K := Sum.elim (fun y : Sg => Go l m_X6_decide (d + 1) LAYC (.inl (some (.inl q.1))) q.2 59 [some (.inr 32), none, none] [] y) (fun r : (Int × Sg) => r = q)) ?_
      rintro ⟨x1, σ⟩ w h hK
      replace h : L_X6_decide_2 x1 σ = some w := h
      show Go l m_X6_decide (d + 1) LAYC (.inl (some (.inl q.1))) q.2 2 [some (.inr 32), some (.inl x1), none] [] σ
      unfold L_X6_decide_2 at h
      have hB_X6_decide_53 : ∀ (x1 : Int) (σ : Sg), B_X6_decide_53 x1 σ = some w → Go l m_X6_decide (d + 1) LAYC (.inl (some (.inl q.1))) q.2 53 [some (.inr 32), some (.inl x1), none] [] σ := by
        intro x1 σ h
        unfold B_X6_decide_53 at h
        refine go_ops ok_X6_decide_53_1 (L' := [some (.inr 32), some (.inl (wrap (x1 + 1))), none]) (st' := []) (σ1 := σ) rfl ?_
        refine go_goto dc_X6_decide_56 (by rfl) ?_
        cases h
        exact hK
      refine go_ops ok_X6_decide_2_3 (L' := [some (.inr 32), some (.inl x1), none]) (st' := [.inr 24, .inl x1]) (σ1 := σ) rfl ?_
      refine go_V (M1 := m_X4_count) (as := []) (st := [.inl x1]) (k := 24) (ci := 4) dc_X6_decide_7 ln_6_23 im_X4_count (by decide) rfl rfl mk_X4_count rfl (Nat.le_of_ble_eq_true rfl) (Nat.le_refl _) (v := (some (.inl (F_X4_count σ)))) (σ1 := σ) (lk_X4_count l d (by omega) σ _ rfl) _ rfl ?_
      refine go_icmp_ge dc_X6_decide_10 (by rfl) (fun hc => ?_) (fun hc => ?_)
      · replace h := (if_pos hc).symm.trans h
        cases h
        refine go_wk (L' := [some (.inr 32), none, none]) ⟨rfl, trivial⟩ ?_
        exact hK
      · replace h := (if_neg hc).symm.trans h
        refine go_ops ok_X6_decide_13_2 (L' := [some (.inr 32), some (.inl x1), none]) (st' := [.inl x1, .inr 32]) (σ1 := σ) rfl ?_
        obtain ⟨q1, e2, h⟩ := bind_inv h
        refine go_V (M1 := m_X6_fitsCase) (as := [.inl x1]) (st := []) (k := 32) (ci := 6) dc_X6_decide_15 ln_6_29 im_X6_fitsCase (by decide) rfl rfl mk_X6_fitsCase rfl (Nat.le_of_ble_eq_true rfl) (Nat.le_refl _) (v := (some (.inl (b2i q1.1)))) (σ1 := q1.2) (lk_X6_fitsCase l d (by omega) x1 σ q1 e2) _ rfl ?_
        refine go_ifb_eq dc_X6_decide_18 (by rfl) (fun hc => ?_) (fun hc => ?_)
        · replace h := (if_neg hc).symm.trans h
          exact hB_X6_decide_53 x1 q1.2 h
        · replace h := (if_pos hc).symm.trans h
          refine go_ops ok_X6_decide_21_3 (L' := [some (.inr 32), some (.inl x1), none]) (st' := [.inl x1, .inr 27]) (σ1 := q1.2) rfl ?_
          refine go_V (M1 := m_X1_guardOf) (as := [.inl x1]) (st := []) (k := 27) (ci := 1) dc_X6_decide_26 ln_6_33 im_X1_guardOf (by decide) rfl rfl mk_X1_guardOf rfl (Nat.le_of_ble_eq_true rfl) (Nat.le_refl _) (v := (some (.inl (F_X1_guardOf x1 q1.2)))) (σ1 := q1.2) (lk_X1_guardOf l d (by omega) x1 q1.2 _ rfl) _ rfl ?_
          obtain ⟨v3, e4, h⟩ := bnd_inv h
          refine go_ops ok_X6_decide_29_3 (L' := [some (.inr 32), some (.inl x1), some (.inl v3)]) (st' := [.inl 1, .inl v3]) (σ1 := q1.2) (by subst e4; rfl) ?_
          refine go_icmp_eq dc_X6_decide_32 (by rfl) (fun hc => ?_) (fun hc => ?_)
          · replace h := (if_pos hc).symm.trans h
            refine go_wk (L' := [some (.inr 32), some (.inl x1), none]) ⟨rfl, rfl, trivial⟩ ?_
            exact hB_X6_decide_53 x1 q1.2 h
          · replace h := (if_neg hc).symm.trans h
            refine go_ops ok_X6_decide_35_1 (L' := [some (.inr 32), some (.inl x1), some (.inl v3)]) (st' := [.inl v3]) (σ1 := q1.2) rfl ?_
            refine go_if_ne dc_X6_decide_36 (by rfl) (fun hc => ?_) (fun hc => ?_)
            · replace h := (if_neg hc).symm.trans h
              refine go_ops ok_X6_decide_50_1 (L' := [some (.inr 32), some (.inl x1), some (.inl v3)]) (st' := [.inl (-2)]) (σ1 := q1.2) rfl ?_
              cases h
              have hK2 : _ = q := hK
              subst hK2
              exact go_iret dc_X6_decide_52 rfl
            · replace h := (if_pos hc).symm.trans h
              refine go_ops ok_X6_decide_39_3 (L' := [some (.inr 32), some (.inl x1), some (.inl v3)]) (st' := [.inl x1, .inr 27]) (σ1 := q1.2) rfl ?_
              obtain ⟨q5, e6, h⟩ := bnd_inv h
              refine go_V (M1 := m_X1_take) (as := [.inl x1]) (st := []) (k := 27) (ci := 1) dc_X6_decide_44 ln_6_39 im_X1_take (by decide) rfl rfl mk_X1_take rfl (Nat.le_of_ble_eq_true rfl) (Nat.le_refl _) (v := (some (.inl q5.1))) (σ1 := q5.2) (lk_X1_take l d (by omega) x1 q1.2 q5 e6.symm) _ rfl ?_
              refine go_goto dc_X6_decide_47 (by rfl) ?_
              cases h
              have hK2 : _ = q := hK
              subst hK2
              exact go_iret dc_X6_decide_52 rfl
    refine go_ops ok_X6_decide_0_2 (L' := [some (.inr 32), some (.inl 0), none]) (st' := []) (σ1 := σ) rfl ?_
    obtain ⟨y7, e8, h⟩ := bind_inv h
    refine hL_X6_decide_2  3000 (0, σ) y7 e8 ?_
    rcases y7 with z9 | r10
    rotate_left
    · show r10 = q
      cases h; rfl
    show Go l m_X6_decide (d + 1) LAYC (.inl (some (.inl q.1))) q.2 59 [some (.inr 32), none, none] [] z9
    rw [Sum.elim_inl] at h
    refine go_ops ok_X6_decide_59_2 (L' := [some (.inr 32), none, none]) (st' := [.inr 27]) (σ1 := z9) rfl ?_
    obtain ⟨q11, e12, h⟩ := bnd_inv h
    refine go_V (M1 := m_X1_miss) (as := []) (st := []) (k := 27) (ci := 1) dc_X6_decide_63 ln_6_42 im_X1_miss (by decide) rfl rfl mk_X1_miss rfl (Nat.le_of_ble_eq_true rfl) (Nat.le_refl _) (v := (some (.inl q11.1))) (σ1 := q11.2) (lk_X1_miss l d (by omega) z9 q11 e12.symm) _ rfl ?_
    have h9 := Option.some.inj h
    subst h9
    exact go_iret dc_X6_decide_66 rfl
  have hf := go_ct (as := [.inr 32]) mk_X6_decide (by rfl) (Nat.le_of_ble_eq_true rfl) key
  exact hf
theorem dc_X7_forget_5 : decode m_X7_forget.2.2.1 5 = .ok (.return_, 1) := by decide +kernel
theorem ok_X7_forget_0_3 : oks m_X7_forget.1 m_X7_forget.2.2.1 0 [(.aload_n 0, 1, (0, 0, 0)), (.iconst 0, 1, (0, 0, 0)), (.putfield 15, 3, (7, 4, 0))] = true ∧ plen 0 [(.aload_n 0, 1, (0, 0, 0)), (.iconst 0, 1, (0, 0, 0)), (.putfield 15, 3, (7, 4, 0))] = 5 := by decide +kernel
def F_X7_forget (t : Nat) (σ : Sg) : Sg :=
bnd (up2 σ t 4 0) fun s1 =>
s1
theorem lk_X7_forget_43 (l : Launch) (d : Nat) (hd : 0 ≤ d) (σ : Sg) (q : Sg) (h : F_X7_forget 43 σ = q) : CT l d m_X7_forget.2.1 m_X7_forget.2.2.1 m_X7_forget.2.2.2.1 m_X7_forget.2.2.2.2 [.inr 43] (LAYC, σ) none (LAYC, q) := by
  skip
  have key : Go l m_X7_forget d LAYC (.inl none) q 0 [some (.inr 43)] [] σ := by
    unfold F_X7_forget at h
    obtain ⟨s1, e2, h⟩ := bnd_inv h
    refine go_ops ok_X7_forget_0_3 (L' := [some (.inr 43)]) (st' := []) (σ1 := s1) (by subst e2; rfl) ?_
    subst h
    exact go_vret dc_X7_forget_5 rfl
  have hf := go_ct (as := [.inr 43]) mk_X7_forget (by rfl) (Nat.le_of_ble_eq_true rfl) key
  exact hf
theorem lk_X7_forget_49 (l : Launch) (d : Nat) (hd : 0 ≤ d) (σ : Sg) (q : Sg) (h : F_X7_forget 49 σ = q) : CT l d m_X7_forget.2.1 m_X7_forget.2.2.1 m_X7_forget.2.2.2.1 m_X7_forget.2.2.2.2 [.inr 49] (LAYC, σ) none (LAYC, q) := by
  skip
  have key : Go l m_X7_forget d LAYC (.inl none) q 0 [some (.inr 49)] [] σ := by
    unfold F_X7_forget at h
    obtain ⟨s1, e2, h⟩ := bnd_inv h
    refine go_ops ok_X7_forget_0_3 (L' := [some (.inr 49)]) (st' := []) (σ1 := s1) (by subst e2; rfl) ?_
    subst h
    exact go_vret dc_X7_forget_5 rfl
  have hf := go_ct (as := [.inr 49]) mk_X7_forget (by rfl) (Nat.le_of_ble_eq_true rfl) key
  exact hf
