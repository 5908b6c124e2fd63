/-! read off: X11_thrown .. X11_range -/
theorem dc_X11_thrown_4 : decode m_X11_thrown.2.2.1 4 = .ok (.ireturn, 1) := by decide +kernel
theorem ok_X11_thrown_0_2 : oks m_X11_thrown.1 m_X11_thrown.2.2.1 0 [(.aload_n 0, 1, (0, 0, 0)), (.getfield 168, 3, (11, 0, 0))] = true ∧ plen 0 [(.aload_n 0, 1, (0, 0, 0)), (.getfield 168, 3, (11, 0, 0))] = 4 := by decide +kernel
def F_X11_thrown (σ : Sg) : Int :=
σ 0 0
theorem lk_X11_thrown (l : Launch) (d : Nat) (hd : 0 ≤ d) (σ : Sg) (q : Int) (h : F_X11_thrown σ = q) : CT l d m_X11_thrown.2.1 m_X11_thrown.2.2.1 m_X11_thrown.2.2.2.1 m_X11_thrown.2.2.2.2 [.inr 0] (LAYM, σ) (some (.inl q)) (LAYM, σ) := by
  skip
  have key : Go l m_X11_thrown d LAYM (.inl (some (.inl q))) σ 0 [some (.inr 0)] [] σ := by
    unfold F_X11_thrown at h
    refine go_ops ok_X11_thrown_0_2 (L' := [some (.inr 0)]) (st' := [.inl (σ 0 0)]) (σ1 := σ) rfl ?_
    subst h
    exact go_iret dc_X11_thrown_4 rfl
  have hf := go_ct (as := [.inr 0]) mk_X11_thrown (by rfl) (Nat.le_of_ble_eq_true rfl) key
  exact hf
theorem dc_X11_refused_6 : decode m_X11_refused.2.2.1 6 = .ok (.ifCond .eq 7, 3) := by decide +kernel
theorem dc_X11_refused_10 : decode m_X11_refused.2.2.1 10 = .ok (.goto 4, 3) := by decide +kernel
theorem dc_X11_refused_14 : decode m_X11_refused.2.2.1 14 = .ok (.ireturn, 1) := by decide +kernel
theorem ok_X11_refused_0_4 : oks m_X11_refused.1 m_X11_refused.2.2.1 0 [(.aload_n 0, 1, (0, 0, 0)), (.iload_n 1, 1, (0, 0, 0)), (.putfield 168, 3, (11, 0, 0)), (.iload_n 1, 1, (0, 0, 0))] = true ∧ plen 0 [(.aload_n 0, 1, (0, 0, 0)), (.iload_n 1, 1, (0, 0, 0)), (.putfield 168, 3, (11, 0, 0)), (.iload_n 1, 1, (0, 0, 0))] = 6 := by decide +kernel
theorem ok_X11_refused_9_1 : oks m_X11_refused.1 m_X11_refused.2.2.1 9 [(.iconst 1, 1, (0, 0, 0))] = true ∧ plen 9 [(.iconst 1, 1, (0, 0, 0))] = 10 := by decide +kernel
theorem ok_X11_refused_13_1 : oks m_X11_refused.1 m_X11_refused.2.2.1 13 [(.iconst 0, 1, (0, 0, 0))] = true ∧ plen 13 [(.iconst 0, 1, (0, 0, 0))] = 14 := by decide +kernel
def F_X11_refused (a1 : Int) (σ : Sg) : (Bool × Sg) :=
bnd (up2 σ 0 0 a1) fun s1 =>
if a1 = 0 then
(false, s1)
else
(true, s1)
theorem lk_X11_refused (l : Launch) (d : Nat) (hd : 0 ≤ d) (a1 : Int) (σ : Sg) (q : (Bool × Sg)) (h : F_X11_refused a1 σ = q) : CT l d m_X11_refused.2.1 m_X11_refused.2.2.1 m_X11_refused.2.2.2.1 m_X11_refused.2.2.2.2 [.inr 0, .inl a1] (LAYM, σ) (some (.inl (b2i q.1))) (LAYM, q.2) := by
  skip
  have key : Go l m_X11_refused d LAYM (.inl (some (.inl (b2i q.1)))) q.2 0 [some (.inr 0), some (.inl a1)] [] σ := by
    unfold F_X11_refused at h
    obtain ⟨s1, e2, h⟩ := bnd_inv h
    refine go_ops ok_X11_refused_0_4 (L' := [some (.inr 0), some (.inl a1)]) (st' := [.inl a1]) (σ1 := s1) (by subst e2; rfl) ?_
    refine go_if_eq dc_X11_refused_6 (by rfl) (fun hc => ?_) (fun hc => ?_)
    · replace h := (if_pos hc).symm.trans h
      refine go_ops ok_X11_refused_13_1 (L' := [some (.inr 0), some (.inl a1)]) (st' := [.inl 0]) (σ1 := s1) rfl ?_
      subst h
      exact go_zret (x := false) dc_X11_refused_14 rfl
    · replace h := (if_neg hc).symm.trans h
      refine go_ops ok_X11_refused_9_1 (L' := [some (.inr 0), some (.inl a1)]) (st' := [.inl 1]) (σ1 := s1) rfl ?_
      refine go_goto dc_X11_refused_10 (by rfl) ?_
      subst h
      exact go_zret (x := true) dc_X11_refused_14 rfl
  have hf := go_ct (as := [.inr 0, .inl a1]) mk_X11_refused (by rfl) (Nat.le_of_ble_eq_true rfl) key
  exact hf
theorem dc_X11_in_2 : decode m_X11_in.2.2.1 2 = .ok (.if_icmp .lt 12, 3) := by decide +kernel
theorem dc_X11_in_7 : decode m_X11_in.2.2.1 7 = .ok (.if_icmp .gt 7, 3) := by decide +kernel
theorem dc_X11_in_11 : decode m_X11_in.2.2.1 11 = .ok (.goto 4, 3) := by decide +kernel
theorem dc_X11_in_15 : decode m_X11_in.2.2.1 15 = .ok (.ireturn, 1) := by decide +kernel
theorem ok_X11_in_0_2 : oks m_X11_in.1 m_X11_in.2.2.1 0 [(.iload_n 0, 1, (0, 0, 0)), (.iload_n 1, 1, (0, 0, 0))] = true ∧ plen 0 [(.iload_n 0, 1, (0, 0, 0)), (.iload_n 1, 1, (0, 0, 0))] = 2 := by decide +kernel
theorem ok_X11_in_5_2 : oks m_X11_in.1 m_X11_in.2.2.1 5 [(.iload_n 0, 1, (0, 0, 0)), (.iload_n 2, 1, (0, 0, 0))] = true ∧ plen 5 [(.iload_n 0, 1, (0, 0, 0)), (.iload_n 2, 1, (0, 0, 0))] = 7 := by decide +kernel
theorem ok_X11_in_10_1 : oks m_X11_in.1 m_X11_in.2.2.1 10 [(.iconst 1, 1, (0, 0, 0))] = true ∧ plen 10 [(.iconst 1, 1, (0, 0, 0))] = 11 := by decide +kernel
theorem ok_X11_in_14_1 : oks m_X11_in.1 m_X11_in.2.2.1 14 [(.iconst 0, 1, (0, 0, 0))] = true ∧ plen 14 [(.iconst 0, 1, (0, 0, 0))] = 15 := by decide +kernel
def F_X11_in (a0 : Int) (a1 : Int) (a2 : Int) : Bool :=
if a0 < a1 then
false
else
if a2 < a0 then
false
else
true
theorem lk_X11_in (l : Launch) (d : Nat) (hd : 0 ≤ d) (a0 : Int) (a1 : Int) (a2 : Int) (σ : Sg) (q : Bool) (h : F_X11_in a0 a1 a2 = q) : CT l d m_X11_in.2.1 m_X11_in.2.2.1 m_X11_in.2.2.2.1 m_X11_in.2.2.2.2 [.inl a0, .inl a1, .inl a2] (LAYM, σ) (some (.inl (b2i q))) (LAYM, σ) := by
  skip
  have key : Go l m_X11_in d LAYM (.inl (some (.inl (b2i q)))) σ 0 [some (.inl a0), some (.inl a1), some (.inl a2)] [] σ := by
    unfold F_X11_in at h
    refine go_ops ok_X11_in_0_2 (L' := [some (.inl a0), some (.inl a1), some (.inl a2)]) (st' := [.inl a1, .inl a0]) (σ1 := σ) rfl ?_
    refine go_icmp_lt dc_X11_in_2 (by rfl) (fun hc => ?_) (fun hc => ?_)
    · replace h := (if_pos hc).symm.trans h
      refine go_ops ok_X11_in_14_1 (L' := [some (.inl a0), some (.inl a1), some (.inl a2)]) (st' := [.inl 0]) (σ1 := σ) rfl ?_
      subst h
      exact go_zret (x := false) dc_X11_in_15 rfl
    · replace h := (if_neg hc).symm.trans h
      refine go_ops ok_X11_in_5_2 (L' := [some (.inl a0), some (.inl a1), some (.inl a2)]) (st' := [.inl a2, .inl a0]) (σ1 := σ) rfl ?_
      refine go_icmp_gt dc_X11_in_7 (by rfl) (fun hc => ?_) (fun hc => ?_)
      · replace h := (if_pos hc).symm.trans h
        refine go_ops ok_X11_in_14_1 (L' := [some (.inl a0), some (.inl a1), some (.inl a2)]) (st' := [.inl 0]) (σ1 := σ) rfl ?_
        subst h
        exact go_zret (x := false) dc_X11_in_15 rfl
      · replace h := (if_neg hc).symm.trans h
        refine go_ops ok_X11_in_10_1 (L' := [some (.inl a0), some (.inl a1), some (.inl a2)]) (st' := [.inl 1]) (σ1 := σ) rfl ?_
        refine go_goto dc_X11_in_11 (by rfl) ?_
        subst h
        exact go_zret (x := true) dc_X11_in_15 rfl
  have hf := go_ct (as := [.inl a0, .inl a1, .inl a2]) mk_X11_in (by rfl) (Nat.le_of_ble_eq_true rfl) key
  exact hf
theorem dc_X11_isKind_3 : decode m_X11_isKind.2.2.1 3 = .ok (.invokestatic 171, 3) := by decide +kernel
theorem dc_X11_isKind_6 : decode m_X11_isKind.2.2.1 6 = .ok (.ireturn, 1) := by decide +kernel
theorem ok_X11_isKind_0_3 : oks m_X11_isKind.1 m_X11_isKind.2.2.1 0 [(.iload_n 0, 1, (0, 0, 0)), (.iconst 0, 1, (0, 0, 0)), (.iconst 5, 1, (0, 0, 0))] = true ∧ plen 0 [(.iload_n 0, 1, (0, 0, 0)), (.iconst 0, 1, (0, 0, 0)), (.iconst 5, 1, (0, 0, 0))] = 3 := by decide +kernel
def F_X11_isKind (a0 : Int) : Bool :=
F_X11_in a0 0 5
theorem lk_X11_isKind (l : Launch) (d : Nat) (hd : 1 ≤ d) (a0 : Int) (σ : Sg) (q : Bool) (h : F_X11_isKind a0 = q) : CT l d m_X11_isKind.2.1 m_X11_isKind.2.2.1 m_X11_isKind.2.2.2.1 m_X11_isKind.2.2.2.2 [.inl a0] (LAYM, σ) (some (.inl (b2i q))) (LAYM, σ) := by
  obtain ⟨d, rfl⟩ : ∃ e, d = e + 1 := ⟨d - 1, by omega⟩
  have key : Go l m_X11_isKind (d + 1) LAYM (.inl (some (.inl (b2i q)))) σ 0 [some (.inl a0)] [] σ := by
    unfold F_X11_isKind at h
    refine go_ops ok_X11_isKind_0_3 (L' := [some (.inl a0)]) (st' := [.inl 5, .inl 0, .inl a0]) (σ1 := σ) rfl ?_
    refine go_S (M1 := m_X11_in) (as := [.inl a0, .inl 0, .inl 5]) (st := []) dc_X11_isKind_3 ln_11_171 sm_X11_in mk_X11_in rfl (Nat.le_of_ble_eq_true rfl) (Nat.le_refl _) (v := (some (.inl (b2i (F_X11_in a0 0 5))))) (σ1 := σ) (lk_X11_in l d (by omega) a0 0 5 σ _ rfl) _ rfl ?_
    subst h
    exact go_zret (x := (F_X11_in a0 0 5)) dc_X11_isKind_6 rfl
  have hf := go_ct (as := [.inl a0]) mk_X11_isKind (by rfl) (Nat.le_of_ble_eq_true rfl) key
  exact hf
theorem dc_X11_pick_1 : decode m_X11_pick.2.2.1 1 = .ok (.ifCond .ne 7, 3) := by decide +kernel
theorem dc_X11_pick_5 : decode m_X11_pick.2.2.1 5 = .ok (.goto 13, 3) := by decide +kernel
theorem dc_X11_pick_10 : decode m_X11_pick.2.2.1 10 = .ok (.if_icmp .ne 7, 3) := by decide +kernel
theorem dc_X11_pick_14 : decode m_X11_pick.2.2.1 14 = .ok (.goto 4, 3) := by decide +kernel
theorem dc_X11_pick_18 : decode m_X11_pick.2.2.1 18 = .ok (.ireturn, 1) := by decide +kernel
theorem ok_X11_pick_0_1 : oks m_X11_pick.1 m_X11_pick.2.2.1 0 [(.iload_n 3, 1, (0, 0, 0))] = true ∧ plen 0 [(.iload_n 3, 1, (0, 0, 0))] = 1 := by decide +kernel
theorem ok_X11_pick_4_1 : oks m_X11_pick.1 m_X11_pick.2.2.1 4 [(.iload_n 0, 1, (0, 0, 0))] = true ∧ plen 4 [(.iload_n 0, 1, (0, 0, 0))] = 5 := by decide +kernel
theorem ok_X11_pick_8_2 : oks m_X11_pick.1 m_X11_pick.2.2.1 8 [(.iload_n 3, 1, (0, 0, 0)), (.iconst 1, 1, (0, 0, 0))] = true ∧ plen 8 [(.iload_n 3, 1, (0, 0, 0)), (.iconst 1, 1, (0, 0, 0))] = 10 := by decide +kernel
theorem ok_X11_pick_13_1 : oks m_X11_pick.1 m_X11_pick.2.2.1 13 [(.iload_n 1, 1, (0, 0, 0))] = true ∧ plen 13 [(.iload_n 1, 1, (0, 0, 0))] = 14 := by decide +kernel
theorem ok_X11_pick_17_1 : oks m_X11_pick.1 m_X11_pick.2.2.1 17 [(.iload_n 2, 1, (0, 0, 0))] = true ∧ plen 17 [(.iload_n 2, 1, (0, 0, 0))] = 18 := by decide +kernel
def F_X11_pick (a0 : Int) (a1 : Int) (a2 : Int) (a3 : Int) : Int :=
if a3 = 0 then
a0
else
if a3 = 1 then
a1
else
a2
theorem lk_X11_pick (l : Launch) (d : Nat) (hd : 0 ≤ d) (a0 : Int) (a1 : Int) (a2 : Int) (a3 : Int) (σ : Sg) (q : Int) (h : F_X11_pick a0 a1 a2 a3 = q) : CT l d m_X11_pick.2.1 m_X11_pick.2.2.1 m_X11_pick.2.2.2.1 m_X11_pick.2.2.2.2 [.inl a0, .inl a1, .inl a2, .inl a3] (LAYM, σ) (some (.inl q)) (LAYM, σ) := by
  skip
  have key : Go l m_X11_pick d LAYM (.inl (some (.inl q))) σ 0 [some (.inl a0), some (.inl a1), some (.inl a2), some (.inl a3)] [] σ := by
    unfold F_X11_pick at h
    refine go_ops ok_X11_pick_0_1 (L' := [some (.inl a0), some (.inl a1), some (.inl a2), some (.inl a3)]) (st' := [.inl a3]) (σ1 := σ) rfl ?_
    refine go_if_ne dc_X11_pick_1 (by rfl) (fun hc => ?_) (fun hc => ?_)
    · replace h := (if_neg hc).symm.trans h
      refine go_ops ok_X11_pick_8_2 (L' := [some (.inl a0), some (.inl a1), some (.inl a2), some (.inl a3)]) (st' := [.inl 1, .inl a3]) (σ1 := σ) rfl ?_
      refine go_icmp_ne dc_X11_pick_10 (by rfl) (fun hc => ?_) (fun hc => ?_)
      · replace h := (if_neg hc).symm.trans h
        refine go_ops ok_X11_pick_17_1 (L' := [some (.inl a0), some (.inl a1), some (.inl a2), some (.inl a3)]) (st' := [.inl a2]) (σ1 := σ) rfl ?_
        subst h
        exact go_iret dc_X11_pick_18 rfl
      · replace h := (if_pos hc).symm.trans h
        refine go_ops ok_X11_pick_13_1 (L' := [some (.inl a0), some (.inl a1), some (.inl a2), some (.inl a3)]) (st' := [.inl a1]) (σ1 := σ) rfl ?_
        refine go_goto dc_X11_pick_14 (by rfl) ?_
        subst h
        exact go_iret dc_X11_pick_18 rfl
    · replace h := (if_pos hc).symm.trans h
      refine go_ops ok_X11_pick_4_1 (L' := [some (.inl a0), some (.inl a1), some (.inl a2), some (.inl a3)]) (st' := [.inl a0]) (σ1 := σ) rfl ?_
      refine go_goto dc_X11_pick_5 (by rfl) ?_
      subst h
      exact go_iret dc_X11_pick_18 rfl
  have hf := go_ct (as := [.inl a0, .inl a1, .inl a2, .inl a3]) mk_X11_pick (by rfl) (Nat.le_of_ble_eq_true rfl) key
  exact hf
theorem dc_X11_constructor_3 : decode m_X11_constructor.2.2.1 3 = .ok (.invokestatic 171, 3) := by decide +kernel
theorem dc_X11_constructor_14 : decode m_X11_constructor.2.2.1 14 = .ok (.if_icmp .ge 55, 3) := by decide +kernel
theorem dc_X11_constructor_24 : decode m_X11_constructor.2.2.1 24 = .ok (.invokestatic 175, 3) := by decide +kernel
theorem dc_X11_constructor_31 : decode m_X11_constructor.2.2.1 31 = .ok (.ifCond .eq 29, 3) := by decide +kernel
theorem dc_X11_constructor_37 : decode m_X11_constructor.2.2.1 37 = .ok (.if_icmp .ge 14, 3) := by decide +kernel
theorem dc_X11_constructor_42 : decode m_X11_constructor.2.2.1 42 = .ok (.invokestatic 179, 3) := by decide +kernel
theorem dc_X11_constructor_45 : decode m_X11_constructor.2.2.1 45 = .ok (.ifCond .eq 15, 3) := by decide +kernel
theorem dc_X11_constructor_48 : decode m_X11_constructor.2.2.1 48 = .ok (.goto 8, 3) := by decide +kernel
theorem dc_X11_constructor_53 : decode m_X11_constructor.2.2.1 53 = .ok (.ifCond .ne 7, 3) := by decide +kernel
theorem dc_X11_constructor_57 : decode m_X11_constructor.2.2.1 57 = .ok (.goto 4, 3) := by decide +kernel
theorem dc_X11_constructor_66 : decode m_X11_constructor.2.2.1 66 = .ok (.goto (-55), 3) := by decide +kernel
theorem dc_X11_constructor_73 : decode m_X11_constructor.2.2.1 73 = .ok (.invokestatic 171, 3) := by decide +kernel
theorem dc_X11_constructor_76 : decode m_X11_constructor.2.2.1 76 = .ok (.ifCond .ne 7, 3) := by decide +kernel
theorem dc_X11_constructor_80 : decode m_X11_constructor.2.2.1 80 = .ok (.goto 27, 3) := by decide +kernel
theorem dc_X11_constructor_85 : decode m_X11_constructor.2.2.1 85 = .ok (.ifCond .ne 7, 3) := by decide +kernel
theorem dc_X11_constructor_89 : decode m_X11_constructor.2.2.1 89 = .ok (.goto 18, 3) := by decide +kernel
theorem dc_X11_constructor_97 : decode m_X11_constructor.2.2.1 97 = .ok (.iaload, 1) := by decide +kernel
theorem dc_X11_constructor_99 : decode m_X11_constructor.2.2.1 99 = .ok (.if_icmp .ne 7, 3) := by decide +kernel
theorem dc_X11_constructor_103 : decode m_X11_constructor.2.2.1 103 = .ok (.goto 4, 3) := by decide +kernel
theorem dc_X11_constructor_107 : decode m_X11_constructor.2.2.1 107 = .ok (.invokevirtual 183, 3) := by decide +kernel
theorem dc_X11_constructor_110 : decode m_X11_constructor.2.2.1 110 = .ok (.ifCond .eq 5, 3) := by decide +kernel
theorem dc_X11_constructor_114 : decode m_X11_constructor.2.2.1 114 = .ok (.ireturn, 1) := by decide +kernel
theorem dc_X11_constructor_123 : decode m_X11_constructor.2.2.1 123 = .ok (.iaload, 1) := by decide +kernel
theorem dc_X11_constructor_134 : decode m_X11_constructor.2.2.1 134 = .ok (.iastore, 1) := by decide +kernel
theorem dc_X11_constructor_141 : decode m_X11_constructor.2.2.1 141 = .ok (.if_icmp .ge 31, 3) := by decide +kernel
theorem dc_X11_constructor_162 : decode m_X11_constructor.2.2.1 162 = .ok (.invokestatic 175, 3) := by decide +kernel
theorem dc_X11_constructor_165 : decode m_X11_constructor.2.2.1 165 = .ok (.iastore, 1) := by decide +kernel
theorem dc_X11_constructor_169 : decode m_X11_constructor.2.2.1 169 = .ok (.goto (-31), 3) := by decide +kernel
theorem dc_X11_constructor_178 : decode m_X11_constructor.2.2.1 178 = .ok (.iaload, 1) := by decide +kernel
theorem dc_X11_constructor_181 : decode m_X11_constructor.2.2.1 181 = .ok (.iastore, 1) := by decide +kernel
theorem dc_X11_constructor_192 : decode m_X11_constructor.2.2.1 192 = .ok (.iaload, 1) := by decide +kernel
theorem dc_X11_constructor_195 : decode m_X11_constructor.2.2.1 195 = .ok (.ireturn, 1) := by decide +kernel
theorem ok_X11_constructor_0_3 : oks m_X11_constructor.1 m_X11_constructor.2.2.1 0 [(.iload_n 2, 1, (0, 0, 0)), (.iconst 0, 1, (0, 0, 0)), (.iconst 3, 1, (0, 0, 0))] = true ∧ plen 0 [(.iload_n 2, 1, (0, 0, 0)), (.iconst 0, 1, (0, 0, 0)), (.iconst 3, 1, (0, 0, 0))] = 3 := by decide +kernel
theorem ok_X11_constructor_6_3 : oks m_X11_constructor.1 m_X11_constructor.2.2.1 6 [(.istore 6, 2, (0, 0, 0)), (.iconst 0, 1, (0, 0, 0)), (.istore 7, 2, (0, 0, 0))] = true ∧ plen 6 [(.istore 6, 2, (0, 0, 0)), (.iconst 0, 1, (0, 0, 0)), (.istore 7, 2, (0, 0, 0))] = 11 := by decide +kernel
theorem ok_X11_constructor_11_2 : oks m_X11_constructor.1 m_X11_constructor.2.2.1 11 [(.iload 7, 2, (0, 0, 0)), (.iconst 3, 1, (0, 0, 0))] = true ∧ plen 11 [(.iload 7, 2, (0, 0, 0)), (.iconst 3, 1, (0, 0, 0))] = 14 := by decide +kernel
theorem ok_X11_constructor_17_4 : oks m_X11_constructor.1 m_X11_constructor.2.2.1 17 [(.iload_n 3, 1, (0, 0, 0)), (.iload 4, 2, (0, 0, 0)), (.iload 5, 2, (0, 0, 0)), (.iload 7, 2, (0, 0, 0))] = true ∧ plen 17 [(.iload_n 3, 1, (0, 0, 0)), (.iload 4, 2, (0, 0, 0)), (.iload 5, 2, (0, 0, 0)), (.iload 7, 2, (0, 0, 0))] = 24 := by decide +kernel
theorem ok_X11_constructor_27_2 : oks m_X11_constructor.1 m_X11_constructor.2.2.1 27 [(.istore 8, 2, (0, 0, 0)), (.iload 6, 2, (0, 0, 0))] = true ∧ plen 27 [(.istore 8, 2, (0, 0, 0)), (.iload 6, 2, (0, 0, 0))] = 31 := by decide +kernel
theorem ok_X11_constructor_34_2 : oks m_X11_constructor.1 m_X11_constructor.2.2.1 34 [(.iload 7, 2, (0, 0, 0)), (.iload_n 2, 1, (0, 0, 0))] = true ∧ plen 34 [(.iload 7, 2, (0, 0, 0)), (.iload_n 2, 1, (0, 0, 0))] = 37 := by decide +kernel
theorem ok_X11_constructor_40_1 : oks m_X11_constructor.1 m_X11_constructor.2.2.1 40 [(.iload 8, 2, (0, 0, 0))] = true ∧ plen 40 [(.iload 8, 2, (0, 0, 0))] = 42 := by decide +kernel
theorem ok_X11_constructor_51_1 : oks m_X11_constructor.1 m_X11_constructor.2.2.1 51 [(.iload 8, 2, (0, 0, 0))] = true ∧ plen 51 [(.iload 8, 2, (0, 0, 0))] = 53 := by decide +kernel
theorem ok_X11_constructor_56_1 : oks m_X11_constructor.1 m_X11_constructor.2.2.1 56 [(.iconst 1, 1, (0, 0, 0))] = true ∧ plen 56 [(.iconst 1, 1, (0, 0, 0))] = 57 := by decide +kernel
theorem ok_X11_constructor_60_1 : oks m_X11_constructor.1 m_X11_constructor.2.2.1 60 [(.iconst 0, 1, (0, 0, 0))] = true ∧ plen 60 [(.iconst 0, 1, (0, 0, 0))] = 61 := by decide +kernel
theorem ok_X11_constructor_61_2 : oks m_X11_constructor.1 m_X11_constructor.2.2.1 61 [(.istore 6, 2, (0, 0, 0)), (.iinc 7 1, 3, (0, 0, 0))] = true ∧ plen 61 [(.istore 6, 2, (0, 0, 0)), (.iinc 7 1, 3, (0, 0, 0))] = 66 := by decide +kernel
theorem ok_X11_constructor_69_4 : oks m_X11_constructor.1 m_X11_constructor.2.2.1 69 [(.aload_n 0, 1, (0, 0, 0)), (.iload_n 1, 1, (0, 0, 0)), (.iconst 0, 1, (0, 0, 0)), (.iconst 3, 1, (0, 0, 0))] = true ∧ plen 69 [(.aload_n 0, 1, (0, 0, 0)), (.iload_n 1, 1, (0, 0, 0)), (.iconst 0, 1, (0, 0, 0)), (.iconst 3, 1, (0, 0, 0))] = 73 := by decide +kernel
theorem ok_X11_constructor_79_1 : oks m_X11_constructor.1 m_X11_constructor.2.2.1 79 [(.iconst 1, 1, (0, 0, 0))] = true ∧ plen 79 [(.iconst 1, 1, (0, 0, 0))] = 80 := by decide +kernel
theorem ok_X11_constructor_83_1 : oks m_X11_constructor.1 m_X11_constructor.2.2.1 83 [(.iload 6, 2, (0, 0, 0))] = true ∧ plen 83 [(.iload 6, 2, (0, 0, 0))] = 85 := by decide +kernel
theorem ok_X11_constructor_88_1 : oks m_X11_constructor.1 m_X11_constructor.2.2.1 88 [(.iconst 2, 1, (0, 0, 0))] = true ∧ plen 88 [(.iconst 2, 1, (0, 0, 0))] = 89 := by decide +kernel
theorem ok_X11_constructor_92_3 : oks m_X11_constructor.1 m_X11_constructor.2.2.1 92 [(.aload_n 0, 1, (0, 0, 0)), (.getfield 7, 3, (11, 1, 0)), (.iload_n 1, 1, (0, 0, 0))] = true ∧ plen 92 [(.aload_n 0, 1, (0, 0, 0)), (.getfield 7, 3, (11, 1, 0)), (.iload_n 1, 1, (0, 0, 0))] = 97 := by decide +kernel
theorem ok_X11_constructor_98_1 : oks m_X11_constructor.1 m_X11_constructor.2.2.1 98 [(.iconst 4, 1, (0, 0, 0))] = true ∧ plen 98 [(.iconst 4, 1, (0, 0, 0))] = 99 := by decide +kernel
theorem ok_X11_constructor_102_1 : oks m_X11_constructor.1 m_X11_constructor.2.2.1 102 [(.iconst 3, 1, (0, 0, 0))] = true ∧ plen 102 [(.iconst 3, 1, (0, 0, 0))] = 103 := by decide +kernel
theorem ok_X11_constructor_106_1 : oks m_X11_constructor.1 m_X11_constructor.2.2.1 106 [(.iconst 0, 1, (0, 0, 0))] = true ∧ plen 106 [(.iconst 0, 1, (0, 0, 0))] = 107 := by decide +kernel
theorem ok_X11_constructor_113_1 : oks m_X11_constructor.1 m_X11_constructor.2.2.1 113 [(.iconst 0, 1, (0, 0, 0))] = true ∧ plen 113 [(.iconst 0, 1, (0, 0, 0))] = 114 := by decide +kernel
theorem ok_X11_constructor_115_6 : oks m_X11_constructor.1 m_X11_constructor.2.2.1 115 [(.iconst 4, 1, (0, 0, 0)), (.iload_n 1, 1, (0, 0, 0)), (.imul, 1, (0, 0, 0)), (.aload_n 0, 1, (0, 0, 0)), (.getfield 7, 3, (11, 1, 0)), (.iload_n 1, 1, (0, 0, 0))] = true ∧ plen 115 [(.iconst 4, 1, (0, 0, 0)), (.iload_n 1, 1, (0, 0, 0)), (.imul, 1, (0, 0, 0)), (.aload_n 0, 1, (0, 0, 0)), (.getfield 7, 3, (11, 1, 0)), (.iload_n 1, 1, (0, 0, 0))] = 123 := by decide +kernel
theorem ok_X11_constructor_124_6 : oks m_X11_constructor.1 m_X11_constructor.2.2.1 124 [(.iadd, 1, (0, 0, 0)), (.istore 7, 2, (0, 0, 0)), (.aload_n 0, 1, (0, 0, 0)), (.getfield 13, 3, (11, 2, 0)), (.iload 7, 2, (0, 0, 0)), (.iload_n 2, 1, (0, 0, 0))] = true ∧ plen 124 [(.iadd, 1, (0, 0, 0)), (.istore 7, 2, (0, 0, 0)), (.aload_n 0, 1, (0, 0, 0)), (.getfield 13, 3, (11, 2, 0)), (.iload 7, 2, (0, 0, 0)), (.iload_n 2, 1, (0, 0, 0))] = 134 := by decide +kernel
theorem ok_X11_constructor_135_2 : oks m_X11_constructor.1 m_X11_constructor.2.2.1 135 [(.iconst 0, 1, (0, 0, 0)), (.istore 8, 2, (0, 0, 0))] = true ∧ plen 135 [(.iconst 0, 1, (0, 0, 0)), (.istore 8, 2, (0, 0, 0))] = 138 := by decide +kernel
theorem ok_X11_constructor_138_2 : oks m_X11_constructor.1 m_X11_constructor.2.2.1 138 [(.iload 8, 2, (0, 0, 0)), (.iconst 3, 1, (0, 0, 0))] = true ∧ plen 138 [(.iload 8, 2, (0, 0, 0)), (.iconst 3, 1, (0, 0, 0))] = 141 := by decide +kernel
theorem ok_X11_constructor_144_11 : oks m_X11_constructor.1 m_X11_constructor.2.2.1 144 [(.aload_n 0, 1, (0, 0, 0)), (.getfield 16, 3, (11, 3, 0)), (.iconst 3, 1, (0, 0, 0)), (.iload 7, 2, (0, 0, 0)), (.imul, 1, (0, 0, 0)), (.iload 8, 2, (0, 0, 0)), (.iadd, 1, (0, 0, 0)), (.iload_n 3, 1, (0, 0, 0)), (.iload 4, 2, (0, 0, 0)), (.iload 5, 2, (0, 0, 0)), (.iload 8, 2, (0, 0, 0))] = true ∧ plen 144 [(.aload_n 0, 1, (0, 0, 0)), (.getfield 16, 3, (11, 3, 0)), (.iconst 3, 1, (0, 0, 0)), (.iload 7, 2, (0, 0, 0)), (.imul, 1, (0, 0, 0)), (.iload 8, 2, (0, 0, 0)), (.iadd, 1, (0, 0, 0)), (.iload_n 3, 1, (0, 0, 0)), (.iload 4, 2, (0, 0, 0)), (.iload 5, 2, (0, 0, 0)), (.iload 8, 2, (0, 0, 0))] = 162 := by decide +kernel
theorem ok_X11_constructor_166_1 : oks m_X11_constructor.1 m_X11_constructor.2.2.1 166 [(.iinc 8 1, 3, (0, 0, 0))] = true ∧ plen 166 [(.iinc 8 1, 3, (0, 0, 0))] = 169 := by decide +kernel
theorem ok_X11_constructor_172_4 : oks m_X11_constructor.1 m_X11_constructor.2.2.1 172 [(.aload_n 0, 1, (0, 0, 0)), (.getfield 7, 3, (11, 1, 0)), (.iload_n 1, 1, (0, 0, 0)), (.dup2, 1, (0, 0, 0))] = true ∧ plen 172 [(.aload_n 0, 1, (0, 0, 0)), (.getfield 7, 3, (11, 1, 0)), (.iload_n 1, 1, (0, 0, 0)), (.dup2, 1, (0, 0, 0))] = 178 := by decide +kernel
theorem ok_X11_constructor_179_2 : oks m_X11_constructor.1 m_X11_constructor.2.2.1 179 [(.iconst 1, 1, (0, 0, 0)), (.iadd, 1, (0, 0, 0))] = true ∧ plen 179 [(.iconst 1, 1, (0, 0, 0)), (.iadd, 1, (0, 0, 0))] = 181 := by decide +kernel
theorem ok_X11_constructor_182_6 : oks m_X11_constructor.1 m_X11_constructor.2.2.1 182 [(.aload_n 0, 1, (0, 0, 0)), (.iconst (-1), 1, (0, 0, 0)), (.putfield 161, 3, (11, 54, 0)), (.aload_n 0, 1, (0, 0, 0)), (.getfield 7, 3, (11, 1, 0)), (.iload_n 1, 1, (0, 0, 0))] = true ∧ plen 182 [(.aload_n 0, 1, (0, 0, 0)), (.iconst (-1), 1, (0, 0, 0)), (.putfield 161, 3, (11, 54, 0)), (.aload_n 0, 1, (0, 0, 0)), (.getfield 7, 3, (11, 1, 0)), (.iload_n 1, 1, (0, 0, 0))] = 192 := by decide +kernel
theorem ok_X11_constructor_193_2 : oks m_X11_constructor.1 m_X11_constructor.2.2.1 193 [(.iconst 1, 1, (0, 0, 0)), (.isub, 1, (0, 0, 0))] = true ∧ plen 193 [(.iconst 1, 1, (0, 0, 0)), (.isub, 1, (0, 0, 0))] = 195 := by decide +kernel
def B_X11_constructor_61 (x7 : Int) (y0 : Bool) (σ : Sg) : Option ((Bool × Int) ⊕ Bool) :=
some (.inl (y0, wrap (x7 + 1)))
def B_X11_constructor_60 (x7 : Int) (σ : Sg) : Option ((Bool × Int) ⊕ Bool) :=
B_X11_constructor_61 x7 false σ
def B_X11_constructor_56 (x7 : Int) (σ : Sg) : Option ((Bool × Int) ⊕ Bool) :=
B_X11_constructor_61 x7 true σ
def L_X11_constructor_11 (x2 : Int) (x3 : Int) (x4 : Int) (x5 : Int) (σ : Sg) (x6 : Bool) (x7 : Int) : Option ((Bool × Int) ⊕ Bool) :=
if 3 ≤ x7 then
some (.inr x6)
else
bnd (F_X11_pick x3 x4 x5 x7) fun v3 =>
if x6 = true then
if x2 ≤ x7 then
if v3 = 0 then
B_X11_constructor_56 x7 σ
else
B_X11_constructor_60 x7 σ
else
if (F_X11_isKind v3) = true then
B_X11_constructor_56 x7 σ
else
B_X11_constructor_60 x7 σ
else
B_X11_constructor_60 x7 σ
def L_X11_constructor_138 (x3 : Int) (x4 : Int) (x5 : Int) (x7 : Int) (x8 : Int) (σ : Sg) : Option ((Int × Sg) ⊕ Sg) :=
if 3 ≤ x8 then
some (.inr σ)
else
(wrn 48 σ 3 (wrap ((wrap (3 * x7)) + x8)) (F_X11_pick x3 x4 x5 x8)).bind fun s17 =>
some (.inl (wrap (x8 + 1), s17))
def B_X11_constructor_107 (x1 : Int) (x2 : Int) (x3 : Int) (x4 : Int) (x5 : Int) (y0 : Int) (σ : Sg) : Option (Int × Sg) :=
bnd (F_X11_refused y0 σ) fun q9 =>
if q9.1 = true then
some (0, q9.2)
else
(rdn 4 q9.2 1 x1).bind fun v11 =>
bnd (wrap ((wrap (4 * x1)) + v11)) fun v13 =>
(wrn 16 q9.2 2 v13 x2).bind fun s15 =>
(iter (fun a : (Int × Sg) => L_X11_constructor_138 x3 x4 x5 v13 a.1 a.2) 4 (0, s15)).bind fun y19 =>
(rdn 4 y19 1 x1).bind fun v21 =>
(wrn 4 y19 1 x1 (wrap (v21 + 1))).bind fun s23 =>
bnd (up2 s23 0 54 (-1)) fun s25 =>
(rdn 4 s25 1 x1).bind fun v27 =>
some (wrap (v27 - 1), s25)
def F_X11_constructor (a1 : Int) (a2 : Int) (a3 : Int) (a4 : Int) (a5 : Int) (σ : Sg) : Option (Int × Sg) :=
bnd (F_X11_in a2 0 3) fun v1 =>
(iter (fun a : (Bool × Int) => L_X11_constructor_11 a2 a3 a4 a5 σ a.1 a.2) 4 (v1, 0)).bind fun y5 =>
if (F_X11_in a1 0 3) = true then
if y5 = true then
(rdn 4 σ 1 a1).bind fun v7 =>
if v7 = 4 then
B_X11_constructor_107 a1 a2 a3 a4 a5 3 σ
else
B_X11_constructor_107 a1 a2 a3 a4 a5 0 σ
else
B_X11_constructor_107 a1 a2 a3 a4 a5 2 σ
else
B_X11_constructor_107 a1 a2 a3 a4 a5 1 σ
theorem lk_X11_constructor (l : Launch) (d : Nat) (hd : 2 ≤ d) (a1 : Int) (a2 : Int) (a3 : Int) (a4 : Int) (a5 : Int) (σ : Sg) (q : (Int × Sg)) (h : F_X11_constructor a1 a2 a3 a4 a5 σ = some q) : CT l d m_X11_constructor.2.1 m_X11_constructor.2.2.1 m_X11_constructor.2.2.2.1 m_X11_constructor.2.2.2.2 [.inr 0, .inl a1, .inl a2, .inl a3, .inl a4, .inl a5] (LAYM, σ) (some (.inl q.1)) (LAYM, q.2) := by
  obtain ⟨d, rfl⟩ : ∃ e, d = e + 1 := ⟨d - 1, by omega⟩
  have key : Go l m_X11_constructor (d + 1) LAYM (.inl (some (.inl q.1))) q.2 0 [some (.inr 0), some (.inl a1), some (.inl a2), some (.inl a3), some (.inl a4), some (.inl a5), none, none, none] [] σ := by
    unfold F_X11_constructor at h
    have hL_X11_constructor_11 : ∀ (x1 : Int) (x2 : Int) (x3 : Int) (x4 : Int) (x5 : Int) (σ : Sg) (n : Nat) (a : (Bool × Int)) (y : Bool), iter (fun a : (Bool × Int) => L_X11_constructor_11 x2 x3 x4 x5 σ a.1 a.2) n a = some y → (fun y : Bool => Go l m_X11_constructor (d + 1) LAYM (.inl (some (.inl q.1))) q.2 69 [some (.inr 0), some (.inl x1), some (.inl x2), some (.inl x3), some (.inl x4), some (.inl x5), some (.inl (b2i y)), none, none] [] σ) y → (fun a : (Bool × Int) => Go l m_X11_constructor (d + 1) LAYM (.inl (some (.inl q.1))) q.2 11 [some (.inr 0), some (.inl x1), some (.inl x2), some (.inl x3), some (.inl x4), some (.inl x5), some (.inl (b2i a.1)), some (.inl a.2), none] [] σ) a := by
      intro x1 x2 x3 x4 x5 σ
      refine go_iter (G := fun a : (Bool × Int) => Go l m_X11_constructor (d + 1) LAYM (.inl (some (.inl q.1))) q.2 11 [some (.inr 0), some (.inl x1), some (.inl x2), some (.inl x3), some (.inl x4), some (.inl x5), some (.inl (b2i a.1)), some (.inl a.2), none] [] σ) (K := fun y : Bool => Go l m_X11_constructor (d + 1) LAYM (.inl (some (.inl q.1))) q.2 69 [some (.inr 0), some (.inl x1), some (.inl x2), some (.inl x3), some (.inl x4), some (.inl x5), some (.inl (b2i y)), none, none] [] σ) ?_
      rintro ⟨x6, x7⟩ w h hK
      replace h : L_X11_constructor_11 x2 x3 x4 x5 σ x6 x7 = some w := h
      show Go l m_X11_constructor (d + 1) LAYM (.inl (some (.inl q.1))) q.2 11 [some (.inr 0), some (.inl x1), some (.inl x2), some (.inl x3), some (.inl x4), some (.inl x5), some (.inl (b2i x6)), some (.inl x7), none] [] σ
      unfold L_X11_constructor_11 at h
      have hB_X11_constructor_61 : ∀ (x7 : Int) (y0 : Bool), B_X11_constructor_61 x7 y0 σ = some w → Go l m_X11_constructor (d + 1) LAYM (.inl (some (.inl q.1))) q.2 61 [some (.inr 0), some (.inl x1), some (.inl x2), some (.inl x3), some (.inl x4), some (.inl x5), none, some (.inl x7), none] [.inl (b2i y0)] σ := by
        intro x7 y0 h
        unfold B_X11_constructor_61 at h
        refine go_ops ok_X11_constructor_61_2 (L' := [some (.inr 0), some (.inl x1), some (.inl x2), some (.inl x3), some (.inl x4), some (.inl x5), some (.inl (b2i y0)), some (.inl (wrap (x7 + 1))), none]) (st' := []) (σ1 := σ) rfl ?_
        refine go_goto dc_X11_constructor_66 (by rfl) ?_
        cases h
        exact hK
      have hB_X11_constructor_60 : ∀ (x7 : Int), B_X11_constructor_60 x7 σ = some w → Go l m_X11_constructor (d + 1) LAYM (.inl (some (.inl q.1))) q.2 60 [some (.inr 0), some (.inl x1), some (.inl x2), some (.inl x3), some (.inl x4), some (.inl x5), none, some (.inl x7), none] [] σ := by
        intro x7 h
        unfold B_X11_constructor_60 at h
        refine go_ops ok_X11_constructor_60_1 (L' := [some (.inr 0), some (.inl x1), some (.inl x2), some (.inl x3), some (.inl x4), some (.inl x5), none, some (.inl x7), none]) (st' := [.inl 0]) (σ1 := σ) rfl ?_
        exact hB_X11_constructor_61 x7 false h
      have hB_X11_constructor_56 : ∀ (x7 : Int), B_X11_constructor_56 x7 σ = some w → Go l m_X11_constructor (d + 1) LAYM (.inl (some (.inl q.1))) q.2 56 [some (.inr 0), some (.inl x1), some (.inl x2), some (.inl x3), some (.inl x4), some (.inl x5), none, some (.inl x7), none] [] σ := by
        intro x7 h
        unfold B_X11_constructor_56 at h
        refine go_ops ok_X11_constructor_56_1 (L' := [some (.inr 0), some (.inl x1), some (.inl x2), some (.inl x3), some (.inl x4), some (.inl x5), none, some (.inl x7), none]) (st' := [.inl 1]) (σ1 := σ) rfl ?_
        refine go_goto dc_X11_constructor_57 (by rfl) ?_
        exact hB_X11_constructor_61 x7 true h
      refine go_ops ok_X11_constructor_11_2 (L' := [some (.inr 0), some (.inl x1), some (.inl x2), some (.inl x3), some (.inl x4), some (.inl x5), some (.inl (b2i x6)), some (.inl x7), none]) (st' := [.inl 3, .inl x7]) (σ1 := σ) rfl ?_
      refine go_icmp_ge dc_X11_constructor_14 (by rfl) (fun hc => ?_) (fun hc => ?_)
      · replace h := (if_pos hc).symm.trans h
        cases h
        refine go_wk (L' := [some (.inr 0), some (.inl x1), some (.inl x2), some (.inl x3), some (.inl x4), some (.inl x5), some (.inl (b2i x6)), none, none]) ⟨rfl, rfl, rfl, rfl, rfl, rfl, rfl, trivial⟩ ?_
        exact hK
      · replace h := (if_neg hc).symm.trans h
        refine go_ops ok_X11_constructor_17_4 (L' := [some (.inr 0), some (.inl x1), some (.inl x2), some (.inl x3), some (.inl x4), some (.inl x5), some (.inl (b2i x6)), some (.inl x7), none]) (st' := [.inl x7, .inl x5, .inl x4, .inl x3]) (σ1 := σ) rfl ?_
        refine go_S (M1 := m_X11_pick) (as := [.inl x3, .inl x4, .inl x5, .inl x7]) (st := []) dc_X11_constructor_24 ln_11_175 sm_X11_pick mk_X11_pick rfl (Nat.le_of_ble_eq_true rfl) (Nat.le_refl _) (v := (some (.inl (F_X11_pick x3 x4 x5 x7)))) (σ1 := σ) (lk_X11_pick l d (by omega) x3 x4 x5 x7 σ _ rfl) _ rfl ?_
        obtain ⟨v3, e4, h⟩ := bnd_inv h
        refine go_ops ok_X11_constructor_27_2 (L' := [some (.inr 0), some (.inl x1), some (.inl x2), some (.inl x3), some (.inl x4), some (.inl x5), some (.inl (b2i x6)), some (.inl x7), some (.inl v3)]) (st' := [.inl (b2i x6)]) (σ1 := σ) (by subst e4; rfl) ?_
        refine go_ifb_eq dc_X11_constructor_31 (by rfl) (fun hc => ?_) (fun hc => ?_)
        · replace h := (if_neg hc).symm.trans h
          refine go_wk (L' := [some (.inr 0), some (.inl x1), some (.inl x2), some (.inl x3), some (.inl x4), some (.inl x5), none, some (.inl x7), none]) ⟨rfl, rfl, rfl, rfl, rfl, rfl, rfl, trivial⟩ ?_
          exact hB_X11_constructor_60 x7 h
        · replace h := (if_pos hc).symm.trans h
          refine go_ops ok_X11_constructor_34_2 (L' := [some (.inr 0), some (.inl x1), some (.inl x2), some (.inl x3), some (.inl x4), some (.inl x5), some (.inl (b2i x6)), some (.inl x7), some (.inl v3)]) (st' := [.inl x2, .inl x7]) (σ1 := σ) rfl ?_
          refine go_icmp_ge dc_X11_constructor_37 (by rfl) (fun hc => ?_) (fun hc => ?_)
          · replace h := (if_pos hc).symm.trans h
            refine go_ops ok_X11_constructor_51_1 (L' := [some (.inr 0), some (.inl x1), some (.inl x2), some (.inl x3), some (.inl x4), some (.inl x5), some (.inl (b2i x6)), some (.inl x7), some (.inl v3)]) (st' := [.inl v3]) (σ1 := σ) rfl ?_
            refine go_if_ne dc_X11_constructor_53 (by rfl) (fun hc => ?_) (fun hc => ?_)
            · replace h := (if_neg hc).symm.trans h
              refine go_wk (L' := [some (.inr 0), some (.inl x1), some (.inl x2), some (.inl x3), some (.inl x4), some (.inl x5), none, some (.inl x7), none]) ⟨rfl, rfl, rfl, rfl, rfl, rfl, rfl, trivial⟩ ?_
              exact hB_X11_constructor_60 x7 h
            · replace h := (if_pos hc).symm.trans h
              refine go_wk (L' := [some (.inr 0), some (.inl x1), some (.inl x2), some (.inl x3), some (.inl x4), some (.inl x5), none, some (.inl x7), none]) ⟨rfl, rfl, rfl, rfl, rfl, rfl, rfl, trivial⟩ ?_
              exact hB_X11_constructor_56 x7 h
          · replace h := (if_neg hc).symm.trans h
            refine go_ops ok_X11_constructor_40_1 (L' := [some (.inr 0), some (.inl x1), some (.inl x2), some (.inl x3), some (.inl x4), some (.inl x5), some (.inl (b2i x6)), some (.inl x7), some (.inl v3)]) (st' := [.inl v3]) (σ1 := σ) rfl ?_
            refine go_S (M1 := m_X11_isKind) (as := [.inl v3]) (st := []) dc_X11_constructor_42 ln_11_179 sm_X11_isKind mk_X11_isKind rfl (Nat.le_of_ble_eq_true rfl) (Nat.le_refl _) (v := (some (.inl (b2i (F_X11_isKind v3))))) (σ1 := σ) (lk_X11_isKind l d (by omega) v3 σ _ rfl) _ rfl ?_
            refine go_ifb_eq dc_X11_constructor_45 (by rfl) (fun hc => ?_) (fun hc => ?_)
            · replace h := (if_neg hc).symm.trans h
              refine go_wk (L' := [some (.inr 0), some (.inl x1), some (.inl x2), some (.inl x3), some (.inl x4), some (.inl x5), none, some (.inl x7), none]) ⟨rfl, rfl, rfl, rfl, rfl, rfl, rfl, trivial⟩ ?_
              exact hB_X11_constructor_60 x7 h
            · replace h := (if_pos hc).symm.trans h
              refine go_goto dc_X11_constructor_48 (by rfl) ?_
              refine go_wk (L' := [some (.inr 0), some (.inl x1), some (.inl x2), some (.inl x3), some (.inl x4), some (.inl x5), none, some (.inl x7), none]) ⟨rfl, rfl, rfl, rfl, rfl, rfl, rfl, trivial⟩ ?_
              exact hB_X11_constructor_56 x7 h
    have hL_X11_constructor_138 : ∀ (x1 : Int) (x3 : Int) (x4 : Int) (x5 : Int) (x7 : Int) (n : Nat) (a : (Int × Sg)) (y : Sg), iter (fun a : (Int × Sg) => L_X11_constructor_138 x3 x4 x5 x7 a.1 a.2) n a = some y → (fun y : Sg => Go l m_X11_constructor (d + 1) LAYM (.inl (some (.inl q.1))) q.2 172 [some (.inr 0), some (.inl x1), none, none, none, none, none, none, none] [] y) y → (fun a : (Int × Sg) => Go l m_X11_constructor (d + 1) LAYM (.inl (some (.inl q.1))) q.2 138 [some (.inr 0), some (.inl x1), none, some (.inl x3), some (.inl x4), some (.inl x5), none, some (.inl x7), some (.inl a.1)] [] a.2) a := by
      intro x1 x3 x4 x5 x7
      refine go_iter (G := fun a : (Int × Sg) => Go l m_X11_constructor (d + 1) LAYM (.inl (some (.inl q.1))) q.2 138 [some (.inr 0), some (.inl x1), none, some (.inl x3), some (.inl x4), some (.inl x5), none, some (.inl x7), some (.inl a.1)] [] a.2) (K := fun y : Sg => Go l m_X11_constructor (d + 1) LAYM (.inl (some (.inl q.1))) q.2 172 [some (.inr 0), some (.inl x1), none, none, none, none, none, none, none] [] y) ?_
      rintro ⟨x8, σ⟩ w h hK
      replace h : L_X11_constructor_138 x3 x4 x5 x7 x8 σ = some w := h
      show Go l m_X11_constructor (d + 1) LAYM (.inl (some (.inl q.1))) q.2 138 [some (.inr 0), some (.inl x1), none, some (.inl x3), some (.inl x4), some (.inl x5), none, some (.inl x7), some (.inl x8)] [] σ
      unfold L_X11_constructor_138 at h
      refine go_ops ok_X11_constructor_138_2 (L' := [some (.inr 0), some (.inl x1), none, some (.inl x3), some (.inl x4), some (.inl x5), none, some (.inl x7), some (.inl x8)]) (st' := [.inl 3, .inl x8]) (σ1 := σ) rfl ?_
      refine go_icmp_ge dc_X11_constructor_141 (by rfl) (fun hc => ?_) (fun hc => ?_)
      · replace h := (if_pos hc).symm.trans h
        cases h
        refine go_wk (L' := [some (.inr 0), some (.inl x1), none, none, none, none, none, none, none]) ⟨rfl, rfl, trivial⟩ ?_
        exact hK
      · replace h := (if_neg hc).symm.trans h
        refine go_ops ok_X11_constructor_144_11 (L' := [some (.inr 0), some (.inl x1), none, some (.inl x3), some (.inl x4), some (.inl x5), none, some (.inl x7), some (.inl x8)]) (st' := [.inl x8, .inl x5, .inl x4, .inl x3, .inl (wrap ((wrap (3 * x7)) + x8)), .inr 3]) (σ1 := σ) rfl ?_
        refine go_S (M1 := m_X11_pick) (as := [.inl x3, .inl x4, .inl x5, .inl x8]) (st := [.inl (wrap ((wrap (3 * x7)) + x8)), .inr 3]) dc_X11_constructor_162 ln_11_175 sm_X11_pick mk_X11_pick rfl (Nat.le_of_ble_eq_true rfl) (Nat.le_refl _) (v := (some (.inl (F_X11_pick x3 x4 x5 x8)))) (σ1 := σ) (lk_X11_pick l d (by omega) x3 x4 x5 x8 σ _ rfl) _ rfl ?_
        obtain ⟨s17, e18, h⟩ := bind_inv h
        refine go_wr (k := 3) dc_X11_constructor_165 rfl e18 ?_
        refine go_ops ok_X11_constructor_166_1 (L' := [some (.inr 0), some (.inl x1), none, some (.inl x3), some (.inl x4), some (.inl x5), none, some (.inl x7), some (.inl (wrap (x8 + 1)))]) (st' := []) (σ1 := s17) rfl ?_
        refine go_goto dc_X11_constructor_169 (by rfl) ?_
        cases h
        exact hK
    have hB_X11_constructor_107 : ∀ (x1 : Int) (x2 : Int) (x3 : Int) (x4 : Int) (x5 : Int) (y0 : Int) (σ : Sg), B_X11_constructor_107 x1 x2 x3 x4 x5 y0 σ = some q → Go l m_X11_constructor (d + 1) LAYM (.inl (some (.inl q.1))) q.2 107 [some (.inr 0), some (.inl x1), some (.inl x2), some (.inl x3), some (.inl x4), some (.inl x5), none, none, none] [.inl y0, .inr 0] σ := by
      intro x1 x2 x3 x4 x5 y0 σ h
      unfold B_X11_constructor_107 at h
      obtain ⟨q9, e10, h⟩ := bnd_inv h
      refine go_V (M1 := m_X11_refused) (as := [.inl y0]) (st := []) (k := 0) (ci := 11) dc_X11_constructor_107 ln_11_183 im_X11_refused (by decide) rfl rfl mk_X11_refused rfl (Nat.le_of_ble_eq_true rfl) (Nat.le_refl _) (v := (some (.inl (b2i q9.1)))) (σ1 := q9.2) (lk_X11_refused l d (by omega) y0 σ q9 e10.symm) _ rfl ?_
      refine go_ifb_eq dc_X11_constructor_110 (by rfl) (fun hc => ?_) (fun hc => ?_)
      · replace h := (if_neg hc).symm.trans h
        refine go_ops ok_X11_constructor_115_6 (L' := [some (.inr 0), some (.inl x1), some (.inl x2), some (.inl x3), some (.inl x4), some (.inl x5), none, none, none]) (st' := [.inl x1, .inr 1, .inl (wrap (4 * x1))]) (σ1 := q9.2) rfl ?_
        obtain ⟨v11, e12, h⟩ := bind_inv h
        refine go_rd (k := 1) dc_X11_constructor_123 rfl e12 ?_
        obtain ⟨v13, e14, h⟩ := bnd_inv h
        refine go_ops ok_X11_constructor_124_6 (L' := [some (.inr 0), some (.inl x1), some (.inl x2), some (.inl x3), some (.inl x4), some (.inl x5), none, some (.inl v13), none]) (st' := [.inl x2, .inl v13, .inr 2]) (σ1 := q9.2) (by subst e14; rfl) ?_
        obtain ⟨s15, e16, h⟩ := bind_inv h
        refine go_wr (k := 2) dc_X11_constructor_134 rfl e16 ?_
        refine go_ops ok_X11_constructor_135_2 (L' := [some (.inr 0), some (.inl x1), some (.inl x2), some (.inl x3), some (.inl x4), some (.inl x5), none, some (.inl v13), some (.inl 0)]) (st' := []) (σ1 := s15) rfl ?_
        refine go_wk (L' := [some (.inr 0), some (.inl x1), none, some (.inl x3), some (.inl x4), some (.inl x5), none, some (.inl v13), some (.inl 0)]) ⟨rfl, rfl, rfl, rfl, rfl, rfl, rfl, trivial⟩ ?_
        obtain ⟨y19, e20, h⟩ := bind_inv h
        refine hL_X11_constructor_138 x1 x3 x4 x5 v13 4 (0, s15) y19 e20 ?_
        show Go l m_X11_constructor (d + 1) LAYM (.inl (some (.inl q.1))) q.2 172 [some (.inr 0), some (.inl x1), none, none, none, none, none, none, none] [] y19
        refine go_ops ok_X11_constructor_172_4 (L' := [some (.inr 0), some (.inl x1), none, none, none, none, none, none, none]) (st' := [.inl x1, .inr 1, .inl x1, .inr 1]) (σ1 := y19) rfl ?_
        obtain ⟨v21, e22, h⟩ := bind_inv h
        refine go_rd (k := 1) dc_X11_constructor_178 rfl e22 ?_
        refine go_ops ok_X11_constructor_179_2 (L' := [some (.inr 0), some (.inl x1), none, none, none, none, none, none, none]) (st' := [.inl (wrap (v21 + 1)), .inl x1, .inr 1]) (σ1 := y19) rfl ?_
        obtain ⟨s23, e24, h⟩ := bind_inv h
        refine go_wr (k := 1) dc_X11_constructor_181 rfl e24 ?_
        obtain ⟨s25, e26, h⟩ := bnd_inv h
        refine go_ops ok_X11_constructor_182_6 (L' := [some (.inr 0), some (.inl x1), none, none, none, none, none, none, none]) (st' := [.inl x1, .inr 1]) (σ1 := s25) (by subst e26; rfl) ?_
        obtain ⟨v27, e28, h⟩ := bind_inv h
        refine go_rd (k := 1) dc_X11_constructor_192 rfl e28 ?_
        refine go_ops ok_X11_constructor_193_2 (L' := [some (.inr 0), some (.inl x1), none, none, none, none, none, none, none]) (st' := [.inl (wrap (v27 - 1))]) (σ1 := s25) rfl ?_
        have h9 := Option.some.inj h
        subst h9
        exact go_iret dc_X11_constructor_195 rfl
      · replace h := (if_pos hc).symm.trans h
        refine go_ops ok_X11_constructor_113_1 (L' := [some (.inr 0), some (.inl x1), some (.inl x2), some (.inl x3), some (.inl x4), some (.inl x5), none, none, none]) (st' := [.inl 0]) (σ1 := q9.2) rfl ?_
        have h9 := Option.some.inj h
        subst h9
        exact go_iret dc_X11_constructor_114 rfl
    refine go_ops ok_X11_constructor_0_3 (L' := [some (.inr 0), some (.inl a1), some (.inl a2), some (.inl a3), some (.inl a4), some (.inl a5), none, none, none]) (st' := [.inl 3, .inl 0, .inl a2]) (σ1 := σ) rfl ?_
    refine go_S (M1 := m_X11_in) (as := [.inl a2, .inl 0, .inl 3]) (st := []) dc_X11_constructor_3 ln_11_171 sm_X11_in mk_X11_in rfl (Nat.le_of_ble_eq_true rfl) (Nat.le_refl _) (v := (some (.inl (b2i (F_X11_in a2 0 3))))) (σ1 := σ) (lk_X11_in l d (by omega) a2 0 3 σ _ rfl) _ rfl ?_
    obtain ⟨v1, e2, h⟩ := bnd_inv h
    refine go_ops ok_X11_constructor_6_3 (L' := [some (.inr 0), some (.inl a1), some (.inl a2), some (.inl a3), some (.inl a4), some (.inl a5), some (.inl (b2i v1)), some (.inl 0), none]) (st' := []) (σ1 := σ) (by subst e2; rfl) ?_
    obtain ⟨y5, e6, h⟩ := bind_inv h
    refine hL_X11_constructor_11 a1 a2 a3 a4 a5 σ 4 (v1, 0) y5 e6 ?_
    show Go l m_X11_constructor (d + 1) LAYM (.inl (some (.inl q.1))) q.2 69 [some (.inr 0), some (.inl a1), some (.inl a2), some (.inl a3), some (.inl a4), some (.inl a5), some (.inl (b2i y5)), none, none] [] σ
    refine go_ops ok_X11_constructor_69_4 (L' := [some (.inr 0), some (.inl a1), some (.inl a2), some (.inl a3), some (.inl a4), some (.inl a5), some (.inl (b2i y5)), none, none]) (st' := [.inl 3, .inl 0, .inl a1, .inr 0]) (σ1 := σ) rfl ?_
    refine go_S (M1 := m_X11_in) (as := [.inl a1, .inl 0, .inl 3]) (st := [.inr 0]) dc_X11_constructor_73 ln_11_171 sm_X11_in mk_X11_in rfl (Nat.le_of_ble_eq_true rfl) (Nat.le_refl _) (v := (some (.inl (b2i (F_X11_in a1 0 3))))) (σ1 := σ) (lk_X11_in l d (by omega) a1 0 3 σ _ rfl) _ rfl ?_
    refine go_ifb_ne dc_X11_constructor_76 (by rfl) (fun hc => ?_) (fun hc => ?_)
    · replace h := (if_pos hc).symm.trans h
      refine go_ops ok_X11_constructor_83_1 (L' := [some (.inr 0), some (.inl a1), some (.inl a2), some (.inl a3), some (.inl a4), some (.inl a5), some (.inl (b2i y5)), none, none]) (st' := [.inl (b2i y5), .inr 0]) (σ1 := σ) rfl ?_
      refine go_ifb_ne dc_X11_constructor_85 (by rfl) (fun hc => ?_) (fun hc => ?_)
      · replace h := (if_pos hc).symm.trans h
        refine go_ops ok_X11_constructor_92_3 (L' := [some (.inr 0), some (.inl a1), some (.inl a2), some (.inl a3), some (.inl a4), some (.inl a5), some (.inl (b2i y5)), none, none]) (st' := [.inl a1, .inr 1, .inr 0]) (σ1 := σ) rfl ?_
        obtain ⟨v7, e8, h⟩ := bind_inv h
        refine go_rd (k := 1) dc_X11_constructor_97 rfl e8 ?_
        refine go_ops ok_X11_constructor_98_1 (L' := [some (.inr 0), some (.inl a1), some (.inl a2), some (.inl a3), some (.inl a4), some (.inl a5), some (.inl (b2i y5)), none, none]) (st' := [.inl 4, .inl v7, .inr 0]) (σ1 := σ) rfl ?_
        refine go_icmp_ne dc_X11_constructor_99 (by rfl) (fun hc => ?_) (fun hc => ?_)
        · replace h := (if_neg hc).symm.trans h
          refine go_ops ok_X11_constructor_106_1 (L' := [some (.inr 0), some (.inl a1), some (.inl a2), some (.inl a3), some (.inl a4), some (.inl a5), some (.inl (b2i y5)), none, none]) (st' := [.inl 0, .inr 0]) (σ1 := σ) rfl ?_
          refine go_wk (L' := [some (.inr 0), some (.inl a1), some (.inl a2), some (.inl a3), some (.inl a4), some (.inl a5), none, none, none]) ⟨rfl, rfl, rfl, rfl, rfl, rfl, trivial⟩ ?_
          exact hB_X11_constructor_107 a1 a2 a3 a4 a5 0 σ h
        · replace h := (if_pos hc).symm.trans h
          refine go_ops ok_X11_constructor_102_1 (L' := [some (.inr 0), some (.inl a1), some (.inl a2), some (.inl a3), some (.inl a4), some (.inl a5), some (.inl (b2i y5)), none, none]) (st' := [.inl 3, .inr 0]) (σ1 := σ) rfl ?_
          refine go_goto dc_X11_constructor_103 (by rfl) ?_
          refine go_wk (L' := [some (.inr 0), some (.inl a1), some (.inl a2), some (.inl a3), some (.inl a4), some (.inl a5), none, none, none]) ⟨rfl, rfl, rfl, rfl, rfl, rfl, trivial⟩ ?_
          exact hB_X11_constructor_107 a1 a2 a3 a4 a5 3 σ h
      · replace h := (if_neg hc).symm.trans h
        refine go_ops ok_X11_constructor_88_1 (L' := [some (.inr 0), some (.inl a1), some (.inl a2), some (.inl a3), some (.inl a4), some (.inl a5), some (.inl (b2i y5)), none, none]) (st' := [.inl 2, .inr 0]) (σ1 := σ) rfl ?_
        refine go_goto dc_X11_constructor_89 (by rfl) ?_
        refine go_wk (L' := [some (.inr 0), some (.inl a1), some (.inl a2), some (.inl a3), some (.inl a4), some (.inl a5), none, none, none]) ⟨rfl, rfl, rfl, rfl, rfl, rfl, trivial⟩ ?_
        exact hB_X11_constructor_107 a1 a2 a3 a4 a5 2 σ h
    · replace h := (if_neg hc).symm.trans h
      refine go_ops ok_X11_constructor_79_1 (L' := [some (.inr 0), some (.inl a1), some (.inl a2), some (.inl a3), some (.inl a4), some (.inl a5), some (.inl (b2i y5)), none, none]) (st' := [.inl 1, .inr 0]) (σ1 := σ) rfl ?_
      refine go_goto dc_X11_constructor_80 (by rfl) ?_
      refine go_wk (L' := [some (.inr 0), some (.inl a1), some (.inl a2), some (.inl a3), some (.inl a4), some (.inl a5), none, none, none]) ⟨rfl, rfl, rfl, rfl, rfl, rfl, trivial⟩ ?_
      exact hB_X11_constructor_107 a1 a2 a3 a4 a5 1 σ h
  have hf := go_ct (as := [.inr 0, .inl a1, .inl a2, .inl a3, .inl a4, .inl a5]) mk_X11_constructor (by rfl) (Nat.le_of_ble_eq_true rfl) key
  exact hf
theorem dc_X11_value_9 : decode m_X11_value.2.2.1 9 = .ok (.iastore, 1) := by decide +kernel
theorem dc_X11_value_19 : decode m_X11_value.2.2.1 19 = .ok (.iastore, 1) := by decide +kernel
theorem dc_X11_value_31 : decode m_X11_value.2.2.1 31 = .ok (.iastore, 1) := by decide +kernel
theorem dc_X11_value_46 : decode m_X11_value.2.2.1 46 = .ok (.iastore, 1) := by decide +kernel
theorem dc_X11_value_61 : decode m_X11_value.2.2.1 61 = .ok (.iastore, 1) := by decide +kernel
theorem dc_X11_value_74 : decode m_X11_value.2.2.1 74 = .ok (.irem, 1) := by decide +kernel
theorem dc_X11_value_75 : decode m_X11_value.2.2.1 75 = .ok (.iastore, 1) := by decide +kernel
theorem dc_X11_value_92 : decode m_X11_value.2.2.1 92 = .ok (.ireturn, 1) := by decide +kernel
theorem ok_X11_value_0_5 : oks m_X11_value.1 m_X11_value.2.2.1 0 [(.aload_n 0, 1, (0, 0, 0)), (.getfield 19, 3, (11, 5, 0)), (.aload_n 0, 1, (0, 0, 0)), (.getfield 186, 3, (11, 4, 0)), (.iload_n 1, 1, (0, 0, 0))] = true ∧ plen 0 [(.aload_n 0, 1, (0, 0, 0)), (.getfield 19, 3, (11, 5, 0)), (.aload_n 0, 1, (0, 0, 0)), (.getfield 186, 3, (11, 4, 0)), (.iload_n 1, 1, (0, 0, 0))] = 9 := by decide +kernel
theorem ok_X11_value_10_5 : oks m_X11_value.1 m_X11_value.2.2.1 10 [(.aload_n 0, 1, (0, 0, 0)), (.getfield 22, 3, (11, 6, 0)), (.aload_n 0, 1, (0, 0, 0)), (.getfield 186, 3, (11, 4, 0)), (.iload_n 2, 1, (0, 0, 0))] = true ∧ plen 10 [(.aload_n 0, 1, (0, 0, 0)), (.getfield 22, 3, (11, 6, 0)), (.aload_n 0, 1, (0, 0, 0)), (.getfield 186, 3, (11, 4, 0)), (.iload_n 2, 1, (0, 0, 0))] = 19 := by decide +kernel
theorem ok_X11_value_20_7 : oks m_X11_value.1 m_X11_value.2.2.1 20 [(.aload_n 0, 1, (0, 0, 0)), (.getfield 25, 3, (11, 7, 0)), (.iconst 3, 1, (0, 0, 0)), (.aload_n 0, 1, (0, 0, 0)), (.getfield 186, 3, (11, 4, 0)), (.imul, 1, (0, 0, 0)), (.iload_n 3, 1, (0, 0, 0))] = true ∧ plen 20 [(.aload_n 0, 1, (0, 0, 0)), (.getfield 25, 3, (11, 7, 0)), (.iconst 3, 1, (0, 0, 0)), (.aload_n 0, 1, (0, 0, 0)), (.getfield 186, 3, (11, 4, 0)), (.imul, 1, (0, 0, 0)), (.iload_n 3, 1, (0, 0, 0))] = 31 := by decide +kernel
theorem ok_X11_value_32_9 : oks m_X11_value.1 m_X11_value.2.2.1 32 [(.aload_n 0, 1, (0, 0, 0)), (.getfield 25, 3, (11, 7, 0)), (.iconst 3, 1, (0, 0, 0)), (.aload_n 0, 1, (0, 0, 0)), (.getfield 186, 3, (11, 4, 0)), (.imul, 1, (0, 0, 0)), (.iconst 1, 1, (0, 0, 0)), (.iadd, 1, (0, 0, 0)), (.iload 4, 2, (0, 0, 0))] = true ∧ plen 32 [(.aload_n 0, 1, (0, 0, 0)), (.getfield 25, 3, (11, 7, 0)), (.iconst 3, 1, (0, 0, 0)), (.aload_n 0, 1, (0, 0, 0)), (.getfield 186, 3, (11, 4, 0)), (.imul, 1, (0, 0, 0)), (.iconst 1, 1, (0, 0, 0)), (.iadd, 1, (0, 0, 0)), (.iload 4, 2, (0, 0, 0))] = 46 := by decide +kernel
theorem ok_X11_value_47_9 : oks m_X11_value.1 m_X11_value.2.2.1 47 [(.aload_n 0, 1, (0, 0, 0)), (.getfield 25, 3, (11, 7, 0)), (.iconst 3, 1, (0, 0, 0)), (.aload_n 0, 1, (0, 0, 0)), (.getfield 186, 3, (11, 4, 0)), (.imul, 1, (0, 0, 0)), (.iconst 2, 1, (0, 0, 0)), (.iadd, 1, (0, 0, 0)), (.iload 5, 2, (0, 0, 0))] = true ∧ plen 47 [(.aload_n 0, 1, (0, 0, 0)), (.getfield 25, 3, (11, 7, 0)), (.iconst 3, 1, (0, 0, 0)), (.aload_n 0, 1, (0, 0, 0)), (.getfield 186, 3, (11, 4, 0)), (.imul, 1, (0, 0, 0)), (.iconst 2, 1, (0, 0, 0)), (.iadd, 1, (0, 0, 0)), (.iload 5, 2, (0, 0, 0))] = 61 := by decide +kernel
theorem ok_X11_value_62_6 : oks m_X11_value.1 m_X11_value.2.2.1 62 [(.aload_n 0, 1, (0, 0, 0)), (.getfield 28, 3, (11, 8, 0)), (.aload_n 0, 1, (0, 0, 0)), (.getfield 186, 3, (11, 4, 0)), (.iload 6, 2, (0, 0, 0)), (.bipush 97, 2, (0, 0, 0))] = true ∧ plen 62 [(.aload_n 0, 1, (0, 0, 0)), (.getfield 28, 3, (11, 8, 0)), (.aload_n 0, 1, (0, 0, 0)), (.getfield 186, 3, (11, 4, 0)), (.iload 6, 2, (0, 0, 0)), (.bipush 97, 2, (0, 0, 0))] = 74 := by decide +kernel
theorem ok_X11_value_76_10 : oks m_X11_value.1 m_X11_value.2.2.1 76 [(.aload_n 0, 1, (0, 0, 0)), (.dup, 1, (0, 0, 0)), (.getfield 186, 3, (11, 4, 0)), (.iconst 1, 1, (0, 0, 0)), (.iadd, 1, (0, 0, 0)), (.putfield 186, 3, (11, 4, 0)), (.aload_n 0, 1, (0, 0, 0)), (.getfield 186, 3, (11, 4, 0)), (.iconst 1, 1, (0, 0, 0)), (.isub, 1, (0, 0, 0))] = true ∧ plen 76 [(.aload_n 0, 1, (0, 0, 0)), (.dup, 1, (0, 0, 0)), (.getfield 186, 3, (11, 4, 0)), (.iconst 1, 1, (0, 0, 0)), (.iadd, 1, (0, 0, 0)), (.putfield 186, 3, (11, 4, 0)), (.aload_n 0, 1, (0, 0, 0)), (.getfield 186, 3, (11, 4, 0)), (.iconst 1, 1, (0, 0, 0)), (.isub, 1, (0, 0, 0))] = 92 := by decide +kernel
def F_X11_value (a1 : Int) (a2 : Int) (a3 : Int) (a4 : Int) (a5 : Int) (a6 : Int) (σ : Sg) : Option (Int × Sg) :=
(wrn 40 σ 4 (σ 0 4) a1).bind fun s1 =>
(wrn 40 s1 5 (s1 0 4) a2).bind fun s3 =>
(wrn 120 s3 6 (wrap (3 * (s3 0 4))) a3).bind fun s5 =>
(wrn 120 s5 6 (wrap ((wrap (3 * (s5 0 4))) + 1)) a4).bind fun s7 =>
(wrn 120 s7 6 (wrap ((wrap (3 * (s7 0 4))) + 2)) a5).bind fun s9 =>
(wrn 40 s9 7 (s9 0 4) (jrem a6 97)).bind fun s11 =>
bnd (up2 s11 0 4 (wrap ((s11 0 4) + 1))) fun s13 =>
some (wrap ((s13 0 4) - 1), s13)
theorem lk_X11_value (l : Launch) (d : Nat) (hd : 0 ≤ d) (a1 : Int) (a2 : Int) (a3 : Int) (a4 : Int) (a5 : Int) (a6 : Int) (σ : Sg) (q : (Int × Sg)) (h : F_X11_value a1 a2 a3 a4 a5 a6 σ = some q) : CT l d m_X11_value.2.1 m_X11_value.2.2.1 m_X11_value.2.2.2.1 m_X11_value.2.2.2.2 [.inr 0, .inl a1, .inl a2, .inl a3, .inl a4, .inl a5, .inl a6] (LAYM, σ) (some (.inl q.1)) (LAYM, q.2) := by
  skip
  have key : Go l m_X11_value d LAYM (.inl (some (.inl q.1))) q.2 0 [some (.inr 0), some (.inl a1), some (.inl a2), some (.inl a3), some (.inl a4), some (.inl a5), some (.inl a6)] [] σ := by
    unfold F_X11_value at h
    refine go_ops ok_X11_value_0_5 (L' := [some (.inr 0), some (.inl a1), some (.inl a2), some (.inl a3), some (.inl a4), some (.inl a5), some (.inl a6)]) (st' := [.inl a1, .inl (σ 0 4), .inr 4]) (σ1 := σ) rfl ?_
    obtain ⟨s1, e2, h⟩ := bind_inv h
    refine go_wr (k := 4) dc_X11_value_9 rfl e2 ?_
    refine go_ops ok_X11_value_10_5 (L' := [some (.inr 0), some (.inl a1), some (.inl a2), some (.inl a3), some (.inl a4), some (.inl a5), some (.inl a6)]) (st' := [.inl a2, .inl (s1 0 4), .inr 5]) (σ1 := s1) rfl ?_
    obtain ⟨s3, e4, h⟩ := bind_inv h
    refine go_wr (k := 5) dc_X11_value_19 rfl e4 ?_
    refine go_ops ok_X11_value_20_7 (L' := [some (.inr 0), some (.inl a1), some (.inl a2), some (.inl a3), some (.inl a4), some (.inl a5), some (.inl a6)]) (st' := [.inl a3, .inl (wrap (3 * (s3 0 4))), .inr 6]) (σ1 := s3) rfl ?_
    obtain ⟨s5, e6, h⟩ := bind_inv h
    refine go_wr (k := 6) dc_X11_value_31 rfl e6 ?_
    refine go_ops ok_X11_value_32_9 (L' := [some (.inr 0), some (.inl a1), some (.inl a2), some (.inl a3), some (.inl a4), some (.inl a5), some (.inl a6)]) (st' := [.inl a4, .inl (wrap ((wrap (3 * (s5 0 4))) + 1)), .inr 6]) (σ1 := s5) rfl ?_
    obtain ⟨s7, e8, h⟩ := bind_inv h
    refine go_wr (k := 6) dc_X11_value_46 rfl e8 ?_
    refine go_ops ok_X11_value_47_9 (L' := [some (.inr 0), some (.inl a1), some (.inl a2), some (.inl a3), some (.inl a4), some (.inl a5), some (.inl a6)]) (st' := [.inl a5, .inl (wrap ((wrap (3 * (s7 0 4))) + 2)), .inr 6]) (σ1 := s7) rfl ?_
    obtain ⟨s9, e10, h⟩ := bind_inv h
    refine go_wr (k := 6) dc_X11_value_61 rfl e10 ?_
    refine go_ops ok_X11_value_62_6 (L' := [some (.inr 0), some (.inl a1), some (.inl a2), some (.inl a3), some (.inl a4), some (.inl a5), some (.inl a6)]) (st' := [.inl 97, .inl a6, .inl (s9 0 4), .inr 7]) (σ1 := s9) rfl ?_
    refine go_rem dc_X11_value_74 (by decide) ?_
    obtain ⟨s11, e12, h⟩ := bind_inv h
    refine go_wr (k := 7) dc_X11_value_75 rfl e12 ?_
    obtain ⟨s13, e14, h⟩ := bnd_inv h
    refine go_ops ok_X11_value_76_10 (L' := [some (.inr 0), some (.inl a1), some (.inl a2), some (.inl a3), some (.inl a4), some (.inl a5), some (.inl a6)]) (st' := [.inl (wrap ((s13 0 4) - 1))]) (σ1 := s13) (by subst e14; rfl) ?_
    have h9 := Option.some.inj h
    subst h9
    exact go_iret dc_X11_value_92 rfl
  have hf := go_ct (as := [.inr 0, .inl a1, .inl a2, .inl a3, .inl a4, .inl a5, .inl a6]) mk_X11_value (by rfl) (Nat.le_of_ble_eq_true rfl) key
  exact hf
theorem dc_X11_num_5 : decode m_X11_num.2.2.1 5 = .ok (.invokestatic 171, 3) := by decide +kernel
theorem dc_X11_num_8 : decode m_X11_num.2.2.1 8 = .ok (.ifCond .ne 7, 3) := by decide +kernel
theorem dc_X11_num_12 : decode m_X11_num.2.2.1 12 = .ok (.goto 17, 3) := by decide +kernel
theorem dc_X11_num_21 : decode m_X11_num.2.2.1 21 = .ok (.if_icmp .ne 7, 3) := by decide +kernel
theorem dc_X11_num_25 : decode m_X11_num.2.2.1 25 = .ok (.goto 4, 3) := by decide +kernel
theorem dc_X11_num_29 : decode m_X11_num.2.2.1 29 = .ok (.invokevirtual 183, 3) := by decide +kernel
theorem dc_X11_num_32 : decode m_X11_num.2.2.1 32 = .ok (.ifCond .eq 5, 3) := by decide +kernel
theorem dc_X11_num_36 : decode m_X11_num.2.2.1 36 = .ok (.ireturn, 1) := by decide +kernel
theorem dc_X11_num_44 : decode m_X11_num.2.2.1 44 = .ok (.invokevirtual 189, 3) := by decide +kernel
theorem dc_X11_num_47 : decode m_X11_num.2.2.1 47 = .ok (.ireturn, 1) := by decide +kernel
theorem ok_X11_num_0_4 : oks m_X11_num.1 m_X11_num.2.2.1 0 [(.aload_n 0, 1, (0, 0, 0)), (.iload_n 1, 1, (0, 0, 0)), (.iconst 0, 1, (0, 0, 0)), (.bipush 9, 2, (0, 0, 0))] = true ∧ plen 0 [(.aload_n 0, 1, (0, 0, 0)), (.iload_n 1, 1, (0, 0, 0)), (.iconst 0, 1, (0, 0, 0)), (.bipush 9, 2, (0, 0, 0))] = 5 := by decide +kernel
theorem ok_X11_num_11_1 : oks m_X11_num.1 m_X11_num.2.2.1 11 [(.iconst 1, 1, (0, 0, 0))] = true ∧ plen 11 [(.iconst 1, 1, (0, 0, 0))] = 12 := by decide +kernel
theorem ok_X11_num_15_3 : oks m_X11_num.1 m_X11_num.2.2.1 15 [(.aload_n 0, 1, (0, 0, 0)), (.getfield 186, 3, (11, 4, 0)), (.bipush 40, 2, (0, 0, 0))] = true ∧ plen 15 [(.aload_n 0, 1, (0, 0, 0)), (.getfield 186, 3, (11, 4, 0)), (.bipush 40, 2, (0, 0, 0))] = 21 := by decide +kernel
theorem ok_X11_num_24_1 : oks m_X11_num.1 m_X11_num.2.2.1 24 [(.iconst 2, 1, (0, 0, 0))] = true ∧ plen 24 [(.iconst 2, 1, (0, 0, 0))] = 25 := by decide +kernel
theorem ok_X11_num_28_1 : oks m_X11_num.1 m_X11_num.2.2.1 28 [(.iconst 0, 1, (0, 0, 0))] = true ∧ plen 28 [(.iconst 0, 1, (0, 0, 0))] = 29 := by decide +kernel
theorem ok_X11_num_35_1 : oks m_X11_num.1 m_X11_num.2.2.1 35 [(.iconst 0, 1, (0, 0, 0))] = true ∧ plen 35 [(.iconst 0, 1, (0, 0, 0))] = 36 := by decide +kernel
theorem ok_X11_num_37_7 : oks m_X11_num.1 m_X11_num.2.2.1 37 [(.aload_n 0, 1, (0, 0, 0)), (.iconst 4, 1, (0, 0, 0)), (.iload_n 1, 1, (0, 0, 0)), (.iconst 0, 1, (0, 0, 0)), (.iconst 0, 1, (0, 0, 0)), (.iconst 0, 1, (0, 0, 0)), (.iload_n 1, 1, (0, 0, 0))] = true ∧ plen 37 [(.aload_n 0, 1, (0, 0, 0)), (.iconst 4, 1, (0, 0, 0)), (.iload_n 1, 1, (0, 0, 0)), (.iconst 0, 1, (0, 0, 0)), (.iconst 0, 1, (0, 0, 0)), (.iconst 0, 1, (0, 0, 0)), (.iload_n 1, 1, (0, 0, 0))] = 44 := by decide +kernel
def B_X11_num_29 (x1 : Int) (y0 : Int) (σ : Sg) : Option (Int × Sg) :=
bnd (F_X11_refused y0 σ) fun q1 =>
if q1.1 = true then
some (0, q1.2)
else
(F_X11_value 4 x1 0 0 0 x1 q1.2).bind fun q3 =>
some (q3.1, q3.2)
def F_X11_num (a1 : Int) (σ : Sg) : Option (Int × Sg) :=
if (F_X11_in a1 0 9) = true then
if (σ 0 4) = 40 then
B_X11_num_29 a1 2 σ
else
B_X11_num_29 a1 0 σ
else
B_X11_num_29 a1 1 σ
theorem lk_X11_num (l : Launch) (d : Nat) (hd : 1 ≤ d) (a1 : Int) (σ : Sg) (q : (Int × Sg)) (h : F_X11_num a1 σ = some q) : CT l d m_X11_num.2.1 m_X11_num.2.2.1 m_X11_num.2.2.2.1 m_X11_num.2.2.2.2 [.inr 0, .inl a1] (LAYM, σ) (some (.inl q.1)) (LAYM, q.2) := by
  obtain ⟨d, rfl⟩ : ∃ e, d = e + 1 := ⟨d - 1, by omega⟩
  have key : Go l m_X11_num (d + 1) LAYM (.inl (some (.inl q.1))) q.2 0 [some (.inr 0), some (.inl a1)] [] σ := by
    unfold F_X11_num at h
    have hB_X11_num_29 : ∀ (x1 : Int) (y0 : Int) (σ : Sg), B_X11_num_29 x1 y0 σ = some q → Go l m_X11_num (d + 1) LAYM (.inl (some (.inl q.1))) q.2 29 [some (.inr 0), some (.inl x1)] [.inl y0, .inr 0] σ := by
      intro x1 y0 σ h
      unfold B_X11_num_29 at h
      obtain ⟨q1, e2, h⟩ := bnd_inv h
      refine go_V (M1 := m_X11_refused) (as := [.inl y0]) (st := []) (k := 0) (ci := 11) dc_X11_num_29 ln_11_183 im_X11_refused (by decide) rfl rfl mk_X11_refused rfl (Nat.le_of_ble_eq_true rfl) (Nat.le_refl _) (v := (some (.inl (b2i q1.1)))) (σ1 := q1.2) (lk_X11_refused l d (by omega) y0 σ q1 e2.symm) _ rfl ?_
      refine go_ifb_eq dc_X11_num_32 (by rfl) (fun hc => ?_) (fun hc => ?_)
      · replace h := (if_neg hc).symm.trans h
        refine go_ops ok_X11_num_37_7 (L' := [some (.inr 0), some (.inl x1)]) (st' := [.inl x1, .inl 0, .inl 0, .inl 0, .inl x1, .inl 4, .inr 0]) (σ1 := q1.2) rfl ?_
        obtain ⟨q3, e4, h⟩ := bind_inv h
        refine go_V (M1 := m_X11_value) (as := [.inl 4, .inl x1, .inl 0, .inl 0, .inl 0, .inl x1]) (st := []) (k := 0) (ci := 11) dc_X11_num_44 ln_11_189 im_X11_value (by decide) rfl rfl mk_X11_value rfl (Nat.le_of_ble_eq_true rfl) (Nat.le_refl _) (v := (some (.inl q3.1))) (σ1 := q3.2) (lk_X11_value l d (by omega) 4 x1 0 0 0 x1 q1.2 q3 e4) _ rfl ?_
        have h9 := Option.some.inj h
        subst h9
        exact go_iret dc_X11_num_47 rfl
      · replace h := (if_pos hc).symm.trans h
        refine go_ops ok_X11_num_35_1 (L' := [some (.inr 0), some (.inl x1)]) (st' := [.inl 0]) (σ1 := q1.2) rfl ?_
        have h9 := Option.some.inj h
        subst h9
        exact go_iret dc_X11_num_36 rfl
    refine go_ops ok_X11_num_0_4 (L' := [some (.inr 0), some (.inl a1)]) (st' := [.inl 9, .inl 0, .inl a1, .inr 0]) (σ1 := σ) rfl ?_
    refine go_S (M1 := m_X11_in) (as := [.inl a1, .inl 0, .inl 9]) (st := [.inr 0]) dc_X11_num_5 ln_11_171 sm_X11_in mk_X11_in rfl (Nat.le_of_ble_eq_true rfl) (Nat.le_refl _) (v := (some (.inl (b2i (F_X11_in a1 0 9))))) (σ1 := σ) (lk_X11_in l d (by omega) a1 0 9 σ _ rfl) _ rfl ?_
    refine go_ifb_ne dc_X11_num_8 (by rfl) (fun hc => ?_) (fun hc => ?_)
    · replace h := (if_pos hc).symm.trans h
      refine go_ops ok_X11_num_15_3 (L' := [some (.inr 0), some (.inl a1)]) (st' := [.inl 40, .inl (σ 0 4), .inr 0]) (σ1 := σ) rfl ?_
      refine go_icmp_ne dc_X11_num_21 (by rfl) (fun hc => ?_) (fun hc => ?_)
      · replace h := (if_neg hc).symm.trans h
        refine go_ops ok_X11_num_28_1 (L' := [some (.inr 0), some (.inl a1)]) (st' := [.inl 0, .inr 0]) (σ1 := σ) rfl ?_
        exact hB_X11_num_29 a1 0 σ h
      · replace h := (if_pos hc).symm.trans h
        refine go_ops ok_X11_num_24_1 (L' := [some (.inr 0), some (.inl a1)]) (st' := [.inl 2, .inr 0]) (σ1 := σ) rfl ?_
        refine go_goto dc_X11_num_25 (by rfl) ?_
        exact hB_X11_num_29 a1 2 σ h
    · replace h := (if_neg hc).symm.trans h
      refine go_ops ok_X11_num_11_1 (L' := [some (.inr 0), some (.inl a1)]) (st' := [.inl 1, .inr 0]) (σ1 := σ) rfl ?_
      refine go_goto dc_X11_num_12 (by rfl) ?_
      exact hB_X11_num_29 a1 1 σ h
  have hf := go_ct (as := [.inr 0, .inl a1]) mk_X11_num (by rfl) (Nat.le_of_ble_eq_true rfl) key
  exact hf
theorem dc_X11_seq_3 : decode m_X11_seq.2.2.1 3 = .ok (.invokestatic 171, 3) := by decide +kernel
theorem dc_X11_seq_14 : decode m_X11_seq.2.2.1 14 = .ok (.if_icmp .ge 49, 3) := by decide +kernel
theorem dc_X11_seq_19 : decode m_X11_seq.2.2.1 19 = .ok (.ifCond .eq 35, 3) := by decide +kernel
theorem dc_X11_seq_28 : decode m_X11_seq.2.2.1 28 = .ok (.invokestatic 175, 3) := by decide +kernel
theorem dc_X11_seq_35 : decode m_X11_seq.2.2.1 35 = .ok (.if_icmp .ge 8, 3) := by decide +kernel
theorem dc_X11_seq_40 : decode m_X11_seq.2.2.1 40 = .ok (.goto 4, 3) := by decide +kernel
theorem dc_X11_seq_44 : decode m_X11_seq.2.2.1 44 = .ok (.invokestatic 171, 3) := by decide +kernel
theorem dc_X11_seq_47 : decode m_X11_seq.2.2.1 47 = .ok (.ifCond .eq 7, 3) := by decide +kernel
theorem dc_X11_seq_51 : decode m_X11_seq.2.2.1 51 = .ok (.goto 4, 3) := by decide +kernel
theorem dc_X11_seq_60 : decode m_X11_seq.2.2.1 60 = .ok (.goto (-49), 3) := by decide +kernel
theorem dc_X11_seq_66 : decode m_X11_seq.2.2.1 66 = .ok (.ifCond .ne 7, 3) := by decide +kernel
theorem dc_X11_seq_70 : decode m_X11_seq.2.2.1 70 = .ok (.goto 17, 3) := by decide +kernel
theorem dc_X11_seq_79 : decode m_X11_seq.2.2.1 79 = .ok (.if_icmp .ne 7, 3) := by decide +kernel
theorem dc_X11_seq_83 : decode m_X11_seq.2.2.1 83 = .ok (.goto 4, 3) := by decide +kernel
theorem dc_X11_seq_87 : decode m_X11_seq.2.2.1 87 = .ok (.invokevirtual 183, 3) := by decide +kernel
theorem dc_X11_seq_90 : decode m_X11_seq.2.2.1 90 = .ok (.ifCond .eq 5, 3) := by decide +kernel
theorem dc_X11_seq_94 : decode m_X11_seq.2.2.1 94 = .ok (.ireturn, 1) := by decide +kernel
theorem dc_X11_seq_112 : decode m_X11_seq.2.2.1 112 = .ok (.invokevirtual 189, 3) := by decide +kernel
theorem dc_X11_seq_115 : decode m_X11_seq.2.2.1 115 = .ok (.ireturn, 1) := by decide +kernel
theorem ok_X11_seq_0_3 : oks m_X11_seq.1 m_X11_seq.2.2.1 0 [(.iload_n 1, 1, (0, 0, 0)), (.iconst 0, 1, (0, 0, 0)), (.iconst 3, 1, (0, 0, 0))] = true ∧ plen 0 [(.iload_n 1, 1, (0, 0, 0)), (.iconst 0, 1, (0, 0, 0)), (.iconst 3, 1, (0, 0, 0))] = 3 := by decide +kernel
theorem ok_X11_seq_6_3 : oks m_X11_seq.1 m_X11_seq.2.2.1 6 [(.istore 5, 2, (0, 0, 0)), (.iconst 0, 1, (0, 0, 0)), (.istore 6, 2, (0, 0, 0))] = true ∧ plen 6 [(.istore 5, 2, (0, 0, 0)), (.iconst 0, 1, (0, 0, 0)), (.istore 6, 2, (0, 0, 0))] = 11 := by decide +kernel
theorem ok_X11_seq_11_2 : oks m_X11_seq.1 m_X11_seq.2.2.1 11 [(.iload 6, 2, (0, 0, 0)), (.iconst 3, 1, (0, 0, 0))] = true ∧ plen 11 [(.iload 6, 2, (0, 0, 0)), (.iconst 3, 1, (0, 0, 0))] = 14 := by decide +kernel
theorem ok_X11_seq_17_1 : oks m_X11_seq.1 m_X11_seq.2.2.1 17 [(.iload 5, 2, (0, 0, 0))] = true ∧ plen 17 [(.iload 5, 2, (0, 0, 0))] = 19 := by decide +kernel
theorem ok_X11_seq_22_4 : oks m_X11_seq.1 m_X11_seq.2.2.1 22 [(.iload_n 2, 1, (0, 0, 0)), (.iload_n 3, 1, (0, 0, 0)), (.iload 4, 2, (0, 0, 0)), (.iload 6, 2, (0, 0, 0))] = true ∧ plen 22 [(.iload_n 2, 1, (0, 0, 0)), (.iload_n 3, 1, (0, 0, 0)), (.iload 4, 2, (0, 0, 0)), (.iload 6, 2, (0, 0, 0))] = 28 := by decide +kernel
theorem ok_X11_seq_31_3 : oks m_X11_seq.1 m_X11_seq.2.2.1 31 [(.iconst 0, 1, (0, 0, 0)), (.iload 6, 2, (0, 0, 0)), (.iload_n 1, 1, (0, 0, 0))] = true ∧ plen 31 [(.iconst 0, 1, (0, 0, 0)), (.iload 6, 2, (0, 0, 0)), (.iload_n 1, 1, (0, 0, 0))] = 35 := by decide +kernel
theorem ok_X11_seq_38_1 : oks m_X11_seq.1 m_X11_seq.2.2.1 38 [(.bipush 9, 2, (0, 0, 0))] = true ∧ plen 38 [(.bipush 9, 2, (0, 0, 0))] = 40 := by decide +kernel
theorem ok_X11_seq_43_1 : oks m_X11_seq.1 m_X11_seq.2.2.1 43 [(.iconst 0, 1, (0, 0, 0))] = true ∧ plen 43 [(.iconst 0, 1, (0, 0, 0))] = 44 := by decide +kernel
theorem ok_X11_seq_50_1 : oks m_X11_seq.1 m_X11_seq.2.2.1 50 [(.iconst 1, 1, (0, 0, 0))] = true ∧ plen 50 [(.iconst 1, 1, (0, 0, 0))] = 51 := by decide +kernel
theorem ok_X11_seq_54_1 : oks m_X11_seq.1 m_X11_seq.2.2.1 54 [(.iconst 0, 1, (0, 0, 0))] = true ∧ plen 54 [(.iconst 0, 1, (0, 0, 0))] = 55 := by decide +kernel
theorem ok_X11_seq_55_2 : oks m_X11_seq.1 m_X11_seq.2.2.1 55 [(.istore 5, 2, (0, 0, 0)), (.iinc 6 1, 3, (0, 0, 0))] = true ∧ plen 55 [(.istore 5, 2, (0, 0, 0)), (.iinc 6 1, 3, (0, 0, 0))] = 60 := by decide +kernel
theorem ok_X11_seq_63_2 : oks m_X11_seq.1 m_X11_seq.2.2.1 63 [(.aload_n 0, 1, (0, 0, 0)), (.iload 5, 2, (0, 0, 0))] = true ∧ plen 63 [(.aload_n 0, 1, (0, 0, 0)), (.iload 5, 2, (0, 0, 0))] = 66 := by decide +kernel
theorem ok_X11_seq_69_1 : oks m_X11_seq.1 m_X11_seq.2.2.1 69 [(.iconst 1, 1, (0, 0, 0))] = true ∧ plen 69 [(.iconst 1, 1, (0, 0, 0))] = 70 := by decide +kernel
theorem ok_X11_seq_73_3 : oks m_X11_seq.1 m_X11_seq.2.2.1 73 [(.aload_n 0, 1, (0, 0, 0)), (.getfield 186, 3, (11, 4, 0)), (.bipush 40, 2, (0, 0, 0))] = true ∧ plen 73 [(.aload_n 0, 1, (0, 0, 0)), (.getfield 186, 3, (11, 4, 0)), (.bipush 40, 2, (0, 0, 0))] = 79 := by decide +kernel
theorem ok_X11_seq_82_1 : oks m_X11_seq.1 m_X11_seq.2.2.1 82 [(.iconst 2, 1, (0, 0, 0))] = true ∧ plen 82 [(.iconst 2, 1, (0, 0, 0))] = 83 := by decide +kernel
theorem ok_X11_seq_86_1 : oks m_X11_seq.1 m_X11_seq.2.2.1 86 [(.iconst 0, 1, (0, 0, 0))] = true ∧ plen 86 [(.iconst 0, 1, (0, 0, 0))] = 87 := by decide +kernel
theorem ok_X11_seq_93_1 : oks m_X11_seq.1 m_X11_seq.2.2.1 93 [(.iconst 0, 1, (0, 0, 0))] = true ∧ plen 93 [(.iconst 0, 1, (0, 0, 0))] = 94 := by decide +kernel
theorem ok_X11_seq_95_15 : oks m_X11_seq.1 m_X11_seq.2.2.1 95 [(.aload_n 0, 1, (0, 0, 0)), (.iconst 5, 1, (0, 0, 0)), (.iload_n 1, 1, (0, 0, 0)), (.iload_n 2, 1, (0, 0, 0)), (.iload_n 3, 1, (0, 0, 0)), (.iload 4, 2, (0, 0, 0)), (.iconst 3, 1, (0, 0, 0)), (.iload_n 1, 1, (0, 0, 0)), (.imul, 1, (0, 0, 0)), (.iload_n 2, 1, (0, 0, 0)), (.iadd, 1, (0, 0, 0)), (.iload_n 3, 1, (0, 0, 0)), (.iadd, 1, (0, 0, 0)), (.iload 4, 2, (0, 0, 0)), (.iadd, 1, (0, 0, 0))] = true ∧ plen 95 [(.aload_n 0, 1, (0, 0, 0)), (.iconst 5, 1, (0, 0, 0)), (.iload_n 1, 1, (0, 0, 0)), (.iload_n 2, 1, (0, 0, 0)), (.iload_n 3, 1, (0, 0, 0)), (.iload 4, 2, (0, 0, 0)), (.iconst 3, 1, (0, 0, 0)), (.iload_n 1, 1, (0, 0, 0)), (.imul, 1, (0, 0, 0)), (.iload_n 2, 1, (0, 0, 0)), (.iadd, 1, (0, 0, 0)), (.iload_n 3, 1, (0, 0, 0)), (.iadd, 1, (0, 0, 0)), (.iload 4, 2, (0, 0, 0)), (.iadd, 1, (0, 0, 0))] = 112 := by decide +kernel
def B_X11_seq_55 (x6 : Int) (y0 : Bool) (σ : Sg) : Option ((Bool × Int) ⊕ Bool) :=
some (.inl (y0, wrap (x6 + 1)))
def B_X11_seq_54 (x6 : Int) (σ : Sg) : Option ((Bool × Int) ⊕ Bool) :=
B_X11_seq_55 x6 false σ
def B_X11_seq_44 (x6 : Int) (y0 : Int) (y1 : Bool) (y2 : Int) (σ : Sg) : Option ((Bool × Int) ⊕ Bool) :=
if (F_X11_in y2 (b2i y1) y0) = true then
B_X11_seq_55 x6 true σ
else
B_X11_seq_54 x6 σ
def L_X11_seq_11 (x1 : Int) (x2 : Int) (x3 : Int) (x4 : Int) (σ : Sg) (x5 : Bool) (x6 : Int) : Option ((Bool × Int) ⊕ Bool) :=
if 3 ≤ x6 then
some (.inr x5)
else
if x5 = true then
if x1 ≤ x6 then
B_X11_seq_44 x6 0 false (F_X11_pick x2 x3 x4 x6) σ
else
B_X11_seq_44 x6 9 false (F_X11_pick x2 x3 x4 x6) σ
else
B_X11_seq_54 x6 σ
def B_X11_seq_87 (x1 : Int) (x2 : Int) (x3 : Int) (x4 : Int) (y0 : Int) (σ : Sg) : Option (Int × Sg) :=
bnd (F_X11_refused y0 σ) fun q5 =>
if q5.1 = true then
some (0, q5.2)
else
(F_X11_value 5 x1 x2 x3 x4 (wrap ((wrap ((wrap ((wrap (3 * x1)) + x2)) + x3)) + x4)) q5.2).bind fun q7 =>
some (q7.1, q7.2)
def F_X11_seq (a1 : Int) (a2 : Int) (a3 : Int) (a4 : Int) (σ : Sg) : Option (Int × Sg) :=
bnd (F_X11_in a1 0 3) fun v1 =>
(iter (fun a : (Bool × Int) => L_X11_seq_11 a1 a2 a3 a4 σ a.1 a.2) 4 (v1, 0)).bind fun y3 =>
if y3 = true then
if (σ 0 4) = 40 then
B_X11_seq_87 a1 a2 a3 a4 2 σ
else
B_X11_seq_87 a1 a2 a3 a4 0 σ
else
B_X11_seq_87 a1 a2 a3 a4 1 σ
theorem lk_X11_seq (l : Launch) (d : Nat) (hd : 1 ≤ d) (a1 : Int) (a2 : Int) (a3 : Int) (a4 : Int) (σ : Sg) (q : (Int × Sg)) (h : F_X11_seq a1 a2 a3 a4 σ = some q) : CT l d m_X11_seq.2.1 m_X11_seq.2.2.1 m_X11_seq.2.2.2.1 m_X11_seq.2.2.2.2 [.inr 0, .inl a1, .inl a2, .inl a3, .inl a4] (LAYM, σ) (some (.inl q.1)) (LAYM, q.2) := by
  obtain ⟨d, rfl⟩ : ∃ e, d = e + 1 := ⟨d - 1, by omega⟩
  have key : Go l m_X11_seq (d + 1) LAYM (.inl (some (.inl q.1))) q.2 0 [some (.inr 0), some (.inl a1), some (.inl a2), some (.inl a3), some (.inl a4), none, none] [] σ := by
    unfold F_X11_seq at h
    have hL_X11_seq_11 : ∀ (x1 : Int) (x2 : Int) (x3 : Int) (x4 : Int) (σ : Sg) (n : Nat) (a : (Bool × Int)) (y : Bool), iter (fun a : (Bool × Int) => L_X11_seq_11 x1 x2 x3 x4 σ a.1 a.2) n a = some y → (fun y : Bool => Go l m_X11_seq (d + 1) LAYM (.inl (some (.inl q.1))) q.2 63 [some (.inr 0), some (.inl x1), some (.inl x2), some (.inl x3), some (.inl x4), some (.inl (b2i y)), none] [] σ) y → (fun a : (Bool × Int) => Go l m_X11_seq (d + 1) LAYM (.inl (some (.inl q.1))) q.2 11 [some (.inr 0), some (.inl x1), some (.inl x2), some (.inl x3), some (.inl x4), some (.inl (b2i a.1)), some (.inl a.2)] [] σ) a := by
      intro x1 x2 x3 x4 σ
      refine go_iter (G := fun a : (Bool × Int) => Go l m_X11_seq (d + 1) LAYM (.inl (some (.inl q.1))) q.2 11 [some (.inr 0), some (.inl x1), some (.inl x2), some (.inl x3), some (.inl x4), some (.inl (b2i a.1)), some (.inl a.2)] [] σ) (K := fun y : Bool => Go l m_X11_seq (d + 1) LAYM (.inl (some (.inl q.1))) q.2 63 [some (.inr 0), some (.inl x1), some (.inl x2), some (.inl x3), some (.inl x4), some (.inl (b2i y)), none] [] σ) ?_
      rintro ⟨x5, x6⟩ w h hK
      replace h : L_X11_seq_11 x1 x2 x3 x4 σ x5 x6 = some w := h
      show Go l m_X11_seq (d + 1) LAYM (.inl (some (.inl q.1))) q.2 11 [some (.inr 0), some (.inl x1), some (.inl x2), some (.inl x3), some (.inl x4), some (.inl (b2i x5)), some (.inl x6)] [] σ
      unfold L_X11_seq_11 at h
      have hB_X11_seq_55 : ∀ (x6 : Int) (y0 : Bool), B_X11_seq_55 x6 y0 σ = some w → Go l m_X11_seq (d + 1) LAYM (.inl (some (.inl q.1))) q.2 55 [some (.inr 0), some (.inl x1), some (.inl x2), some (.inl x3), some (.inl x4), none, some (.inl x6)] [.inl (b2i y0)] σ := by
        intro x6 y0 h
        unfold B_X11_seq_55 at h
        refine go_ops ok_X11_seq_55_2 (L' := [some (.inr 0), some (.inl x1), some (.inl x2), some (.inl x3), some (.inl x4), some (.inl (b2i y0)), some (.inl (wrap (x6 + 1)))]) (st' := []) (σ1 := σ) rfl ?_
        refine go_goto dc_X11_seq_60 (by rfl) ?_
        cases h
        exact hK
      have hB_X11_seq_54 : ∀ (x6 : Int), B_X11_seq_54 x6 σ = some w → Go l m_X11_seq (d + 1) LAYM (.inl (some (.inl q.1))) q.2 54 [some (.inr 0), some (.inl x1), some (.inl x2), some (.inl x3), some (.inl x4), none, some (.inl x6)] [] σ := by
        intro x6 h
        unfold B_X11_seq_54 at h
        refine go_ops ok_X11_seq_54_1 (L' := [some (.inr 0), some (.inl x1), some (.inl x2), some (.inl x3), some (.inl x4), none, some (.inl x6)]) (st' := [.inl 0]) (σ1 := σ) rfl ?_
        exact hB_X11_seq_55 x6 false h
      have hB_X11_seq_44 : ∀ (x6 : Int) (y0 : Int) (y1 : Bool) (y2 : Int), B_X11_seq_44 x6 y0 y1 y2 σ = some w → Go l m_X11_seq (d + 1) LAYM (.inl (some (.inl q.1))) q.2 44 [some (.inr 0), some (.inl x1), some (.inl x2), some (.inl x3), some (.inl x4), none, some (.inl x6)] [.inl y0, .inl (b2i y1), .inl y2] σ := by
        intro x6 y0 y1 y2 h
        unfold B_X11_seq_44 at h
        refine go_S (M1 := m_X11_in) (as := [.inl y2, .inl (b2i y1), .inl y0]) (st := []) dc_X11_seq_44 ln_11_171 sm_X11_in mk_X11_in rfl (Nat.le_of_ble_eq_true rfl) (Nat.le_refl _) (v := (some (.inl (b2i (F_X11_in y2 (b2i y1) y0))))) (σ1 := σ) (lk_X11_in l d (by omega) y2 (b2i y1) y0 σ _ rfl) _ rfl ?_
        refine go_ifb_eq dc_X11_seq_47 (by rfl) (fun hc => ?_) (fun hc => ?_)
        · replace h := (if_neg hc).symm.trans h
          exact hB_X11_seq_54 x6 h
        · replace h := (if_pos hc).symm.trans h
          refine go_ops ok_X11_seq_50_1 (L' := [some (.inr 0), some (.inl x1), some (.inl x2), some (.inl x3), some (.inl x4), none, some (.inl x6)]) (st' := [.inl 1]) (σ1 := σ) rfl ?_
          refine go_goto dc_X11_seq_51 (by rfl) ?_
          exact hB_X11_seq_55 x6 true h
      refine go_ops ok_X11_seq_11_2 (L' := [some (.inr 0), some (.inl x1), some (.inl x2), some (.inl x3), some (.inl x4), some (.inl (b2i x5)), some (.inl x6)]) (st' := [.inl 3, .inl x6]) (σ1 := σ) rfl ?_
      refine go_icmp_ge dc_X11_seq_14 (by rfl) (fun hc => ?_) (fun hc => ?_)
      · replace h := (if_pos hc).symm.trans h
        cases h
        refine go_wk (L' := [some (.inr 0), some (.inl x1), some (.inl x2), some (.inl x3), some (.inl x4), some (.inl (b2i x5)), none]) ⟨rfl, rfl, rfl, rfl, rfl, rfl, trivial⟩ ?_
        exact hK
      · replace h := (if_neg hc).symm.trans h
        refine go_ops ok_X11_seq_17_1 (L' := [some (.inr 0), some (.inl x1), some (.inl x2), some (.inl x3), some (.inl x4), some (.inl (b2i x5)), some (.inl x6)]) (st' := [.inl (b2i x5)]) (σ1 := σ) rfl ?_
        refine go_ifb_eq dc_X11_seq_19 (by rfl) (fun hc => ?_) (fun hc => ?_)
        · replace h := (if_neg hc).symm.trans h
          refine go_wk (L' := [some (.inr 0), some (.inl x1), some (.inl x2), some (.inl x3), some (.inl x4), none, some (.inl x6)]) ⟨rfl, rfl, rfl, rfl, rfl, rfl, trivial⟩ ?_
          exact hB_X11_seq_54 x6 h
        · replace h := (if_pos hc).symm.trans h
          refine go_ops ok_X11_seq_22_4 (L' := [some (.inr 0), some (.inl x1), some (.inl x2), some (.inl x3), some (.inl x4), some (.inl (b2i x5)), some (.inl x6)]) (st' := [.inl x6, .inl x4, .inl x3, .inl x2]) (σ1 := σ) rfl ?_
          refine go_S (M1 := m_X11_pick) (as := [.inl x2, .inl x3, .inl x4, .inl x6]) (st := []) dc_X11_seq_28 ln_11_175 sm_X11_pick mk_X11_pick rfl (Nat.le_of_ble_eq_true rfl) (Nat.le_refl _) (v := (some (.inl (F_X11_pick x2 x3 x4 x6)))) (σ1 := σ) (lk_X11_pick l d (by omega) x2 x3 x4 x6 σ _ rfl) _ rfl ?_
          refine go_ops ok_X11_seq_31_3 (L' := [some (.inr 0), some (.inl x1), some (.inl x2), some (.inl x3), some (.inl x4), some (.inl (b2i x5)), some (.inl x6)]) (st' := [.inl x1, .inl x6, .inl 0, .inl (F_X11_pick x2 x3 x4 x6)]) (σ1 := σ) rfl ?_
          refine go_icmp_ge dc_X11_seq_35 (by rfl) (fun hc => ?_) (fun hc => ?_)
          · replace h := (if_pos hc).symm.trans h
            refine go_ops ok_X11_seq_43_1 (L' := [some (.inr 0), some (.inl x1), some (.inl x2), some (.inl x3), some (.inl x4), some (.inl (b2i x5)), some (.inl x6)]) (st' := [.inl 0, .inl 0, .inl (F_X11_pick x2 x3 x4 x6)]) (σ1 := σ) rfl ?_
            refine go_wk (L' := [some (.inr 0), some (.inl x1), some (.inl x2), some (.inl x3), some (.inl x4), none, some (.inl x6)]) ⟨rfl, rfl, rfl, rfl, rfl, rfl, trivial⟩ ?_
            exact hB_X11_seq_44 x6 0 false (F_X11_pick x2 x3 x4 x6) h
          · replace h := (if_neg hc).symm.trans h
            refine go_ops ok_X11_seq_38_1 (L' := [some (.inr 0), some (.inl x1), some (.inl x2), some (.inl x3), some (.inl x4), some (.inl (b2i x5)), some (.inl x6)]) (st' := [.inl 9, .inl 0, .inl (F_X11_pick x2 x3 x4 x6)]) (σ1 := σ) rfl ?_
            refine go_goto dc_X11_seq_40 (by rfl) ?_
            refine go_wk (L' := [some (.inr 0), some (.inl x1), some (.inl x2), some (.inl x3), some (.inl x4), none, some (.inl x6)]) ⟨rfl, rfl, rfl, rfl, rfl, rfl, trivial⟩ ?_
            exact hB_X11_seq_44 x6 9 false (F_X11_pick x2 x3 x4 x6) h
    have hB_X11_seq_87 : ∀ (x1 : Int) (x2 : Int) (x3 : Int) (x4 : Int) (y0 : Int) (σ : Sg), B_X11_seq_87 x1 x2 x3 x4 y0 σ = some q → Go l m_X11_seq (d + 1) LAYM (.inl (some (.inl q.1))) q.2 87 [some (.inr 0), some (.inl x1), some (.inl x2), some (.inl x3), some (.inl x4), none, none] [.inl y0, .inr 0] σ := by
      intro x1 x2 x3 x4 y0 σ h
      unfold B_X11_seq_87 at h
      obtain ⟨q5, e6, h⟩ := bnd_inv h
      refine go_V (M1 := m_X11_refused) (as := [.inl y0]) (st := []) (k := 0) (ci := 11) dc_X11_seq_87 ln_11_183 im_X11_refused (by decide) rfl rfl mk_X11_refused rfl (Nat.le_of_ble_eq_true rfl) (Nat.le_refl _) (v := (some (.inl (b2i q5.1)))) (σ1 := q5.2) (lk_X11_refused l d (by omega) y0 σ q5 e6.symm) _ rfl ?_
      refine go_ifb_eq dc_X11_seq_90 (by rfl) (fun hc => ?_) (fun hc => ?_)
      · replace h := (if_neg hc).symm.trans h
        refine go_ops ok_X11_seq_95_15 (L' := [some (.inr 0), some (.inl x1), some (.inl x2), some (.inl x3), some (.inl x4), none, none]) (st' := [.inl (wrap ((wrap ((wrap ((wrap (3 * x1)) + x2)) + x3)) + x4)), .inl x4, .inl x3, .inl x2, .inl x1, .inl 5, .inr 0]) (σ1 := q5.2) rfl ?_
        obtain ⟨q7, e8, h⟩ := bind_inv h
        refine go_V (M1 := m_X11_value) (as := [.inl 5, .inl x1, .inl x2, .inl x3, .inl x4, .inl (wrap ((wrap ((wrap ((wrap (3 * x1)) + x2)) + x3)) + x4))]) (st := []) (k := 0) (ci := 11) dc_X11_seq_112 ln_11_189 im_X11_value (by decide) rfl rfl mk_X11_value rfl (Nat.le_of_ble_eq_true rfl) (Nat.le_refl _) (v := (some (.inl q7.1))) (σ1 := q7.2) (lk_X11_value l d (by omega) 5 x1 x2 x3 x4 (wrap ((wrap ((wrap ((wrap (3 * x1)) + x2)) + x3)) + x4)) q5.2 q7 e8) _ rfl ?_
        have h9 := Option.some.inj h
        subst h9
        exact go_iret dc_X11_seq_115 rfl
      · replace h := (if_pos hc).symm.trans h
        refine go_ops ok_X11_seq_93_1 (L' := [some (.inr 0), some (.inl x1), some (.inl x2), some (.inl x3), some (.inl x4), none, none]) (st' := [.inl 0]) (σ1 := q5.2) rfl ?_
        have h9 := Option.some.inj h
        subst h9
        exact go_iret dc_X11_seq_94 rfl
    refine go_ops ok_X11_seq_0_3 (L' := [some (.inr 0), some (.inl a1), some (.inl a2), some (.inl a3), some (.inl a4), none, none]) (st' := [.inl 3, .inl 0, .inl a1]) (σ1 := σ) rfl ?_
    refine go_S (M1 := m_X11_in) (as := [.inl a1, .inl 0, .inl 3]) (st := []) dc_X11_seq_3 ln_11_171 sm_X11_in mk_X11_in rfl (Nat.le_of_ble_eq_true rfl) (Nat.le_refl _) (v := (some (.inl (b2i (F_X11_in a1 0 3))))) (σ1 := σ) (lk_X11_in l d (by omega) a1 0 3 σ _ rfl) _ rfl ?_
    obtain ⟨v1, e2, h⟩ := bnd_inv h
    refine go_ops ok_X11_seq_6_3 (L' := [some (.inr 0), some (.inl a1), some (.inl a2), some (.inl a3), some (.inl a4), some (.inl (b2i v1)), some (.inl 0)]) (st' := []) (σ1 := σ) (by subst e2; rfl) ?_
    obtain ⟨y3, e4, h⟩ := bind_inv h
    refine hL_X11_seq_11 a1 a2 a3 a4 σ 4 (v1, 0) y3 e4 ?_
    show Go l m_X11_seq (d + 1) LAYM (.inl (some (.inl q.1))) q.2 63 [some (.inr 0), some (.inl a1), some (.inl a2), some (.inl a3), some (.inl a4), some (.inl (b2i y3)), none] [] σ
    refine go_ops ok_X11_seq_63_2 (L' := [some (.inr 0), some (.inl a1), some (.inl a2), some (.inl a3), some (.inl a4), some (.inl (b2i y3)), none]) (st' := [.inl (b2i y3), .inr 0]) (σ1 := σ) rfl ?_
    refine go_ifb_ne dc_X11_seq_66 (by rfl) (fun hc => ?_) (fun hc => ?_)
    · replace h := (if_pos hc).symm.trans h
      refine go_ops ok_X11_seq_73_3 (L' := [some (.inr 0), some (.inl a1), some (.inl a2), some (.inl a3), some (.inl a4), some (.inl (b2i y3)), none]) (st' := [.inl 40, .inl (σ 0 4), .inr 0]) (σ1 := σ) rfl ?_
      refine go_icmp_ne dc_X11_seq_79 (by rfl) (fun hc => ?_) (fun hc => ?_)
      · replace h := (if_neg hc).symm.trans h
        refine go_ops ok_X11_seq_86_1 (L' := [some (.inr 0), some (.inl a1), some (.inl a2), some (.inl a3), some (.inl a4), some (.inl (b2i y3)), none]) (st' := [.inl 0, .inr 0]) (σ1 := σ) rfl ?_
        refine go_wk (L' := [some (.inr 0), some (.inl a1), some (.inl a2), some (.inl a3), some (.inl a4), none, none]) ⟨rfl, rfl, rfl, rfl, rfl, trivial⟩ ?_
        exact hB_X11_seq_87 a1 a2 a3 a4 0 σ h
      · replace h := (if_pos hc).symm.trans h
        refine go_ops ok_X11_seq_82_1 (L' := [some (.inr 0), some (.inl a1), some (.inl a2), some (.inl a3), some (.inl a4), some (.inl (b2i y3)), none]) (st' := [.inl 2, .inr 0]) (σ1 := σ) rfl ?_
        refine go_goto dc_X11_seq_83 (by rfl) ?_
        refine go_wk (L' := [some (.inr 0), some (.inl a1), some (.inl a2), some (.inl a3), some (.inl a4), none, none]) ⟨rfl, rfl, rfl, rfl, rfl, trivial⟩ ?_
        exact hB_X11_seq_87 a1 a2 a3 a4 2 σ h
    · replace h := (if_neg hc).symm.trans h
      refine go_ops ok_X11_seq_69_1 (L' := [some (.inr 0), some (.inl a1), some (.inl a2), some (.inl a3), some (.inl a4), some (.inl (b2i y3)), none]) (st' := [.inl 1, .inr 0]) (σ1 := σ) rfl ?_
      refine go_goto dc_X11_seq_70 (by rfl) ?_
      refine go_wk (L' := [some (.inr 0), some (.inl a1), some (.inl a2), some (.inl a3), some (.inl a4), none, none]) ⟨rfl, rfl, rfl, rfl, rfl, trivial⟩ ?_
      exact hB_X11_seq_87 a1 a2 a3 a4 1 σ h
  have hf := go_ct (as := [.inr 0, .inl a1, .inl a2, .inl a3, .inl a4]) mk_X11_seq (by rfl) (Nat.le_of_ble_eq_true rfl) key
  exact hf
theorem dc_X11_isConstructor_3 : decode m_X11_isConstructor.2.2.1 3 = .ok (.invokestatic 171, 3) := by decide +kernel
theorem dc_X11_isConstructor_6 : decode m_X11_isConstructor.2.2.1 6 = .ok (.ifCond .eq 23, 3) := by decide +kernel
theorem dc_X11_isConstructor_16 : decode m_X11_isConstructor.2.2.1 16 = .ok (.iaload, 1) := by decide +kernel
theorem dc_X11_isConstructor_19 : decode m_X11_isConstructor.2.2.1 19 = .ok (.invokestatic 171, 3) := by decide +kernel
theorem dc_X11_isConstructor_22 : decode m_X11_isConstructor.2.2.1 22 = .ok (.ifCond .eq 7, 3) := by decide +kernel
theorem dc_X11_isConstructor_26 : decode m_X11_isConstructor.2.2.1 26 = .ok (.goto 4, 3) := by decide +kernel
theorem dc_X11_isConstructor_30 : decode m_X11_isConstructor.2.2.1 30 = .ok (.ireturn, 1) := by decide +kernel
theorem ok_X11_isConstructor_0_3 : oks m_X11_isConstructor.1 m_X11_isConstructor.2.2.1 0 [(.iload_n 1, 1, (0, 0, 0)), (.iconst 0, 1, (0, 0, 0)), (.iconst 3, 1, (0, 0, 0))] = true ∧ plen 0 [(.iload_n 1, 1, (0, 0, 0)), (.iconst 0, 1, (0, 0, 0)), (.iconst 3, 1, (0, 0, 0))] = 3 := by decide +kernel
theorem ok_X11_isConstructor_9_5 : oks m_X11_isConstructor.1 m_X11_isConstructor.2.2.1 9 [(.iload_n 2, 1, (0, 0, 0)), (.iconst 0, 1, (0, 0, 0)), (.aload_n 0, 1, (0, 0, 0)), (.getfield 7, 3, (11, 1, 0)), (.iload_n 1, 1, (0, 0, 0))] = true ∧ plen 9 [(.iload_n 2, 1, (0, 0, 0)), (.iconst 0, 1, (0, 0, 0)), (.aload_n 0, 1, (0, 0, 0)), (.getfield 7, 3, (11, 1, 0)), (.iload_n 1, 1, (0, 0, 0))] = 16 := by decide +kernel
theorem ok_X11_isConstructor_17_2 : oks m_X11_isConstructor.1 m_X11_isConstructor.2.2.1 17 [(.iconst 1, 1, (0, 0, 0)), (.isub, 1, (0, 0, 0))] = true ∧ plen 17 [(.iconst 1, 1, (0, 0, 0)), (.isub, 1, (0, 0, 0))] = 19 := by decide +kernel
theorem ok_X11_isConstructor_25_1 : oks m_X11_isConstructor.1 m_X11_isConstructor.2.2.1 25 [(.iconst 1, 1, (0, 0, 0))] = true ∧ plen 25 [(.iconst 1, 1, (0, 0, 0))] = 26 := by decide +kernel
theorem ok_X11_isConstructor_29_1 : oks m_X11_isConstructor.1 m_X11_isConstructor.2.2.1 29 [(.iconst 0, 1, (0, 0, 0))] = true ∧ plen 29 [(.iconst 0, 1, (0, 0, 0))] = 30 := by decide +kernel
def F_X11_isConstructor (a1 : Int) (a2 : Int) (σ : Sg) : Option Bool :=
if (F_X11_in a1 0 3) = true then
(rdn 4 σ 1 a1).bind fun v1 =>
if (F_X11_in a2 0 (wrap (v1 - 1))) = true then
some true
else
some false
else
some false
theorem lk_X11_isConstructor (l : Launch) (d : Nat) (hd : 1 ≤ d) (a1 : Int) (a2 : Int) (σ : Sg) (q : Bool) (h : F_X11_isConstructor a1 a2 σ = some q) : CT l d m_X11_isConstructor.2.1 m_X11_isConstructor.2.2.1 m_X11_isConstructor.2.2.2.1 m_X11_isConstructor.2.2.2.2 [.inr 0, .inl a1, .inl a2] (LAYM, σ) (some (.inl (b2i q))) (LAYM, σ) := by
  obtain ⟨d, rfl⟩ : ∃ e, d = e + 1 := ⟨d - 1, by omega⟩
  have key : Go l m_X11_isConstructor (d + 1) LAYM (.inl (some (.inl (b2i q)))) σ 0 [some (.inr 0), some (.inl a1), some (.inl a2)] [] σ := by
    unfold F_X11_isConstructor at h
    refine go_ops ok_X11_isConstructor_0_3 (L' := [some (.inr 0), some (.inl a1), some (.inl a2)]) (st' := [.inl 3, .inl 0, .inl a1]) (σ1 := σ) rfl ?_
    refine go_S (M1 := m_X11_in) (as := [.inl a1, .inl 0, .inl 3]) (st := []) dc_X11_isConstructor_3 ln_11_171 sm_X11_in mk_X11_in rfl (Nat.le_of_ble_eq_true rfl) (Nat.le_refl _) (v := (some (.inl (b2i (F_X11_in a1 0 3))))) (σ1 := σ) (lk_X11_in l d (by omega) a1 0 3 σ _ rfl) _ rfl ?_
    refine go_ifb_eq dc_X11_isConstructor_6 (by rfl) (fun hc => ?_) (fun hc => ?_)
    · replace h := (if_neg hc).symm.trans h
      refine go_ops ok_X11_isConstructor_29_1 (L' := [some (.inr 0), some (.inl a1), some (.inl a2)]) (st' := [.inl 0]) (σ1 := σ) rfl ?_
      have h9 := Option.some.inj h
      subst h9
      exact go_zret (x := false) dc_X11_isConstructor_30 rfl
    · replace h := (if_pos hc).symm.trans h
      refine go_ops ok_X11_isConstructor_9_5 (L' := [some (.inr 0), some (.inl a1), some (.inl a2)]) (st' := [.inl a1, .inr 1, .inl 0, .inl a2]) (σ1 := σ) rfl ?_
      obtain ⟨v1, e2, h⟩ := bind_inv h
      refine go_rd (k := 1) dc_X11_isConstructor_16 rfl e2 ?_
      refine go_ops ok_X11_isConstructor_17_2 (L' := [some (.inr 0), some (.inl a1), some (.inl a2)]) (st' := [.inl (wrap (v1 - 1)), .inl 0, .inl a2]) (σ1 := σ) rfl ?_
      refine go_S (M1 := m_X11_in) (as := [.inl a2, .inl 0, .inl (wrap (v1 - 1))]) (st := []) dc_X11_isConstructor_19 ln_11_171 sm_X11_in mk_X11_in rfl (Nat.le_of_ble_eq_true rfl) (Nat.le_refl _) (v := (some (.inl (b2i (F_X11_in a2 0 (wrap (v1 - 1))))))) (σ1 := σ) (lk_X11_in l d (by omega) a2 0 (wrap (v1 - 1)) σ _ rfl) _ rfl ?_
      refine go_ifb_eq dc_X11_isConstructor_22 (by rfl) (fun hc => ?_) (fun hc => ?_)
      · replace h := (if_neg hc).symm.trans h
        refine go_ops ok_X11_isConstructor_29_1 (L' := [some (.inr 0), some (.inl a1), some (.inl a2)]) (st' := [.inl 0]) (σ1 := σ) rfl ?_
        have h9 := Option.some.inj h
        subst h9
        exact go_zret (x := false) dc_X11_isConstructor_30 rfl
      · replace h := (if_pos hc).symm.trans h
        refine go_ops ok_X11_isConstructor_25_1 (L' := [some (.inr 0), some (.inl a1), some (.inl a2)]) (st' := [.inl 1]) (σ1 := σ) rfl ?_
        refine go_goto dc_X11_isConstructor_26 (by rfl) ?_
        have h9 := Option.some.inj h
        subst h9
        exact go_zret (x := true) dc_X11_isConstructor_30 rfl
  have hf := go_ct (as := [.inr 0, .inl a1, .inl a2]) mk_X11_isConstructor (by rfl) (Nat.le_of_ble_eq_true rfl) key
  exact hf
theorem dc_X11_data_3 : decode m_X11_data.2.2.1 3 = .ok (.invokevirtual 193, 3) := by decide +kernel
theorem dc_X11_data_13 : decode m_X11_data.2.2.1 13 = .ok (.ifCond .eq 11, 3) := by decide +kernel
theorem dc_X11_data_21 : decode m_X11_data.2.2.1 21 = .ok (.goto 4, 3) := by decide +kernel
theorem dc_X11_data_33 : decode m_X11_data.2.2.1 33 = .ok (.if_icmp .ge 125, 3) := by decide +kernel
theorem dc_X11_data_38 : decode m_X11_data.2.2.1 38 = .ok (.ifCond .eq 120, 3) := by decide +kernel
theorem dc_X11_data_48 : decode m_X11_data.2.2.1 48 = .ok (.invokestatic 175, 3) := by decide +kernel
theorem dc_X11_data_61 : decode m_X11_data.2.2.1 61 = .ok (.iaload, 1) := by decide +kernel
theorem dc_X11_data_62 : decode m_X11_data.2.2.1 62 = .ok (.if_icmp .ge 7, 3) := by decide +kernel
theorem dc_X11_data_66 : decode m_X11_data.2.2.1 66 = .ok (.goto 4, 3) := by decide +kernel
theorem dc_X11_data_74 : decode m_X11_data.2.2.1 74 = .ok (.ifCond .eq 18, 3) := by decide +kernel
theorem dc_X11_data_86 : decode m_X11_data.2.2.1 86 = .ok (.invokestatic 171, 3) := by decide +kernel
theorem dc_X11_data_89 : decode m_X11_data.2.2.1 89 = .ok (.ifCond .eq 7, 3) := by decide +kernel
theorem dc_X11_data_93 : decode m_X11_data.2.2.1 93 = .ok (.goto 4, 3) := by decide +kernel
theorem dc_X11_data_101 : decode m_X11_data.2.2.1 101 = .ok (.ifCond .eq 48, 3) := by decide +kernel
theorem dc_X11_data_106 : decode m_X11_data.2.2.1 106 = .ok (.ifCond .eq 33, 3) := by decide +kernel
theorem dc_X11_data_111 : decode m_X11_data.2.2.1 111 = .ok (.ifCond .eq 38, 3) := by decide +kernel
theorem dc_X11_data_120 : decode m_X11_data.2.2.1 120 = .ok (.iaload, 1) := by decide +kernel
theorem dc_X11_data_132 : decode m_X11_data.2.2.1 132 = .ok (.iaload, 1) := by decide +kernel
theorem dc_X11_data_133 : decode m_X11_data.2.2.1 133 = .ok (.if_icmp .ne 16, 3) := by decide +kernel
theorem dc_X11_data_136 : decode m_X11_data.2.2.1 136 = .ok (.goto 9, 3) := by decide +kernel
theorem dc_X11_data_142 : decode m_X11_data.2.2.1 142 = .ok (.if_icmp .ne 7, 3) := by decide +kernel
theorem dc_X11_data_146 : decode m_X11_data.2.2.1 146 = .ok (.goto 4, 3) := by decide +kernel
theorem dc_X11_data_155 : decode m_X11_data.2.2.1 155 = .ok (.goto (-125), 3) := by decide +kernel
theorem dc_X11_data_161 : decode m_X11_data.2.2.1 161 = .ok (.ifCond .ne 7, 3) := by decide +kernel
theorem dc_X11_data_165 : decode m_X11_data.2.2.1 165 = .ok (.goto 26, 3) := by decide +kernel
theorem dc_X11_data_170 : decode m_X11_data.2.2.1 170 = .ok (.ifCond .ne 7, 3) := by decide +kernel
theorem dc_X11_data_174 : decode m_X11_data.2.2.1 174 = .ok (.goto 17, 3) := by decide +kernel
theorem dc_X11_data_183 : decode m_X11_data.2.2.1 183 = .ok (.if_icmp .ne 7, 3) := by decide +kernel
theorem dc_X11_data_187 : decode m_X11_data.2.2.1 187 = .ok (.goto 4, 3) := by decide +kernel
theorem dc_X11_data_191 : decode m_X11_data.2.2.1 191 = .ok (.invokevirtual 183, 3) := by decide +kernel
theorem dc_X11_data_194 : decode m_X11_data.2.2.1 194 = .ok (.ifCond .eq 5, 3) := by decide +kernel
theorem dc_X11_data_198 : decode m_X11_data.2.2.1 198 = .ok (.ireturn, 1) := by decide +kernel
theorem dc_X11_data_215 : decode m_X11_data.2.2.1 215 = .ok (.iaload, 1) := by decide +kernel
theorem dc_X11_data_216 : decode m_X11_data.2.2.1 216 = .ok (.if_icmp .ge 34, 3) := by decide +kernel
theorem dc_X11_data_236 : decode m_X11_data.2.2.1 236 = .ok (.invokestatic 175, 3) := by decide +kernel
theorem dc_X11_data_239 : decode m_X11_data.2.2.1 239 = .ok (.iaload, 1) := by decide +kernel
theorem dc_X11_data_247 : decode m_X11_data.2.2.1 247 = .ok (.goto (-40), 3) := by decide +kernel
theorem dc_X11_data_260 : decode m_X11_data.2.2.1 260 = .ok (.invokevirtual 189, 3) := by decide +kernel
theorem dc_X11_data_263 : decode m_X11_data.2.2.1 263 = .ok (.ireturn, 1) := by decide +kernel
theorem ok_X11_data_0_3 : oks m_X11_data.1 m_X11_data.2.2.1 0 [(.aload_n 0, 1, (0, 0, 0)), (.iload_n 1, 1, (0, 0, 0)), (.iload_n 2, 1, (0, 0, 0))] = true ∧ plen 0 [(.aload_n 0, 1, (0, 0, 0)), (.iload_n 1, 1, (0, 0, 0)), (.iload_n 2, 1, (0, 0, 0))] = 3 := by decide +kernel
theorem ok_X11_data_6_4 : oks m_X11_data.1 m_X11_data.2.2.1 6 [(.istore 6, 2, (0, 0, 0)), (.iconst 1, 1, (0, 0, 0)), (.istore 7, 2, (0, 0, 0)), (.iload 6, 2, (0, 0, 0))] = true ∧ plen 6 [(.istore 6, 2, (0, 0, 0)), (.iconst 1, 1, (0, 0, 0)), (.istore 7, 2, (0, 0, 0)), (.iload 6, 2, (0, 0, 0))] = 13 := by decide +kernel
theorem ok_X11_data_16_5 : oks m_X11_data.1 m_X11_data.2.2.1 16 [(.iconst 4, 1, (0, 0, 0)), (.iload_n 1, 1, (0, 0, 0)), (.imul, 1, (0, 0, 0)), (.iload_n 2, 1, (0, 0, 0)), (.iadd, 1, (0, 0, 0))] = true ∧ plen 16 [(.iconst 4, 1, (0, 0, 0)), (.iload_n 1, 1, (0, 0, 0)), (.imul, 1, (0, 0, 0)), (.iload_n 2, 1, (0, 0, 0)), (.iadd, 1, (0, 0, 0))] = 21 := by decide +kernel
theorem ok_X11_data_24_1 : oks m_X11_data.1 m_X11_data.2.2.1 24 [(.iconst 0, 1, (0, 0, 0))] = true ∧ plen 24 [(.iconst 0, 1, (0, 0, 0))] = 25 := by decide +kernel
theorem ok_X11_data_25_3 : oks m_X11_data.1 m_X11_data.2.2.1 25 [(.istore 8, 2, (0, 0, 0)), (.iconst 0, 1, (0, 0, 0)), (.istore 9, 2, (0, 0, 0))] = true ∧ plen 25 [(.istore 8, 2, (0, 0, 0)), (.iconst 0, 1, (0, 0, 0)), (.istore 9, 2, (0, 0, 0))] = 30 := by decide +kernel
theorem ok_X11_data_30_2 : oks m_X11_data.1 m_X11_data.2.2.1 30 [(.iload 9, 2, (0, 0, 0)), (.iconst 3, 1, (0, 0, 0))] = true ∧ plen 30 [(.iload 9, 2, (0, 0, 0)), (.iconst 3, 1, (0, 0, 0))] = 33 := by decide +kernel
theorem ok_X11_data_36_1 : oks m_X11_data.1 m_X11_data.2.2.1 36 [(.iload 6, 2, (0, 0, 0))] = true ∧ plen 36 [(.iload 6, 2, (0, 0, 0))] = 38 := by decide +kernel
theorem ok_X11_data_41_4 : oks m_X11_data.1 m_X11_data.2.2.1 41 [(.iload_n 3, 1, (0, 0, 0)), (.iload 4, 2, (0, 0, 0)), (.iload 5, 2, (0, 0, 0)), (.iload 9, 2, (0, 0, 0))] = true ∧ plen 41 [(.iload_n 3, 1, (0, 0, 0)), (.iload 4, 2, (0, 0, 0)), (.iload 5, 2, (0, 0, 0)), (.iload 9, 2, (0, 0, 0))] = 48 := by decide +kernel
theorem ok_X11_data_51_5 : oks m_X11_data.1 m_X11_data.2.2.1 51 [(.istore 10, 2, (0, 0, 0)), (.iload 9, 2, (0, 0, 0)), (.aload_n 0, 1, (0, 0, 0)), (.getfield 13, 3, (11, 2, 0)), (.iload 8, 2, (0, 0, 0))] = true ∧ plen 51 [(.istore 10, 2, (0, 0, 0)), (.iload 9, 2, (0, 0, 0)), (.aload_n 0, 1, (0, 0, 0)), (.getfield 13, 3, (11, 2, 0)), (.iload 8, 2, (0, 0, 0))] = 61 := by decide +kernel
theorem ok_X11_data_65_1 : oks m_X11_data.1 m_X11_data.2.2.1 65 [(.iconst 1, 1, (0, 0, 0))] = true ∧ plen 65 [(.iconst 1, 1, (0, 0, 0))] = 66 := by decide +kernel
theorem ok_X11_data_69_1 : oks m_X11_data.1 m_X11_data.2.2.1 69 [(.iconst 0, 1, (0, 0, 0))] = true ∧ plen 69 [(.iconst 0, 1, (0, 0, 0))] = 70 := by decide +kernel
theorem ok_X11_data_70_2 : oks m_X11_data.1 m_X11_data.2.2.1 70 [(.istore 11, 2, (0, 0, 0)), (.iload 11, 2, (0, 0, 0))] = true ∧ plen 70 [(.istore 11, 2, (0, 0, 0)), (.iload 11, 2, (0, 0, 0))] = 74 := by decide +kernel
theorem ok_X11_data_77_6 : oks m_X11_data.1 m_X11_data.2.2.1 77 [(.iload 10, 2, (0, 0, 0)), (.iconst 0, 1, (0, 0, 0)), (.aload_n 0, 1, (0, 0, 0)), (.getfield 186, 3, (11, 4, 0)), (.iconst 1, 1, (0, 0, 0)), (.isub, 1, (0, 0, 0))] = true ∧ plen 77 [(.iload 10, 2, (0, 0, 0)), (.iconst 0, 1, (0, 0, 0)), (.aload_n 0, 1, (0, 0, 0)), (.getfield 186, 3, (11, 4, 0)), (.iconst 1, 1, (0, 0, 0)), (.isub, 1, (0, 0, 0))] = 86 := by decide +kernel
theorem ok_X11_data_92_1 : oks m_X11_data.1 m_X11_data.2.2.1 92 [(.iconst 1, 1, (0, 0, 0))] = true ∧ plen 92 [(.iconst 1, 1, (0, 0, 0))] = 93 := by decide +kernel
theorem ok_X11_data_96_1 : oks m_X11_data.1 m_X11_data.2.2.1 96 [(.iconst 0, 1, (0, 0, 0))] = true ∧ plen 96 [(.iconst 0, 1, (0, 0, 0))] = 97 := by decide +kernel
theorem ok_X11_data_97_2 : oks m_X11_data.1 m_X11_data.2.2.1 97 [(.istore 6, 2, (0, 0, 0)), (.iload 7, 2, (0, 0, 0))] = true ∧ plen 97 [(.istore 6, 2, (0, 0, 0)), (.iload 7, 2, (0, 0, 0))] = 101 := by decide +kernel
theorem ok_X11_data_104_1 : oks m_X11_data.1 m_X11_data.2.2.1 104 [(.iload 11, 2, (0, 0, 0))] = true ∧ plen 104 [(.iload 11, 2, (0, 0, 0))] = 106 := by decide +kernel
theorem ok_X11_data_109_1 : oks m_X11_data.1 m_X11_data.2.2.1 109 [(.iload 6, 2, (0, 0, 0))] = true ∧ plen 109 [(.iload 6, 2, (0, 0, 0))] = 111 := by decide +kernel
theorem ok_X11_data_114_3 : oks m_X11_data.1 m_X11_data.2.2.1 114 [(.aload_n 0, 1, (0, 0, 0)), (.getfield 19, 3, (11, 5, 0)), (.iload 10, 2, (0, 0, 0))] = true ∧ plen 114 [(.aload_n 0, 1, (0, 0, 0)), (.getfield 19, 3, (11, 5, 0)), (.iload 10, 2, (0, 0, 0))] = 120 := by decide +kernel
theorem ok_X11_data_121_7 : oks m_X11_data.1 m_X11_data.2.2.1 121 [(.aload_n 0, 1, (0, 0, 0)), (.getfield 16, 3, (11, 3, 0)), (.iconst 3, 1, (0, 0, 0)), (.iload 8, 2, (0, 0, 0)), (.imul, 1, (0, 0, 0)), (.iload 9, 2, (0, 0, 0)), (.iadd, 1, (0, 0, 0))] = true ∧ plen 121 [(.aload_n 0, 1, (0, 0, 0)), (.getfield 16, 3, (11, 3, 0)), (.iconst 3, 1, (0, 0, 0)), (.iload 8, 2, (0, 0, 0)), (.imul, 1, (0, 0, 0)), (.iload 9, 2, (0, 0, 0)), (.iadd, 1, (0, 0, 0))] = 132 := by decide +kernel
theorem ok_X11_data_139_2 : oks m_X11_data.1 m_X11_data.2.2.1 139 [(.iload 10, 2, (0, 0, 0)), (.iconst (-1), 1, (0, 0, 0))] = true ∧ plen 139 [(.iload 10, 2, (0, 0, 0)), (.iconst (-1), 1, (0, 0, 0))] = 142 := by decide +kernel
theorem ok_X11_data_145_1 : oks m_X11_data.1 m_X11_data.2.2.1 145 [(.iconst 1, 1, (0, 0, 0))] = true ∧ plen 145 [(.iconst 1, 1, (0, 0, 0))] = 146 := by decide +kernel
theorem ok_X11_data_149_1 : oks m_X11_data.1 m_X11_data.2.2.1 149 [(.iconst 0, 1, (0, 0, 0))] = true ∧ plen 149 [(.iconst 0, 1, (0, 0, 0))] = 150 := by decide +kernel
theorem ok_X11_data_150_2 : oks m_X11_data.1 m_X11_data.2.2.1 150 [(.istore 7, 2, (0, 0, 0)), (.iinc 9 1, 3, (0, 0, 0))] = true ∧ plen 150 [(.istore 7, 2, (0, 0, 0)), (.iinc 9 1, 3, (0, 0, 0))] = 155 := by decide +kernel
theorem ok_X11_data_158_2 : oks m_X11_data.1 m_X11_data.2.2.1 158 [(.aload_n 0, 1, (0, 0, 0)), (.iload 6, 2, (0, 0, 0))] = true ∧ plen 158 [(.aload_n 0, 1, (0, 0, 0)), (.iload 6, 2, (0, 0, 0))] = 161 := by decide +kernel
theorem ok_X11_data_164_1 : oks m_X11_data.1 m_X11_data.2.2.1 164 [(.iconst 1, 1, (0, 0, 0))] = true ∧ plen 164 [(.iconst 1, 1, (0, 0, 0))] = 165 := by decide +kernel
theorem ok_X11_data_168_1 : oks m_X11_data.1 m_X11_data.2.2.1 168 [(.iload 7, 2, (0, 0, 0))] = true ∧ plen 168 [(.iload 7, 2, (0, 0, 0))] = 170 := by decide +kernel
theorem ok_X11_data_173_1 : oks m_X11_data.1 m_X11_data.2.2.1 173 [(.iconst 2, 1, (0, 0, 0))] = true ∧ plen 173 [(.iconst 2, 1, (0, 0, 0))] = 174 := by decide +kernel
theorem ok_X11_data_177_3 : oks m_X11_data.1 m_X11_data.2.2.1 177 [(.aload_n 0, 1, (0, 0, 0)), (.getfield 186, 3, (11, 4, 0)), (.bipush 40, 2, (0, 0, 0))] = true ∧ plen 177 [(.aload_n 0, 1, (0, 0, 0)), (.getfield 186, 3, (11, 4, 0)), (.bipush 40, 2, (0, 0, 0))] = 183 := by decide +kernel
theorem ok_X11_data_186_1 : oks m_X11_data.1 m_X11_data.2.2.1 186 [(.iconst 3, 1, (0, 0, 0))] = true ∧ plen 186 [(.iconst 3, 1, (0, 0, 0))] = 187 := by decide +kernel
theorem ok_X11_data_190_1 : oks m_X11_data.1 m_X11_data.2.2.1 190 [(.iconst 0, 1, (0, 0, 0))] = true ∧ plen 190 [(.iconst 0, 1, (0, 0, 0))] = 191 := by decide +kernel
theorem ok_X11_data_197_1 : oks m_X11_data.1 m_X11_data.2.2.1 197 [(.iconst 0, 1, (0, 0, 0))] = true ∧ plen 197 [(.iconst 0, 1, (0, 0, 0))] = 198 := by decide +kernel
theorem ok_X11_data_199_6 : oks m_X11_data.1 m_X11_data.2.2.1 199 [(.iconst 5, 1, (0, 0, 0)), (.iload_n 2, 1, (0, 0, 0)), (.imul, 1, (0, 0, 0)), (.istore 9, 2, (0, 0, 0)), (.iconst 0, 1, (0, 0, 0)), (.istore 10, 2, (0, 0, 0))] = true ∧ plen 199 [(.iconst 5, 1, (0, 0, 0)), (.iload_n 2, 1, (0, 0, 0)), (.imul, 1, (0, 0, 0)), (.istore 9, 2, (0, 0, 0)), (.iconst 0, 1, (0, 0, 0)), (.istore 10, 2, (0, 0, 0))] = 207 := by decide +kernel
theorem ok_X11_data_207_4 : oks m_X11_data.1 m_X11_data.2.2.1 207 [(.iload 10, 2, (0, 0, 0)), (.aload_n 0, 1, (0, 0, 0)), (.getfield 13, 3, (11, 2, 0)), (.iload 8, 2, (0, 0, 0))] = true ∧ plen 207 [(.iload 10, 2, (0, 0, 0)), (.aload_n 0, 1, (0, 0, 0)), (.getfield 13, 3, (11, 2, 0)), (.iload 8, 2, (0, 0, 0))] = 215 := by decide +kernel
theorem ok_X11_data_219_10 : oks m_X11_data.1 m_X11_data.2.2.1 219 [(.iload 9, 2, (0, 0, 0)), (.iload 10, 2, (0, 0, 0)), (.iconst 1, 1, (0, 0, 0)), (.iadd, 1, (0, 0, 0)), (.aload_n 0, 1, (0, 0, 0)), (.getfield 28, 3, (11, 8, 0)), (.iload_n 3, 1, (0, 0, 0)), (.iload 4, 2, (0, 0, 0)), (.iload 5, 2, (0, 0, 0)), (.iload 10, 2, (0, 0, 0))] = true ∧ plen 219 [(.iload 9, 2, (0, 0, 0)), (.iload 10, 2, (0, 0, 0)), (.iconst 1, 1, (0, 0, 0)), (.iadd, 1, (0, 0, 0)), (.aload_n 0, 1, (0, 0, 0)), (.getfield 28, 3, (11, 8, 0)), (.iload_n 3, 1, (0, 0, 0)), (.iload 4, 2, (0, 0, 0)), (.iload 5, 2, (0, 0, 0)), (.iload 10, 2, (0, 0, 0))] = 236 := by decide +kernel
theorem ok_X11_data_240_4 : oks m_X11_data.1 m_X11_data.2.2.1 240 [(.imul, 1, (0, 0, 0)), (.iadd, 1, (0, 0, 0)), (.istore 9, 2, (0, 0, 0)), (.iinc 10 1, 3, (0, 0, 0))] = true ∧ plen 240 [(.imul, 1, (0, 0, 0)), (.iadd, 1, (0, 0, 0)), (.istore 9, 2, (0, 0, 0)), (.iinc 10 1, 3, (0, 0, 0))] = 247 := by decide +kernel
theorem ok_X11_data_250_7 : oks m_X11_data.1 m_X11_data.2.2.1 250 [(.aload_n 0, 1, (0, 0, 0)), (.iload_n 1, 1, (0, 0, 0)), (.iload_n 2, 1, (0, 0, 0)), (.iload_n 3, 1, (0, 0, 0)), (.iload 4, 2, (0, 0, 0)), (.iload 5, 2, (0, 0, 0)), (.iload 9, 2, (0, 0, 0))] = true ∧ plen 250 [(.aload_n 0, 1, (0, 0, 0)), (.iload_n 1, 1, (0, 0, 0)), (.iload_n 2, 1, (0, 0, 0)), (.iload_n 3, 1, (0, 0, 0)), (.iload 4, 2, (0, 0, 0)), (.iload 5, 2, (0, 0, 0)), (.iload 9, 2, (0, 0, 0))] = 260 := by decide +kernel
def B_X11_data_150 (x6 : Bool) (x9 : Int) (y0 : Bool) (σ : Sg) : Option ((Bool × Bool × Int) ⊕ (Bool × Bool)) :=
some (.inl (x6, y0, wrap (x9 + 1)))
def B_X11_data_149 (x6 : Bool) (x9 : Int) (σ : Sg) : Option ((Bool × Bool × Int) ⊕ (Bool × Bool)) :=
B_X11_data_150 x6 x9 false σ
def B_X11_data_145 (x6 : Bool) (x9 : Int) (σ : Sg) : Option ((Bool × Bool × Int) ⊕ (Bool × Bool)) :=
B_X11_data_150 x6 x9 true σ
def B_X11_data_97 (x7 : Bool) (x8 : Int) (x9 : Int) (x10 : Int) (x11 : Bool) (y0 : Bool) (σ : Sg) : Option ((Bool × Bool × Int) ⊕ (Bool × Bool)) :=
if x7 = true then
if x11 = true then
if y0 = true then
(rdn 40 σ 4 x10).bind fun v7 =>
(rdn 48 σ 3 (wrap ((wrap (3 * x8)) + x9))).bind fun v9 =>
if v7 = v9 then
B_X11_data_145 y0 x9 σ
else
B_X11_data_149 y0 x9 σ
else
B_X11_data_149 y0 x9 σ
else
if x10 = (-1) then
B_X11_data_145 y0 x9 σ
else
B_X11_data_149 y0 x9 σ
else
B_X11_data_149 y0 x9 σ
def B_X11_data_92 (x7 : Bool) (x8 : Int) (x9 : Int) (x10 : Int) (x11 : Bool) (σ : Sg) : Option ((Bool × Bool × Int) ⊕ (Bool × Bool)) :=
B_X11_data_97 x7 x8 x9 x10 x11 true σ
def B_X11_data_70 (x7 : Bool) (x8 : Int) (x9 : Int) (x10 : Int) (y0 : Bool) (σ : Sg) : Option ((Bool × Bool × Int) ⊕ (Bool × Bool)) :=
if y0 = true then
if (F_X11_in x10 0 (wrap ((σ 0 4) - 1))) = true then
B_X11_data_92 x7 x8 x9 x10 y0 σ
else
B_X11_data_97 x7 x8 x9 x10 y0 false σ
else
B_X11_data_92 x7 x8 x9 x10 y0 σ
def L_X11_data_30 (x3 : Int) (x4 : Int) (x5 : Int) (x8 : Int) (σ : Sg) (x6 : Bool) (x7 : Bool) (x9 : Int) : Option ((Bool × Bool × Int) ⊕ (Bool × Bool)) :=
if 3 ≤ x9 then
some (.inr (x6, x7))
else
if x6 = true then
bnd (F_X11_pick x3 x4 x5 x9) fun v3 =>
(rdn 16 σ 2 x8).bind fun v5 =>
if v5 ≤ x9 then
B_X11_data_70 x7 x8 x9 v3 false σ
else
B_X11_data_70 x7 x8 x9 v3 true σ
else
some (.inr (x6, x7))
def L_X11_data_207 (x3 : Int) (x4 : Int) (x5 : Int) (x8 : Int) (σ : Sg) (x9 : Int) (x10 : Int) : Option ((Int × Int) ⊕ Int) :=
(rdn 16 σ 2 x8).bind fun v17 =>
if v17 ≤ x10 then
some (.inr x9)
else
(rdn 40 σ 7 (F_X11_pick x3 x4 x5 x10)).bind fun v19 =>
bnd (wrap (x9 + (wrap ((wrap (x10 + 1)) * v19)))) fun v21 =>
some (.inl (v21, wrap (x10 + 1)))
def B_X11_data_191 (x1 : Int) (x2 : Int) (x3 : Int) (x4 : Int) (x5 : Int) (x8 : Int) (y0 : Int) (σ : Sg) : Option (Int × Sg) :=
bnd (F_X11_refused y0 σ) fun q13 =>
if q13.1 = true then
some (0, q13.2)
else
bnd (wrap (5 * x2)) fun v15 =>
(iter (fun a : (Int × Int) => L_X11_data_207 x3 x4 x5 x8 q13.2 a.1 a.2) 3000 (v15, 0)).bind fun y23 =>
(F_X11_value x1 x2 x3 x4 x5 y23 q13.2).bind fun q25 =>
some (q25.1, q25.2)
def B_X11_data_25 (x1 : Int) (x2 : Int) (x3 : Int) (x4 : Int) (x5 : Int) (x6 : Bool) (x7 : Bool) (y0 : Int) (σ : Sg) : Option (Int × Sg) :=
(iter (fun a : (Bool × Bool × Int) => L_X11_data_30 x3 x4 x5 y0 σ a.1 a.2.1 a.2.2) 4 (x6, x7, 0)).bind fun y11 =>
if y11.1 = true then
if y11.2 = true then
if (σ 0 4) = 40 then
B_X11_data_191 x1 x2 x3 x4 x5 y0 3 σ
else
B_X11_data_191 x1 x2 x3 x4 x5 y0 0 σ
else
B_X11_data_191 x1 x2 x3 x4 x5 y0 2 σ
else
B_X11_data_191 x1 x2 x3 x4 x5 y0 1 σ
def F_X11_data (a1 : Int) (a2 : Int) (a3 : Int) (a4 : Int) (a5 : Int) (σ : Sg) : Option (Int × Sg) :=
(F_X11_isConstructor a1 a2 σ).bind fun q1 =>
if q1 = true then
B_X11_data_25 a1 a2 a3 a4 a5 q1 true (wrap ((wrap (4 * a1)) + a2)) σ
else
B_X11_data_25 a1 a2 a3 a4 a5 q1 true 0 σ
theorem lk_X11_data (l : Launch) (d : Nat) (hd : 2 ≤ d) (a1 : Int) (a2 : Int) (a3 : Int) (a4 : Int) (a5 : Int) (σ : Sg) (q : (Int × Sg)) (h : F_X11_data a1 a2 a3 a4 a5 σ = some q) : CT l d m_X11_data.2.1 m_X11_data.2.2.1 m_X11_data.2.2.2.1 m_X11_data.2.2.2.2 [.inr 0, .inl a1, .inl a2, .inl a3, .inl a4, .inl a5] (LAYM, σ) (some (.inl q.1)) (LAYM, q.2) := by
  obtain ⟨d, rfl⟩ : ∃ e, d = e + 1 := ⟨d - 1, by omega⟩
  have key : Go l m_X11_data (d + 1) LAYM (.inl (some (.inl q.1))) q.2 0 [some (.inr 0), some (.inl a1), some (.inl a2), some (.inl a3), some (.inl a4), some (.inl a5), none, none, none, none, none, none] [] σ := by
    unfold F_X11_data at h
    have hL_X11_data_30 : ∀ (x1 : Int) (x2 : Int) (x3 : Int) (x4 : Int) (x5 : Int) (x8 : Int) (σ : Sg) (n : Nat) (a : (Bool × Bool × Int)) (y : (Bool × Bool)), iter (fun a : (Bool × Bool × Int) => L_X11_data_30 x3 x4 x5 x8 σ a.1 a.2.1 a.2.2) n a = some y → (fun y : (Bool × Bool) => Go l m_X11_data (d + 1) LAYM (.inl (some (.inl q.1))) q.2 158 [some (.inr 0), some (.inl x1), some (.inl x2), some (.inl x3), some (.inl x4), some (.inl x5), some (.inl (b2i y.1)), some (.inl (b2i y.2)), some (.inl x8), none, none, none] [] σ) y → (fun a : (Bool × Bool × Int) => Go l m_X11_data (d + 1) LAYM (.inl (some (.inl q.1))) q.2 30 [some (.inr 0), some (.inl x1), some (.inl x2), some (.inl x3), some (.inl x4), some (.inl x5), some (.inl (b2i a.1)), some (.inl (b2i a.2.1)), some (.inl x8), some (.inl a.2.2), none, none] [] σ) a := by
      intro x1 x2 x3 x4 x5 x8 σ
      refine go_iter (G := fun a : (Bool × Bool × Int) => Go l m_X11_data (d + 1) LAYM (.inl (some (.inl q.1))) q.2 30 [some (.inr 0), some (.inl x1), some (.inl x2), some (.inl x3), some (.inl x4), some (.inl x5), some (.inl (b2i a.1)), some (.inl (b2i a.2.1)), some (.inl x8), some (.inl a.2.2), none, none] [] σ) (K := fun y : (Bool × Bool) => Go l m_X11_data (d + 1) LAYM (.inl (some (.inl q.1))) q.2 158 [some (.inr 0), some (.inl x1), some (.inl x2), some (.inl x3), some (.inl x4), some (.inl x5), some (.inl (b2i y.1)), some (.inl (b2i y.2)), some (.inl x8), none, none, none] [] σ) ?_
      rintro ⟨x6, x7, x9⟩ w h hK
      replace h : L_X11_data_30 x3 x4 x5 x8 σ x6 x7 x9 = some w := h
      show Go l m_X11_data (d + 1) LAYM (.inl (some (.inl q.1))) q.2 30 [some (.inr 0), some (.inl x1), some (.inl x2), some (.inl x3), some (.inl x4), some (.inl x5), some (.inl (b2i x6)), some (.inl (b2i x7)), some (.inl x8), some (.inl x9), none, none] [] σ
      unfold L_X11_data_30 at h
      have hB_X11_data_150 : ∀ (x6 : Bool) (x9 : Int) (y0 : Bool), B_X11_data_150 x6 x9 y0 σ = some w → Go l m_X11_data (d + 1) LAYM (.inl (some (.inl q.1))) q.2 150 [some (.inr 0), some (.inl x1), some (.inl x2), some (.inl x3), some (.inl x4), some (.inl x5), some (.inl (b2i x6)), none, some (.inl x8), some (.inl x9), none, none] [.inl (b2i y0)] σ := by
        intro x6 x9 y0 h
        unfold B_X11_data_150 at h
        refine go_ops ok_X11_data_150_2 (L' := [some (.inr 0), some (.inl x1), some (.inl x2), some (.inl x3), some (.inl x4), some (.inl x5), some (.inl (b2i x6)), some (.inl (b2i y0)), some (.inl x8), some (.inl (wrap (x9 + 1))), none, none]) (st' := []) (σ1 := σ) rfl ?_
        refine go_goto dc_X11_data_155 (by rfl) ?_
        cases h
        exact hK
      have hB_X11_data_149 : ∀ (x6 : Bool) (x9 : Int), B_X11_data_149 x6 x9 σ = some w → Go l m_X11_data (d + 1) LAYM (.inl (some (.inl q.1))) q.2 149 [some (.inr 0), some (.inl x1), some (.inl x2), some (.inl x3), some (.inl x4), some (.inl x5), some (.inl (b2i x6)), none, some (.inl x8), some (.inl x9), none, none] [] σ := by
        intro x6 x9 h
        unfold B_X11_data_149 at h
        refine go_ops ok_X11_data_149_1 (L' := [some (.inr 0), some (.inl x1), some (.inl x2), some (.inl x3), some (.inl x4), some (.inl x5), some (.inl (b2i x6)), none, some (.inl x8), some (.inl x9), none, none]) (st' := [.inl 0]) (σ1 := σ) rfl ?_
        exact hB_X11_data_150 x6 x9 false h
      have hB_X11_data_145 : ∀ (x6 : Bool) (x9 : Int), B_X11_data_145 x6 x9 σ = some w → Go l m_X11_data (d + 1) LAYM (.inl (some (.inl q.1))) q.2 145 [some (.inr 0), some (.inl x1), some (.inl x2), some (.inl x3), some (.inl x4), some (.inl x5), some (.inl (b2i x6)), none, some (.inl x8), some (.inl x9), none, none] [] σ := by
        intro x6 x9 h
        unfold B_X11_data_145 at h
        refine go_ops ok_X11_data_145_1 (L' := [some (.inr 0), some (.inl x1), some (.inl x2), some (.inl x3), some (.inl x4), some (.inl x5), some (.inl (b2i x6)), none, some (.inl x8), some (.inl x9), none, none]) (st' := [.inl 1]) (σ1 := σ) rfl ?_
        refine go_goto dc_X11_data_146 (by rfl) ?_
        exact hB_X11_data_150 x6 x9 true h
      have hB_X11_data_97 : ∀ (x7 : Bool) (x9 : Int) (x10 : Int) (x11 : Bool) (y0 : Bool), B_X11_data_97 x7 x8 x9 x10 x11 y0 σ = some w → Go l m_X11_data (d + 1) LAYM (.inl (some (.inl q.1))) q.2 97 [some (.inr 0), some (.inl x1), some (.inl x2), some (.inl x3), some (.inl x4), some (.inl x5), none, some (.inl (b2i x7)), some (.inl x8), some (.inl x9), some (.inl x10), some (.inl (b2i x11))] [.inl (b2i y0)] σ := by
        intro x7 x9 x10 x11 y0 h
        unfold B_X11_data_97 at h
        refine go_ops ok_X11_data_97_2 (L' := [some (.inr 0), some (.inl x1), some (.inl x2), some (.inl x3), some (.inl x4), some (.inl x5), some (.inl (b2i y0)), some (.inl (b2i x7)), some (.inl x8), some (.inl x9), some (.inl x10), some (.inl (b2i x11))]) (st' := [.inl (b2i x7)]) (σ1 := σ) rfl ?_
        refine go_ifb_eq dc_X11_data_101 (by rfl) (fun hc => ?_) (fun hc => ?_)
        · replace h := (if_neg hc).symm.trans h
          refine go_wk (L' := [some (.inr 0), some (.inl x1), some (.inl x2), some (.inl x3), some (.inl x4), some (.inl x5), some (.inl (b2i y0)), none, some (.inl x8), some (.inl x9), none, none]) ⟨rfl, rfl, rfl, rfl, rfl, rfl, rfl, rfl, rfl, trivial⟩ ?_
          exact hB_X11_data_149 y0 x9 h
        · replace h := (if_pos hc).symm.trans h
          refine go_ops ok_X11_data_104_1 (L' := [some (.inr 0), some (.inl x1), some (.inl x2), some (.inl x3), some (.inl x4), some (.inl x5), some (.inl (b2i y0)), some (.inl (b2i x7)), some (.inl x8), some (.inl x9), some (.inl x10), some (.inl (b2i x11))]) (st' := [.inl (b2i x11)]) (σ1 := σ) rfl ?_
          refine go_ifb_eq dc_X11_data_106 (by rfl) (fun hc => ?_) (fun hc => ?_)
          · replace h := (if_neg hc).symm.trans h
            refine go_ops ok_X11_data_139_2 (L' := [some (.inr 0), some (.inl x1), some (.inl x2), some (.inl x3), some (.inl x4), some (.inl x5), some (.inl (b2i y0)), some (.inl (b2i x7)), some (.inl x8), some (.inl x9), some (.inl x10), some (.inl (b2i x11))]) (st' := [.inl (-1), .inl x10]) (σ1 := σ) rfl ?_
            refine go_icmp_ne dc_X11_data_142 (by rfl) (fun hc => ?_) (fun hc => ?_)
            · replace h := (if_neg hc).symm.trans h
              refine go_wk (L' := [some (.inr 0), some (.inl x1), some (.inl x2), some (.inl x3), some (.inl x4), some (.inl x5), some (.inl (b2i y0)), none, some (.inl x8), some (.inl x9), none, none]) ⟨rfl, rfl, rfl, rfl, rfl, rfl, rfl, rfl, rfl, trivial⟩ ?_
              exact hB_X11_data_149 y0 x9 h
            · replace h := (if_pos hc).symm.trans h
              refine go_wk (L' := [some (.inr 0), some (.inl x1), some (.inl x2), some (.inl x3), some (.inl x4), some (.inl x5), some (.inl (b2i y0)), none, some (.inl x8), some (.inl x9), none, none]) ⟨rfl, rfl, rfl, rfl, rfl, rfl, rfl, rfl, rfl, trivial⟩ ?_
              exact hB_X11_data_145 y0 x9 h
          · replace h := (if_pos hc).symm.trans h
            refine go_ops ok_X11_data_109_1 (L' := [some (.inr 0), some (.inl x1), some (.inl x2), some (.inl x3), some (.inl x4), some (.inl x5), some (.inl (b2i y0)), some (.inl (b2i x7)), some (.inl x8), some (.inl x9), some (.inl x10), some (.inl (b2i x11))]) (st' := [.inl (b2i y0)]) (σ1 := σ) rfl ?_
            refine go_ifb_eq dc_X11_data_111 (by rfl) (fun hc => ?_) (fun hc => ?_)
            · replace h := (if_neg hc).symm.trans h
              refine go_wk (L' := [some (.inr 0), some (.inl x1), some (.inl x2), some (.inl x3), some (.inl x4), some (.inl x5), some (.inl (b2i y0)), none, some (.inl x8), some (.inl x9), none, none]) ⟨rfl, rfl, rfl, rfl, rfl, rfl, rfl, rfl, rfl, trivial⟩ ?_
              exact hB_X11_data_149 y0 x9 h
            · replace h := (if_pos hc).symm.trans h
              refine go_ops ok_X11_data_114_3 (L' := [some (.inr 0), some (.inl x1), some (.inl x2), some (.inl x3), some (.inl x4), some (.inl x5), some (.inl (b2i y0)), some (.inl (b2i x7)), some (.inl x8), some (.inl x9), some (.inl x10), some (.inl (b2i x11))]) (st' := [.inl x10, .inr 4]) (σ1 := σ) rfl ?_
              obtain ⟨v7, e8, h⟩ := bind_inv h
              refine go_rd (k := 4) dc_X11_data_120 rfl e8 ?_
              refine go_ops ok_X11_data_121_7 (L' := [some (.inr 0), some (.inl x1), some (.inl x2), some (.inl x3), some (.inl x4), some (.inl x5), some (.inl (b2i y0)), some (.inl (b2i x7)), some (.inl x8), some (.inl x9), some (.inl x10), some (.inl (b2i x11))]) (st' := [.inl (wrap ((wrap (3 * x8)) + x9)), .inr 3, .inl v7]) (σ1 := σ) rfl ?_
              obtain ⟨v9, e10, h⟩ := bind_inv h
              refine go_rd (k := 3) dc_X11_data_132 rfl e10 ?_
              refine go_icmp_ne dc_X11_data_133 (by rfl) (fun hc => ?_) (fun hc => ?_)
              · replace h := (if_neg hc).symm.trans h
                refine go_wk (L' := [some (.inr 0), some (.inl x1), some (.inl x2), some (.inl x3), some (.inl x4), some (.inl x5), some (.inl (b2i y0)), none, some (.inl x8), some (.inl x9), none, none]) ⟨rfl, rfl, rfl, rfl, rfl, rfl, rfl, rfl, rfl, trivial⟩ ?_
                exact hB_X11_data_149 y0 x9 h
              · replace h := (if_pos hc).symm.trans h
                refine go_goto dc_X11_data_136 (by rfl) ?_
                refine go_wk (L' := [some (.inr 0), some (.inl x1), some (.inl x2), some (.inl x3), some (.inl x4), some (.inl x5), some (.inl (b2i y0)), none, some (.inl x8), some (.inl x9), none, none]) ⟨rfl, rfl, rfl, rfl, rfl, rfl, rfl, rfl, rfl, trivial⟩ ?_
                exact hB_X11_data_145 y0 x9 h
      have hB_X11_data_92 : ∀ (x7 : Bool) (x9 : Int) (x10 : Int) (x11 : Bool), B_X11_data_92 x7 x8 x9 x10 x11 σ = some w → Go l m_X11_data (d + 1) LAYM (.inl (some (.inl q.1))) q.2 92 [some (.inr 0), some (.inl x1), some (.inl x2), some (.inl x3), some (.inl x4), some (.inl x5), none, some (.inl (b2i x7)), some (.inl x8), some (.inl x9), some (.inl x10), some (.inl (b2i x11))] [] σ := by
        intro x7 x9 x10 x11 h
        unfold B_X11_data_92 at h
        refine go_ops ok_X11_data_92_1 (L' := [some (.inr 0), some (.inl x1), some (.inl x2), some (.inl x3), some (.inl x4), some (.inl x5), none, some (.inl (b2i x7)), some (.inl x8), some (.inl x9), some (.inl x10), some (.inl (b2i x11))]) (st' := [.inl 1]) (σ1 := σ) rfl ?_
        refine go_goto dc_X11_data_93 (by rfl) ?_
        exact hB_X11_data_97 x7 x9 x10 x11 true h
      have hB_X11_data_70 : ∀ (x7 : Bool) (x9 : Int) (x10 : Int) (y0 : Bool), B_X11_data_70 x7 x8 x9 x10 y0 σ = some w → Go l m_X11_data (d + 1) LAYM (.inl (some (.inl q.1))) q.2 70 [some (.inr 0), some (.inl x1), some (.inl x2), some (.inl x3), some (.inl x4), some (.inl x5), none, some (.inl (b2i x7)), some (.inl x8), some (.inl x9), some (.inl x10), none] [.inl (b2i y0)] σ := by
        intro x7 x9 x10 y0 h
        unfold B_X11_data_70 at h
        refine go_ops ok_X11_data_70_2 (L' := [some (.inr 0), some (.inl x1), some (.inl x2), some (.inl x3), some (.inl x4), some (.inl x5), none, some (.inl (b2i x7)), some (.inl x8), some (.inl x9), some (.inl x10), some (.inl (b2i y0))]) (st' := [.inl (b2i y0)]) (σ1 := σ) rfl ?_
        refine go_ifb_eq dc_X11_data_74 (by rfl) (fun hc => ?_) (fun hc => ?_)
        · replace h := (if_neg hc).symm.trans h
          exact hB_X11_data_92 x7 x9 x10 y0 h
        · replace h := (if_pos hc).symm.trans h
          refine go_ops ok_X11_data_77_6 (L' := [some (.inr 0), some (.inl x1), some (.inl x2), some (.inl x3), some (.inl x4), some (.inl x5), none, some (.inl (b2i x7)), some (.inl x8), some (.inl x9), some (.inl x10), some (.inl (b2i y0))]) (st' := [.inl (wrap ((σ 0 4) - 1)), .inl 0, .inl x10]) (σ1 := σ) rfl ?_
          refine go_S (M1 := m_X11_in) (as := [.inl x10, .inl 0, .inl (wrap ((σ 0 4) - 1))]) (st := []) dc_X11_data_86 ln_11_171 sm_X11_in mk_X11_in rfl (Nat.le_of_ble_eq_true rfl) (Nat.le_refl _) (v := (some (.inl (b2i (F_X11_in x10 0 (wrap ((σ 0 4) - 1))))))) (σ1 := σ) (lk_X11_in l d (by omega) x10 0 (wrap ((σ 0 4) - 1)) σ _ rfl) _ rfl ?_
          refine go_ifb_eq dc_X11_data_89 (by rfl) (fun hc => ?_) (fun hc => ?_)
          · replace h := (if_neg hc).symm.trans h
            refine go_ops ok_X11_data_96_1 (L' := [some (.inr 0), some (.inl x1), some (.inl x2), some (.inl x3), some (.inl x4), some (.inl x5), none, some (.inl (b2i x7)), some (.inl x8), some (.inl x9), some (.inl x10), some (.inl (b2i y0))]) (st' := [.inl 0]) (σ1 := σ) rfl ?_
            exact hB_X11_data_97 x7 x9 x10 y0 false h
          · replace h := (if_pos hc).symm.trans h
            exact hB_X11_data_92 x7 x9 x10 y0 h
      refine go_ops ok_X11_data_30_2 (L' := [some (.inr 0), some (.inl x1), some (.inl x2), some (.inl x3), some (.inl x4), some (.inl x5), some (.inl (b2i x6)), some (.inl (b2i x7)), some (.inl x8), some (.inl x9), none, none]) (st' := [.inl 3, .inl x9]) (σ1 := σ) rfl ?_
      refine go_icmp_ge dc_X11_data_33 (by rfl) (fun hc => ?_) (fun hc => ?_)
      · replace h := (if_pos hc).symm.trans h
        cases h
        refine go_wk (L' := [some (.inr 0), some (.inl x1), some (.inl x2), some (.inl x3), some (.inl x4), some (.inl x5), some (.inl (b2i x6)), some (.inl (b2i x7)), some (.inl x8), none, none, none]) ⟨rfl, rfl, rfl, rfl, rfl, rfl, rfl, rfl, rfl, trivial⟩ ?_
        exact hK
      · replace h := (if_neg hc).symm.trans h
        refine go_ops ok_X11_data_36_1 (L' := [some (.inr 0), some (.inl x1), some (.inl x2), some (.inl x3), some (.inl x4), some (.inl x5), some (.inl (b2i x6)), some (.inl (b2i x7)), some (.inl x8), some (.inl x9), none, none]) (st' := [.inl (b2i x6)]) (σ1 := σ) rfl ?_
        refine go_ifb_eq dc_X11_data_38 (by rfl) (fun hc => ?_) (fun hc => ?_)
        · replace h := (if_neg hc).symm.trans h
          cases h
          refine go_wk (L' := [some (.inr 0), some (.inl x1), some (.inl x2), some (.inl x3), some (.inl x4), some (.inl x5), some (.inl (b2i x6)), some (.inl (b2i x7)), some (.inl x8), none, none, none]) ⟨rfl, rfl, rfl, rfl, rfl, rfl, rfl, rfl, rfl, trivial⟩ ?_
          exact hK
        · replace h := (if_pos hc).symm.trans h
          refine go_ops ok_X11_data_41_4 (L' := [some (.inr 0), some (.inl x1), some (.inl x2), some (.inl x3), some (.inl x4), some (.inl x5), some (.inl (b2i x6)), some (.inl (b2i x7)), some (.inl x8), some (.inl x9), none, none]) (st' := [.inl x9, .inl x5, .inl x4, .inl x3]) (σ1 := σ) rfl ?_
          refine go_S (M1 := m_X11_pick) (as := [.inl x3, .inl x4, .inl x5, .inl x9]) (st := []) dc_X11_data_48 ln_11_175 sm_X11_pick mk_X11_pick rfl (Nat.le_of_ble_eq_true rfl) (Nat.le_refl _) (v := (some (.inl (F_X11_pick x3 x4 x5 x9)))) (σ1 := σ) (lk_X11_pick l d (by omega) x3 x4 x5 x9 σ _ rfl) _ rfl ?_
          obtain ⟨v3, e4, h⟩ := bnd_inv h
          refine go_ops ok_X11_data_51_5 (L' := [some (.inr 0), some (.inl x1), some (.inl x2), some (.inl x3), some (.inl x4), some (.inl x5), some (.inl (b2i x6)), some (.inl (b2i x7)), some (.inl x8), some (.inl x9), some (.inl v3), none]) (st' := [.inl x8, .inr 2, .inl x9]) (σ1 := σ) (by subst e4; rfl) ?_
          obtain ⟨v5, e6, h⟩ := bind_inv h
          refine go_rd (k := 2) dc_X11_data_61 rfl e6 ?_
          refine go_icmp_ge dc_X11_data_62 (by rfl) (fun hc => ?_) (fun hc => ?_)
          · replace h := (if_pos hc).symm.trans h
            refine go_ops ok_X11_data_69_1 (L' := [some (.inr 0), some (.inl x1), some (.inl x2), some (.inl x3), some (.inl x4), some (.inl x5), some (.inl (b2i x6)), some (.inl (b2i x7)), some (.inl x8), some (.inl x9), some (.inl v3), none]) (st' := [.inl 0]) (σ1 := σ) rfl ?_
            refine go_wk (L' := [some (.inr 0), some (.inl x1), some (.inl x2), some (.inl x3), some (.inl x4), some (.inl x5), none, some (.inl (b2i x7)), some (.inl x8), some (.inl x9), some (.inl v3), none]) ⟨rfl, rfl, rfl, rfl, rfl, rfl, rfl, rfl, rfl, rfl, trivial⟩ ?_
            exact hB_X11_data_70 x7 x9 v3 false h
          · replace h := (if_neg hc).symm.trans h
            refine go_ops ok_X11_data_65_1 (L' := [some (.inr 0), some (.inl x1), some (.inl x2), some (.inl x3), some (.inl x4), some (.inl x5), some (.inl (b2i x6)), some (.inl (b2i x7)), some (.inl x8), some (.inl x9), some (.inl v3), none]) (st' := [.inl 1]) (σ1 := σ) rfl ?_
            refine go_goto dc_X11_data_66 (by rfl) ?_
            refine go_wk (L' := [some (.inr 0), some (.inl x1), some (.inl x2), some (.inl x3), some (.inl x4), some (.inl x5), none, some (.inl (b2i x7)), some (.inl x8), some (.inl x9), some (.inl v3), none]) ⟨rfl, rfl, rfl, rfl, rfl, rfl, rfl, rfl, rfl, rfl, trivial⟩ ?_
            exact hB_X11_data_70 x7 x9 v3 true h
    have hL_X11_data_207 : ∀ (x1 : Int) (x2 : Int) (x3 : Int) (x4 : Int) (x5 : Int) (x8 : Int) (σ : Sg) (n : Nat) (a : (Int × Int)) (y : Int), iter (fun a : (Int × Int) => L_X11_data_207 x3 x4 x5 x8 σ a.1 a.2) n a = some y → (fun y : Int => Go l m_X11_data (d + 1) LAYM (.inl (some (.inl q.1))) q.2 250 [some (.inr 0), some (.inl x1), some (.inl x2), some (.inl x3), some (.inl x4), some (.inl x5), none, none, none, some (.inl y), none, none] [] σ) y → (fun a : (Int × Int) => Go l m_X11_data (d + 1) LAYM (.inl (some (.inl q.1))) q.2 207 [some (.inr 0), some (.inl x1), some (.inl x2), some (.inl x3), some (.inl x4), some (.inl x5), none, none, some (.inl x8), some (.inl a.1), some (.inl a.2), none] [] σ) a := by
      intro x1 x2 x3 x4 x5 x8 σ
      refine go_iter (G := fun a : (Int × Int) => Go l m_X11_data (d + 1) LAYM (.inl (some (.inl q.1))) q.2 207 [some (.inr 0), some (.inl x1), some (.inl x2), some (.inl x3), some (.inl x4), some (.inl x5), none, none, some (.inl x8), some (.inl a.1), some (.inl a.2), none] [] σ) (K := fun y : Int => Go l m_X11_data (d + 1) LAYM (.inl (some (.inl q.1))) q.2 250 [some (.inr 0), some (.inl x1), some (.inl x2), some (.inl x3), some (.inl x4), some (.inl x5), none, none, none, some (.inl y), none, none] [] σ) ?_
      rintro ⟨x9, x10⟩ w h hK
      replace h : L_X11_data_207 x3 x4 x5 x8 σ x9 x10 = some w := h
      show Go l m_X11_data (d + 1) LAYM (.inl (some (.inl q.1))) q.2 207 [some (.inr 0), some (.inl x1), some (.inl x2), some (.inl x3), some (.inl x4), some (.inl x5), none, none, some (.inl x8), some (.inl x9), some (.inl x10), none] [] σ
      unfold L_X11_data_207 at h
      refine go_ops ok_X11_data_207_4 (L' := [some (.inr 0), some (.inl x1), some (.inl x2), some (.inl x3), some (.inl x4), some (.inl x5), none, none, some (.inl x8), some (.inl x9), some (.inl x10), none]) (st' := [.inl x8, .inr 2, .inl x10]) (σ1 := σ) rfl ?_
      obtain ⟨v17, e18, h⟩ := bind_inv h
      refine go_rd (k := 2) dc_X11_data_215 rfl e18 ?_
      refine go_icmp_ge dc_X11_data_216 (by rfl) (fun hc => ?_) (fun hc => ?_)
      · replace h := (if_pos hc).symm.trans h
        cases h
        refine go_wk (L' := [some (.inr 0), some (.inl x1), some (.inl x2), some (.inl x3), some (.inl x4), some (.inl x5), none, none, none, some (.inl x9), none, none]) ⟨rfl, rfl, rfl, rfl, rfl, rfl, rfl, trivial⟩ ?_
        exact hK
      · replace h := (if_neg hc).symm.trans h
        refine go_ops ok_X11_data_219_10 (L' := [some (.inr 0), some (.inl x1), some (.inl x2), some (.inl x3), some (.inl x4), some (.inl x5), none, none, some (.inl x8), some (.inl x9), some (.inl x10), none]) (st' := [.inl x10, .inl x5, .inl x4, .inl x3, .inr 7, .inl (wrap (x10 + 1)), .inl x9]) (σ1 := σ) rfl ?_
        refine go_S (M1 := m_X11_pick) (as := [.inl x3, .inl x4, .inl x5, .inl x10]) (st := [.inr 7, .inl (wrap (x10 + 1)), .inl x9]) dc_X11_data_236 ln_11_175 sm_X11_pick mk_X11_pick rfl (Nat.le_of_ble_eq_true rfl) (Nat.le_refl _) (v := (some (.inl (F_X11_pick x3 x4 x5 x10)))) (σ1 := σ) (lk_X11_pick l d (by omega) x3 x4 x5 x10 σ _ rfl) _ rfl ?_
        obtain ⟨v19, e20, h⟩ := bind_inv h
        refine go_rd (k := 7) dc_X11_data_239 rfl e20 ?_
        obtain ⟨v21, e22, h⟩ := bnd_inv h
        refine go_ops ok_X11_data_240_4 (L' := [some (.inr 0), some (.inl x1), some (.inl x2), some (.inl x3), some (.inl x4), some (.inl x5), none, none, some (.inl x8), some (.inl v21), some (.inl (wrap (x10 + 1))), none]) (st' := []) (σ1 := σ) (by subst e22; rfl) ?_
        refine go_goto dc_X11_data_247 (by rfl) ?_
        cases h
        exact hK
    have hB_X11_data_191 : ∀ (x1 : Int) (x2 : Int) (x3 : Int) (x4 : Int) (x5 : Int) (x8 : Int) (y0 : Int) (σ : Sg), B_X11_data_191 x1 x2 x3 x4 x5 x8 y0 σ = some q → Go l m_X11_data (d + 1) LAYM (.inl (some (.inl q.1))) q.2 191 [some (.inr 0), some (.inl x1), some (.inl x2), some (.inl x3), some (.inl x4), some (.inl x5), none, none, some (.inl x8), none, none, none] [.inl y0, .inr 0] σ := by
      intro x1 x2 x3 x4 x5 x8 y0 σ h
      unfold B_X11_data_191 at h
      obtain ⟨q13, e14, h⟩ := bnd_inv h
      refine go_V (M1 := m_X11_refused) (as := [.inl y0]) (st := []) (k := 0) (ci := 11) dc_X11_data_191 ln_11_183 im_X11_refused (by decide) rfl rfl mk_X11_refused rfl (Nat.le_of_ble_eq_true rfl) (Nat.le_refl _) (v := (some (.inl (b2i q13.1)))) (σ1 := q13.2) (lk_X11_refused l d (by omega) y0 σ q13 e14.symm) _ rfl ?_
      refine go_ifb_eq dc_X11_data_194 (by rfl) (fun hc => ?_) (fun hc => ?_)
      · replace h := (if_neg hc).symm.trans h
        obtain ⟨v15, e16, h⟩ := bnd_inv h
        refine go_ops ok_X11_data_199_6 (L' := [some (.inr 0), some (.inl x1), some (.inl x2), some (.inl x3), some (.inl x4), some (.inl x5), none, none, some (.inl x8), some (.inl v15), some (.inl 0), none]) (st' := []) (σ1 := q13.2) (by subst e16; rfl) ?_
        obtain ⟨y23, e24, h⟩ := bind_inv h
        refine hL_X11_data_207 x1 x2 x3 x4 x5 x8 q13.2 3000 (v15, 0) y23 e24 ?_
        show Go l m_X11_data (d + 1) LAYM (.inl (some (.inl q.1))) q.2 250 [some (.inr 0), some (.inl x1), some (.inl x2), some (.inl x3), some (.inl x4), some (.inl x5), none, none, none, some (.inl y23), none, none] [] q13.2
        refine go_ops ok_X11_data_250_7 (L' := [some (.inr 0), some (.inl x1), some (.inl x2), some (.inl x3), some (.inl x4), some (.inl x5), none, none, none, some (.inl y23), none, none]) (st' := [.inl y23, .inl x5, .inl x4, .inl x3, .inl x2, .inl x1, .inr 0]) (σ1 := q13.2) rfl ?_
        obtain ⟨q25, e26, h⟩ := bind_inv h
        refine go_V (M1 := m_X11_value) (as := [.inl x1, .inl x2, .inl x3, .inl x4, .inl x5, .inl y23]) (st := []) (k := 0) (ci := 11) dc_X11_data_260 ln_11_189 im_X11_value (by decide) rfl rfl mk_X11_value rfl (Nat.le_of_ble_eq_true rfl) (Nat.le_refl _) (v := (some (.inl q25.1))) (σ1 := q25.2) (lk_X11_value l d (by omega) x1 x2 x3 x4 x5 y23 q13.2 q25 e26) _ rfl ?_
        have h9 := Option.some.inj h
        subst h9
        exact go_iret dc_X11_data_263 rfl
      · replace h := (if_pos hc).symm.trans h
        refine go_ops ok_X11_data_197_1 (L' := [some (.inr 0), some (.inl x1), some (.inl x2), some (.inl x3), some (.inl x4), some (.inl x5), none, none, some (.inl x8), none, none, none]) (st' := [.inl 0]) (σ1 := q13.2) rfl ?_
        have h9 := Option.some.inj h
        subst h9
        exact go_iret dc_X11_data_198 rfl
    have hB_X11_data_25 : ∀ (x1 : Int) (x2 : Int) (x3 : Int) (x4 : Int) (x5 : Int) (x6 : Bool) (x7 : Bool) (y0 : Int) (σ : Sg), B_X11_data_25 x1 x2 x3 x4 x5 x6 x7 y0 σ = some q → Go l m_X11_data (d + 1) LAYM (.inl (some (.inl q.1))) q.2 25 [some (.inr 0), some (.inl x1), some (.inl x2), some (.inl x3), some (.inl x4), some (.inl x5), some (.inl (b2i x6)), some (.inl (b2i x7)), none, none, none, none] [.inl y0] σ := by
      intro x1 x2 x3 x4 x5 x6 x7 y0 σ h
      unfold B_X11_data_25 at h
      refine go_ops ok_X11_data_25_3 (L' := [some (.inr 0), some (.inl x1), some (.inl x2), some (.inl x3), some (.inl x4), some (.inl x5), some (.inl (b2i x6)), some (.inl (b2i x7)), some (.inl y0), some (.inl 0), none, none]) (st' := []) (σ1 := σ) rfl ?_
      obtain ⟨y11, e12, h⟩ := bind_inv h
      refine hL_X11_data_30 x1 x2 x3 x4 x5 y0 σ 4 (x6, x7, 0) y11 e12 ?_
      show Go l m_X11_data (d + 1) LAYM (.inl (some (.inl q.1))) q.2 158 [some (.inr 0), some (.inl x1), some (.inl x2), some (.inl x3), some (.inl x4), some (.inl x5), some (.inl (b2i y11.1)), some (.inl (b2i y11.2)), some (.inl y0), none, none, none] [] σ
      refine go_ops ok_X11_data_158_2 (L' := [some (.inr 0), some (.inl x1), some (.inl x2), some (.inl x3), some (.inl x4), some (.inl x5), some (.inl (b2i y11.1)), some (.inl (b2i y11.2)), some (.inl y0), none, none, none]) (st' := [.inl (b2i y11.1), .inr 0]) (σ1 := σ) rfl ?_
      refine go_ifb_ne dc_X11_data_161 (by rfl) (fun hc => ?_) (fun hc => ?_)
      · replace h := (if_pos hc).symm.trans h
        refine go_ops ok_X11_data_168_1 (L' := [some (.inr 0), some (.inl x1), some (.inl x2), some (.inl x3), some (.inl x4), some (.inl x5), some (.inl (b2i y11.1)), some (.inl (b2i y11.2)), some (.inl y0), none, none, none]) (st' := [.inl (b2i y11.2), .inr 0]) (σ1 := σ) rfl ?_
        refine go_ifb_ne dc_X11_data_170 (by rfl) (fun hc => ?_) (fun hc => ?_)
        · replace h := (if_pos hc).symm.trans h
          refine go_ops ok_X11_data_177_3 (L' := [some (.inr 0), some (.inl x1), some (.inl x2), some (.inl x3), some (.inl x4), some (.inl x5), some (.inl (b2i y11.1)), some (.inl (b2i y11.2)), some (.inl y0), none, none, none]) (st' := [.inl 40, .inl (σ 0 4), .inr 0]) (σ1 := σ) rfl ?_
          refine go_icmp_ne dc_X11_data_183 (by rfl) (fun hc => ?_) (fun hc => ?_)
          · replace h := (if_neg hc).symm.trans h
            refine go_ops ok_X11_data_190_1 (L' := [some (.inr 0), some (.inl x1), some (.inl x2), some (.inl x3), some (.inl x4), some (.inl x5), some (.inl (b2i y11.1)), some (.inl (b2i y11.2)), some (.inl y0), none, none, none]) (st' := [.inl 0, .inr 0]) (σ1 := σ) rfl ?_
            refine go_wk (L' := [some (.inr 0), some (.inl x1), some (.inl x2), some (.inl x3), some (.inl x4), some (.inl x5), none, none, some (.inl y0), none, none, none]) ⟨rfl, rfl, rfl, rfl, rfl, rfl, rfl, trivial⟩ ?_
            exact hB_X11_data_191 x1 x2 x3 x4 x5 y0 0 σ h
          · replace h := (if_pos hc).symm.trans h
            refine go_ops ok_X11_data_186_1 (L' := [some (.inr 0), some (.inl x1), some (.inl x2), some (.inl x3), some (.inl x4), some (.inl x5), some (.inl (b2i y11.1)), some (.inl (b2i y11.2)), some (.inl y0), none, none, none]) (st' := [.inl 3, .inr 0]) (σ1 := σ) rfl ?_
            refine go_goto dc_X11_data_187 (by rfl) ?_
            refine go_wk (L' := [some (.inr 0), some (.inl x1), some (.inl x2), some (.inl x3), some (.inl x4), some (.inl x5), none, none, some (.inl y0), none, none, none]) ⟨rfl, rfl, rfl, rfl, rfl, rfl, rfl, trivial⟩ ?_
            exact hB_X11_data_191 x1 x2 x3 x4 x5 y0 3 σ h
        · replace h := (if_neg hc).symm.trans h
          refine go_ops ok_X11_data_173_1 (L' := [some (.inr 0), some (.inl x1), some (.inl x2), some (.inl x3), some (.inl x4), some (.inl x5), some (.inl (b2i y11.1)), some (.inl (b2i y11.2)), some (.inl y0), none, none, none]) (st' := [.inl 2, .inr 0]) (σ1 := σ) rfl ?_
          refine go_goto dc_X11_data_174 (by rfl) ?_
          refine go_wk (L' := [some (.inr 0), some (.inl x1), some (.inl x2), some (.inl x3), some (.inl x4), some (.inl x5), none, none, some (.inl y0), none, none, none]) ⟨rfl, rfl, rfl, rfl, rfl, rfl, rfl, trivial⟩ ?_
          exact hB_X11_data_191 x1 x2 x3 x4 x5 y0 2 σ h
      · replace h := (if_neg hc).symm.trans h
        refine go_ops ok_X11_data_164_1 (L' := [some (.inr 0), some (.inl x1), some (.inl x2), some (.inl x3), some (.inl x4), some (.inl x5), some (.inl (b2i y11.1)), some (.inl (b2i y11.2)), some (.inl y0), none, none, none]) (st' := [.inl 1, .inr 0]) (σ1 := σ) rfl ?_
        refine go_goto dc_X11_data_165 (by rfl) ?_
        refine go_wk (L' := [some (.inr 0), some (.inl x1), some (.inl x2), some (.inl x3), some (.inl x4), some (.inl x5), none, none, some (.inl y0), none, none, none]) ⟨rfl, rfl, rfl, rfl, rfl, rfl, rfl, trivial⟩ ?_
        exact hB_X11_data_191 x1 x2 x3 x4 x5 y0 1 σ h
    refine go_ops ok_X11_data_0_3 (L' := [some (.inr 0), some (.inl a1), some (.inl a2), some (.inl a3), some (.inl a4), some (.inl a5), none, none, none, none, none, none]) (st' := [.inl a2, .inl a1, .inr 0]) (σ1 := σ) rfl ?_
    obtain ⟨q1, e2, h⟩ := bind_inv h
    refine go_V (M1 := m_X11_isConstructor) (as := [.inl a1, .inl a2]) (st := []) (k := 0) (ci := 11) dc_X11_data_3 ln_11_193 im_X11_isConstructor (by decide) rfl rfl mk_X11_isConstructor rfl (Nat.le_of_ble_eq_true rfl) (Nat.le_refl _) (v := (some (.inl (b2i q1)))) (σ1 := σ) (lk_X11_isConstructor l d (by omega) a1 a2 σ q1 e2) _ rfl ?_
    refine go_ops ok_X11_data_6_4 (L' := [some (.inr 0), some (.inl a1), some (.inl a2), some (.inl a3), some (.inl a4), some (.inl a5), some (.inl (b2i q1)), some (.inl 1), none, none, none, none]) (st' := [.inl (b2i q1)]) (σ1 := σ) rfl ?_
    refine go_ifb_eq dc_X11_data_13 (by rfl) (fun hc => ?_) (fun hc => ?_)
    · replace h := (if_neg hc).symm.trans h
      refine go_ops ok_X11_data_24_1 (L' := [some (.inr 0), some (.inl a1), some (.inl a2), some (.inl a3), some (.inl a4), some (.inl a5), some (.inl (b2i q1)), some (.inl 1), none, none, none, none]) (st' := [.inl 0]) (σ1 := σ) rfl ?_
      exact hB_X11_data_25 a1 a2 a3 a4 a5 q1 true 0 σ h
    · replace h := (if_pos hc).symm.trans h
      refine go_ops ok_X11_data_16_5 (L' := [some (.inr 0), some (.inl a1), some (.inl a2), some (.inl a3), some (.inl a4), some (.inl a5), some (.inl (b2i q1)), some (.inl 1), none, none, none, none]) (st' := [.inl (wrap ((wrap (4 * a1)) + a2))]) (σ1 := σ) rfl ?_
      refine go_goto dc_X11_data_21 (by rfl) ?_
      exact hB_X11_data_25 a1 a2 a3 a4 a5 q1 true (wrap ((wrap (4 * a1)) + a2)) σ h
  have hf := go_ct (as := [.inr 0, .inl a1, .inl a2, .inl a3, .inl a4, .inl a5]) mk_X11_data (by rfl) (Nat.le_of_ble_eq_true rfl) key
  exact hf
theorem dc_X11_isPattern_8 : decode m_X11_isPattern.2.2.1 8 = .ok (.invokestatic 171, 3) := by decide +kernel
theorem dc_X11_isPattern_11 : decode m_X11_isPattern.2.2.1 11 = .ok (.ireturn, 1) := by decide +kernel
theorem ok_X11_isPattern_0_6 : oks m_X11_isPattern.1 m_X11_isPattern.2.2.1 0 [(.iload_n 1, 1, (0, 0, 0)), (.iconst 0, 1, (0, 0, 0)), (.aload_n 0, 1, (0, 0, 0)), (.getfield 197, 3, (11, 9, 0)), (.iconst 1, 1, (0, 0, 0)), (.isub, 1, (0, 0, 0))] = true ∧ plen 0 [(.iload_n 1, 1, (0, 0, 0)), (.iconst 0, 1, (0, 0, 0)), (.aload_n 0, 1, (0, 0, 0)), (.getfield 197, 3, (11, 9, 0)), (.iconst 1, 1, (0, 0, 0)), (.isub, 1, (0, 0, 0))] = 8 := by decide +kernel
def F_X11_isPattern (a1 : Int) (σ : Sg) : Bool :=
F_X11_in a1 0 (wrap ((σ 0 9) - 1))
theorem lk_X11_isPattern (l : Launch) (d : Nat) (hd : 1 ≤ d) (a1 : Int) (σ : Sg) (q : Bool) (h : F_X11_isPattern a1 σ = q) : CT l d m_X11_isPattern.2.1 m_X11_isPattern.2.2.1 m_X11_isPattern.2.2.2.1 m_X11_isPattern.2.2.2.2 [.inr 0, .inl a1] (LAYM, σ) (some (.inl (b2i q))) (LAYM, σ) := by
  obtain ⟨d, rfl⟩ : ∃ e, d = e + 1 := ⟨d - 1, by omega⟩
  have key : Go l m_X11_isPattern (d + 1) LAYM (.inl (some (.inl (b2i q)))) σ 0 [some (.inr 0), some (.inl a1)] [] σ := by
    unfold F_X11_isPattern at h
    refine go_ops ok_X11_isPattern_0_6 (L' := [some (.inr 0), some (.inl a1)]) (st' := [.inl (wrap ((σ 0 9) - 1)), .inl 0, .inl a1]) (σ1 := σ) rfl ?_
    refine go_S (M1 := m_X11_in) (as := [.inl a1, .inl 0, .inl (wrap ((σ 0 9) - 1))]) (st := []) dc_X11_isPattern_8 ln_11_171 sm_X11_in mk_X11_in rfl (Nat.le_of_ble_eq_true rfl) (Nat.le_refl _) (v := (some (.inl (b2i (F_X11_in a1 0 (wrap ((σ 0 9) - 1))))))) (σ1 := σ) (lk_X11_in l d (by omega) a1 0 (wrap ((σ 0 9) - 1)) σ _ rfl) _ rfl ?_
    subst h
    exact go_zret (x := (F_X11_in a1 0 (wrap ((σ 0 9) - 1)))) dc_X11_isPattern_11 rfl
  have hf := go_ct (as := [.inr 0, .inl a1]) mk_X11_isPattern (by rfl) (Nat.le_of_ble_eq_true rfl) key
  exact hf
theorem dc_X11_suits_5 : decode m_X11_suits.2.2.1 5 = .ok (.iaload, 1) := by decide +kernel
theorem dc_X11_suits_7 : decode m_X11_suits.2.2.1 7 = .ok (.if_icmp .eq 13, 3) := by decide +kernel
theorem dc_X11_suits_15 : decode m_X11_suits.2.2.1 15 = .ok (.iaload, 1) := by decide +kernel
theorem dc_X11_suits_17 : decode m_X11_suits.2.2.1 17 = .ok (.if_icmp .ne 7, 3) := by decide +kernel
theorem dc_X11_suits_21 : decode m_X11_suits.2.2.1 21 = .ok (.goto 4, 3) := by decide +kernel
theorem dc_X11_suits_25 : decode m_X11_suits.2.2.1 25 = .ok (.ireturn, 1) := by decide +kernel
theorem ok_X11_suits_0_3 : oks m_X11_suits.1 m_X11_suits.2.2.1 0 [(.aload_n 0, 1, (0, 0, 0)), (.getfield 43, 3, (11, 14, 0)), (.iload_n 1, 1, (0, 0, 0))] = true ∧ plen 0 [(.aload_n 0, 1, (0, 0, 0)), (.getfield 43, 3, (11, 14, 0)), (.iload_n 1, 1, (0, 0, 0))] = 5 := by decide +kernel
theorem ok_X11_suits_6_1 : oks m_X11_suits.1 m_X11_suits.2.2.1 6 [(.iconst (-1), 1, (0, 0, 0))] = true ∧ plen 6 [(.iconst (-1), 1, (0, 0, 0))] = 7 := by decide +kernel
theorem ok_X11_suits_10_3 : oks m_X11_suits.1 m_X11_suits.2.2.1 10 [(.aload_n 0, 1, (0, 0, 0)), (.getfield 43, 3, (11, 14, 0)), (.iload_n 1, 1, (0, 0, 0))] = true ∧ plen 10 [(.aload_n 0, 1, (0, 0, 0)), (.getfield 43, 3, (11, 14, 0)), (.iload_n 1, 1, (0, 0, 0))] = 15 := by decide +kernel
theorem ok_X11_suits_16_1 : oks m_X11_suits.1 m_X11_suits.2.2.1 16 [(.iload_n 2, 1, (0, 0, 0))] = true ∧ plen 16 [(.iload_n 2, 1, (0, 0, 0))] = 17 := by decide +kernel
theorem ok_X11_suits_20_1 : oks m_X11_suits.1 m_X11_suits.2.2.1 20 [(.iconst 1, 1, (0, 0, 0))] = true ∧ plen 20 [(.iconst 1, 1, (0, 0, 0))] = 21 := by decide +kernel
theorem ok_X11_suits_24_1 : oks m_X11_suits.1 m_X11_suits.2.2.1 24 [(.iconst 0, 1, (0, 0, 0))] = true ∧ plen 24 [(.iconst 0, 1, (0, 0, 0))] = 25 := by decide +kernel
def B_X11_suits_20 (σ : Sg) : Option Bool :=
some true
def F_X11_suits (a1 : Int) (a2 : Int) (σ : Sg) : Option Bool :=
(rdn 60 σ 12 a1).bind fun v1 =>
if v1 = (-1) then
B_X11_suits_20 σ
else
(rdn 60 σ 12 a1).bind fun v3 =>
if v3 = a2 then
B_X11_suits_20 σ
else
some false
theorem lk_X11_suits (l : Launch) (d : Nat) (hd : 0 ≤ d) (a1 : Int) (a2 : Int) (σ : Sg) (q : Bool) (h : F_X11_suits a1 a2 σ = some q) : CT l d m_X11_suits.2.1 m_X11_suits.2.2.1 m_X11_suits.2.2.2.1 m_X11_suits.2.2.2.2 [.inr 0, .inl a1, .inl a2] (LAYM, σ) (some (.inl (b2i q))) (LAYM, σ) := by
  skip
  have key : Go l m_X11_suits d LAYM (.inl (some (.inl (b2i q)))) σ 0 [some (.inr 0), some (.inl a1), some (.inl a2)] [] σ := by
    unfold F_X11_suits at h
    have hB_X11_suits_20 : ∀ (σ : Sg), B_X11_suits_20 σ = some q → Go l m_X11_suits d LAYM (.inl (some (.inl (b2i q)))) σ 20 [none, none, none] [] σ := by
      intro σ h
      unfold B_X11_suits_20 at h
      refine go_ops ok_X11_suits_20_1 (L' := [none, none, none]) (st' := [.inl 1]) (σ1 := σ) rfl ?_
      refine go_goto dc_X11_suits_21 (by rfl) ?_
      have h9 := Option.some.inj h
      subst h9
      exact go_zret (x := true) dc_X11_suits_25 rfl
    refine go_ops ok_X11_suits_0_3 (L' := [some (.inr 0), some (.inl a1), some (.inl a2)]) (st' := [.inl a1, .inr 12]) (σ1 := σ) rfl ?_
    obtain ⟨v1, e2, h⟩ := bind_inv h
    refine go_rd (k := 12) dc_X11_suits_5 rfl e2 ?_
    refine go_ops ok_X11_suits_6_1 (L' := [some (.inr 0), some (.inl a1), some (.inl a2)]) (st' := [.inl (-1), .inl v1]) (σ1 := σ) rfl ?_
    refine go_icmp_eq dc_X11_suits_7 (by rfl) (fun hc => ?_) (fun hc => ?_)
    · replace h := (if_pos hc).symm.trans h
      refine go_wk (L' := [none, none, none]) trivial ?_
      exact hB_X11_suits_20 σ h
    · replace h := (if_neg hc).symm.trans h
      refine go_ops ok_X11_suits_10_3 (L' := [some (.inr 0), some (.inl a1), some (.inl a2)]) (st' := [.inl a1, .inr 12]) (σ1 := σ) rfl ?_
      obtain ⟨v3, e4, h⟩ := bind_inv h
      refine go_rd (k := 12) dc_X11_suits_15 rfl e4 ?_
      refine go_ops ok_X11_suits_16_1 (L' := [some (.inr 0), some (.inl a1), some (.inl a2)]) (st' := [.inl a2, .inl v3]) (σ1 := σ) rfl ?_
      refine go_icmp_ne dc_X11_suits_17 (by rfl) (fun hc => ?_) (fun hc => ?_)
      · replace h := (if_neg hc).symm.trans h
        refine go_ops ok_X11_suits_24_1 (L' := [some (.inr 0), some (.inl a1), some (.inl a2)]) (st' := [.inl 0]) (σ1 := σ) rfl ?_
        have h9 := Option.some.inj h
        subst h9
        exact go_zret (x := false) dc_X11_suits_25 rfl
      · replace h := (if_pos hc).symm.trans h
        refine go_wk (L' := [none, none, none]) trivial ?_
        exact hB_X11_suits_20 σ h
  have hf := go_ct (as := [.inr 0, .inl a1, .inl a2]) mk_X11_suits (by rfl) (Nat.le_of_ble_eq_true rfl) key
  exact hf
theorem dc_X11_sizeOf_3 : decode m_X11_sizeOf.2.2.1 3 = .ok (.if_icmp .ne 7, 3) := by decide +kernel
theorem dc_X11_sizeOf_7 : decode m_X11_sizeOf.2.2.1 7 = .ok (.goto 9, 3) := by decide +kernel
theorem dc_X11_sizeOf_15 : decode m_X11_sizeOf.2.2.1 15 = .ok (.iaload, 1) := by decide +kernel
theorem dc_X11_sizeOf_19 : decode m_X11_sizeOf.2.2.1 19 = .ok (.if_icmp .ne 7, 3) := by decide +kernel
theorem dc_X11_sizeOf_23 : decode m_X11_sizeOf.2.2.1 23 = .ok (.goto 9, 3) := by decide +kernel
theorem dc_X11_sizeOf_31 : decode m_X11_sizeOf.2.2.1 31 = .ok (.iaload, 1) := by decide +kernel
theorem dc_X11_sizeOf_35 : decode m_X11_sizeOf.2.2.1 35 = .ok (.if_icmp .ne 7, 3) := by decide +kernel
theorem dc_X11_sizeOf_39 : decode m_X11_sizeOf.2.2.1 39 = .ok (.goto 9, 3) := by decide +kernel
theorem dc_X11_sizeOf_47 : decode m_X11_sizeOf.2.2.1 47 = .ok (.iaload, 1) := by decide +kernel
theorem dc_X11_sizeOf_49 : decode m_X11_sizeOf.2.2.1 49 = .ok (.ireturn, 1) := by decide +kernel
theorem ok_X11_sizeOf_0_3 : oks m_X11_sizeOf.1 m_X11_sizeOf.2.2.1 0 [(.iconst 1, 1, (0, 0, 0)), (.iload_n 1, 1, (0, 0, 0)), (.iconst (-1), 1, (0, 0, 0))] = true ∧ plen 0 [(.iconst 1, 1, (0, 0, 0)), (.iload_n 1, 1, (0, 0, 0)), (.iconst (-1), 1, (0, 0, 0))] = 3 := by decide +kernel
theorem ok_X11_sizeOf_6_1 : oks m_X11_sizeOf.1 m_X11_sizeOf.2.2.1 6 [(.iconst 0, 1, (0, 0, 0))] = true ∧ plen 6 [(.iconst 0, 1, (0, 0, 0))] = 7 := by decide +kernel
theorem ok_X11_sizeOf_10_3 : oks m_X11_sizeOf.1 m_X11_sizeOf.2.2.1 10 [(.aload_n 0, 1, (0, 0, 0)), (.getfield 49, 3, (11, 16, 0)), (.iload_n 1, 1, (0, 0, 0))] = true ∧ plen 10 [(.aload_n 0, 1, (0, 0, 0)), (.getfield 49, 3, (11, 16, 0)), (.iload_n 1, 1, (0, 0, 0))] = 15 := by decide +kernel
theorem ok_X11_sizeOf_16_3 : oks m_X11_sizeOf.1 m_X11_sizeOf.2.2.1 16 [(.iadd, 1, (0, 0, 0)), (.iload_n 2, 1, (0, 0, 0)), (.iconst (-1), 1, (0, 0, 0))] = true ∧ plen 16 [(.iadd, 1, (0, 0, 0)), (.iload_n 2, 1, (0, 0, 0)), (.iconst (-1), 1, (0, 0, 0))] = 19 := by decide +kernel
theorem ok_X11_sizeOf_22_1 : oks m_X11_sizeOf.1 m_X11_sizeOf.2.2.1 22 [(.iconst 0, 1, (0, 0, 0))] = true ∧ plen 22 [(.iconst 0, 1, (0, 0, 0))] = 23 := by decide +kernel
theorem ok_X11_sizeOf_26_3 : oks m_X11_sizeOf.1 m_X11_sizeOf.2.2.1 26 [(.aload_n 0, 1, (0, 0, 0)), (.getfield 49, 3, (11, 16, 0)), (.iload_n 2, 1, (0, 0, 0))] = true ∧ plen 26 [(.aload_n 0, 1, (0, 0, 0)), (.getfield 49, 3, (11, 16, 0)), (.iload_n 2, 1, (0, 0, 0))] = 31 := by decide +kernel
theorem ok_X11_sizeOf_32_3 : oks m_X11_sizeOf.1 m_X11_sizeOf.2.2.1 32 [(.iadd, 1, (0, 0, 0)), (.iload_n 3, 1, (0, 0, 0)), (.iconst (-1), 1, (0, 0, 0))] = true ∧ plen 32 [(.iadd, 1, (0, 0, 0)), (.iload_n 3, 1, (0, 0, 0)), (.iconst (-1), 1, (0, 0, 0))] = 35 := by decide +kernel
theorem ok_X11_sizeOf_38_1 : oks m_X11_sizeOf.1 m_X11_sizeOf.2.2.1 38 [(.iconst 0, 1, (0, 0, 0))] = true ∧ plen 38 [(.iconst 0, 1, (0, 0, 0))] = 39 := by decide +kernel
theorem ok_X11_sizeOf_42_3 : oks m_X11_sizeOf.1 m_X11_sizeOf.2.2.1 42 [(.aload_n 0, 1, (0, 0, 0)), (.getfield 49, 3, (11, 16, 0)), (.iload_n 3, 1, (0, 0, 0))] = true ∧ plen 42 [(.aload_n 0, 1, (0, 0, 0)), (.getfield 49, 3, (11, 16, 0)), (.iload_n 3, 1, (0, 0, 0))] = 47 := by decide +kernel
theorem ok_X11_sizeOf_48_1 : oks m_X11_sizeOf.1 m_X11_sizeOf.2.2.1 48 [(.iadd, 1, (0, 0, 0))] = true ∧ plen 48 [(.iadd, 1, (0, 0, 0))] = 49 := by decide +kernel
def B_X11_sizeOf_48 (y0 : Int) (y1 : Int) (σ : Sg) : Option Int :=
some (wrap (y1 + y0))
def B_X11_sizeOf_32 (x3 : Int) (y0 : Int) (y1 : Int) (σ : Sg) : Option Int :=
if x3 = (-1) then
B_X11_sizeOf_48 0 (wrap (y1 + y0)) σ
else
(rdn 60 σ 14 x3).bind fun v5 =>
B_X11_sizeOf_48 v5 (wrap (y1 + y0)) σ
def B_X11_sizeOf_16 (x2 : Int) (x3 : Int) (y0 : Int) (y1 : Bool) (σ : Sg) : Option Int :=
if x2 = (-1) then
B_X11_sizeOf_32 x3 0 (wrap ((b2i y1) + y0)) σ
else
(rdn 60 σ 14 x2).bind fun v3 =>
B_X11_sizeOf_32 x3 v3 (wrap ((b2i y1) + y0)) σ
def F_X11_sizeOf (a1 : Int) (a2 : Int) (a3 : Int) (σ : Sg) : Option Int :=
if a1 = (-1) then
B_X11_sizeOf_16 a2 a3 0 true σ
else
(rdn 60 σ 14 a1).bind fun v1 =>
B_X11_sizeOf_16 a2 a3 v1 true σ
theorem lk_X11_sizeOf (l : Launch) (d : Nat) (hd : 0 ≤ d) (a1 : Int) (a2 : Int) (a3 : Int) (σ : Sg) (q : Int) (h : F_X11_sizeOf a1 a2 a3 σ = some q) : CT l d m_X11_sizeOf.2.1 m_X11_sizeOf.2.2.1 m_X11_sizeOf.2.2.2.1 m_X11_sizeOf.2.2.2.2 [.inr 0, .inl a1, .inl a2, .inl a3] (LAYM, σ) (some (.inl q)) (LAYM, σ) := by
  skip
  have key : Go l m_X11_sizeOf d LAYM (.inl (some (.inl q))) σ 0 [some (.inr 0), some (.inl a1), some (.inl a2), some (.inl a3)] [] σ := by
    unfold F_X11_sizeOf at h
    have hB_X11_sizeOf_48 : ∀ (y0 : Int) (y1 : Int) (σ : Sg), B_X11_sizeOf_48 y0 y1 σ = some q → Go l m_X11_sizeOf d LAYM (.inl (some (.inl q))) σ 48 [none, none, none, none] [.inl y0, .inl y1] σ := by
      intro y0 y1 σ h
      unfold B_X11_sizeOf_48 at h
      refine go_ops ok_X11_sizeOf_48_1 (L' := [none, none, none, none]) (st' := [.inl (wrap (y1 + y0))]) (σ1 := σ) rfl ?_
      have h9 := Option.some.inj h
      subst h9
      exact go_iret dc_X11_sizeOf_49 rfl
    have hB_X11_sizeOf_32 : ∀ (x3 : Int) (y0 : Int) (y1 : Int) (σ : Sg), B_X11_sizeOf_32 x3 y0 y1 σ = some q → Go l m_X11_sizeOf d LAYM (.inl (some (.inl q))) σ 32 [some (.inr 0), none, none, some (.inl x3)] [.inl y0, .inl y1] σ := by
      intro x3 y0 y1 σ h
      unfold B_X11_sizeOf_32 at h
      refine go_ops ok_X11_sizeOf_32_3 (L' := [some (.inr 0), none, none, some (.inl x3)]) (st' := [.inl (-1), .inl x3, .inl (wrap (y1 + y0))]) (σ1 := σ) rfl ?_
      refine go_icmp_ne dc_X11_sizeOf_35 (by rfl) (fun hc => ?_) (fun hc => ?_)
      · replace h := (if_neg hc).symm.trans h
        refine go_ops ok_X11_sizeOf_42_3 (L' := [some (.inr 0), none, none, some (.inl x3)]) (st' := [.inl x3, .inr 14, .inl (wrap (y1 + y0))]) (σ1 := σ) rfl ?_
        obtain ⟨v5, e6, h⟩ := bind_inv h
        refine go_rd (k := 14) dc_X11_sizeOf_47 rfl e6 ?_
        refine go_wk (L' := [none, none, none, none]) trivial ?_
        exact hB_X11_sizeOf_48 v5 (wrap (y1 + y0)) σ h
      · replace h := (if_pos hc).symm.trans h
        refine go_ops ok_X11_sizeOf_38_1 (L' := [some (.inr 0), none, none, some (.inl x3)]) (st' := [.inl 0, .inl (wrap (y1 + y0))]) (σ1 := σ) rfl ?_
        refine go_goto dc_X11_sizeOf_39 (by rfl) ?_
        refine go_wk (L' := [none, none, none, none]) trivial ?_
        exact hB_X11_sizeOf_48 0 (wrap (y1 + y0)) σ h
    have hB_X11_sizeOf_16 : ∀ (x2 : Int) (x3 : Int) (y0 : Int) (y1 : Bool) (σ : Sg), B_X11_sizeOf_16 x2 x3 y0 y1 σ = some q → Go l m_X11_sizeOf d LAYM (.inl (some (.inl q))) σ 16 [some (.inr 0), none, some (.inl x2), some (.inl x3)] [.inl y0, .inl (b2i y1)] σ := by
      intro x2 x3 y0 y1 σ h
      unfold B_X11_sizeOf_16 at h
      refine go_ops ok_X11_sizeOf_16_3 (L' := [some (.inr 0), none, some (.inl x2), some (.inl x3)]) (st' := [.inl (-1), .inl x2, .inl (wrap ((b2i y1) + y0))]) (σ1 := σ) rfl ?_
      refine go_icmp_ne dc_X11_sizeOf_19 (by rfl) (fun hc => ?_) (fun hc => ?_)
      · replace h := (if_neg hc).symm.trans h
        refine go_ops ok_X11_sizeOf_26_3 (L' := [some (.inr 0), none, some (.inl x2), some (.inl x3)]) (st' := [.inl x2, .inr 14, .inl (wrap ((b2i y1) + y0))]) (σ1 := σ) rfl ?_
        obtain ⟨v3, e4, h⟩ := bind_inv h
        refine go_rd (k := 14) dc_X11_sizeOf_31 rfl e4 ?_
        refine go_wk (L' := [some (.inr 0), none, none, some (.inl x3)]) ⟨rfl, rfl, trivial⟩ ?_
        exact hB_X11_sizeOf_32 x3 v3 (wrap ((b2i y1) + y0)) σ h
      · replace h := (if_pos hc).symm.trans h
        refine go_ops ok_X11_sizeOf_22_1 (L' := [some (.inr 0), none, some (.inl x2), some (.inl x3)]) (st' := [.inl 0, .inl (wrap ((b2i y1) + y0))]) (σ1 := σ) rfl ?_
        refine go_goto dc_X11_sizeOf_23 (by rfl) ?_
        refine go_wk (L' := [some (.inr 0), none, none, some (.inl x3)]) ⟨rfl, rfl, trivial⟩ ?_
        exact hB_X11_sizeOf_32 x3 0 (wrap ((b2i y1) + y0)) σ h
    refine go_ops ok_X11_sizeOf_0_3 (L' := [some (.inr 0), some (.inl a1), some (.inl a2), some (.inl a3)]) (st' := [.inl (-1), .inl a1, .inl 1]) (σ1 := σ) rfl ?_
    refine go_icmp_ne dc_X11_sizeOf_3 (by rfl) (fun hc => ?_) (fun hc => ?_)
    · replace h := (if_neg hc).symm.trans h
      refine go_ops ok_X11_sizeOf_10_3 (L' := [some (.inr 0), some (.inl a1), some (.inl a2), some (.inl a3)]) (st' := [.inl a1, .inr 14, .inl 1]) (σ1 := σ) rfl ?_
      obtain ⟨v1, e2, h⟩ := bind_inv h
      refine go_rd (k := 14) dc_X11_sizeOf_15 rfl e2 ?_
      refine go_wk (L' := [some (.inr 0), none, some (.inl a2), some (.inl a3)]) ⟨rfl, rfl, rfl, trivial⟩ ?_
      exact hB_X11_sizeOf_16 a2 a3 v1 true σ h
    · replace h := (if_pos hc).symm.trans h
      refine go_ops ok_X11_sizeOf_6_1 (L' := [some (.inr 0), some (.inl a1), some (.inl a2), some (.inl a3)]) (st' := [.inl 0, .inl 1]) (σ1 := σ) rfl ?_
      refine go_goto dc_X11_sizeOf_7 (by rfl) ?_
      refine go_wk (L' := [some (.inr 0), none, some (.inl a2), some (.inl a3)]) ⟨rfl, rfl, rfl, trivial⟩ ?_
      exact hB_X11_sizeOf_16 a2 a3 0 true σ h
  have hf := go_ct (as := [.inr 0, .inl a1, .inl a2, .inl a3]) mk_X11_sizeOf (by rfl) (Nat.le_of_ble_eq_true rfl) key
  exact hf
theorem dc_X11_pattern_13 : decode m_X11_pattern.2.2.1 13 = .ok (.iastore, 1) := by decide +kernel
theorem dc_X11_pattern_21 : decode m_X11_pattern.2.2.1 21 = .ok (.iastore, 1) := by decide +kernel
theorem dc_X11_pattern_29 : decode m_X11_pattern.2.2.1 29 = .ok (.iastore, 1) := by decide +kernel
theorem dc_X11_pattern_38 : decode m_X11_pattern.2.2.1 38 = .ok (.iastore, 1) := by decide +kernel
theorem dc_X11_pattern_47 : decode m_X11_pattern.2.2.1 47 = .ok (.if_icmp .ne 9, 3) := by decide +kernel
theorem dc_X11_pattern_53 : decode m_X11_pattern.2.2.1 53 = .ok (.goto 4, 3) := by decide +kernel
theorem dc_X11_pattern_57 : decode m_X11_pattern.2.2.1 57 = .ok (.iastore, 1) := by decide +kernel
theorem dc_X11_pattern_66 : decode m_X11_pattern.2.2.1 66 = .ok (.if_icmp .ne 7, 3) := by decide +kernel
theorem dc_X11_pattern_70 : decode m_X11_pattern.2.2.1 70 = .ok (.goto 4, 3) := by decide +kernel
theorem dc_X11_pattern_74 : decode m_X11_pattern.2.2.1 74 = .ok (.bastore, 1) := by decide +kernel
theorem dc_X11_pattern_83 : decode m_X11_pattern.2.2.1 83 = .ok (.if_icmp .eq 23, 3) := by decide +kernel
theorem dc_X11_pattern_88 : decode m_X11_pattern.2.2.1 88 = .ok (.if_icmp .eq 18, 3) := by decide +kernel
theorem dc_X11_pattern_93 : decode m_X11_pattern.2.2.1 93 = .ok (.if_icmp .eq 13, 3) := by decide +kernel
theorem dc_X11_pattern_99 : decode m_X11_pattern.2.2.1 99 = .ok (.if_icmp .eq 7, 3) := by decide +kernel
theorem dc_X11_pattern_103 : decode m_X11_pattern.2.2.1 103 = .ok (.goto 4, 3) := by decide +kernel
theorem dc_X11_pattern_107 : decode m_X11_pattern.2.2.1 107 = .ok (.bastore, 1) := by decide +kernel
theorem dc_X11_pattern_115 : decode m_X11_pattern.2.2.1 115 = .ok (.iastore, 1) := by decide +kernel
theorem dc_X11_pattern_122 : decode m_X11_pattern.2.2.1 122 = .ok (.if_icmp .ge 164, 3) := by decide +kernel
theorem dc_X11_pattern_133 : decode m_X11_pattern.2.2.1 133 = .ok (.invokestatic 175, 3) := by decide +kernel
theorem dc_X11_pattern_151 : decode m_X11_pattern.2.2.1 151 = .ok (.iastore, 1) := by decide +kernel
theorem dc_X11_pattern_155 : decode m_X11_pattern.2.2.1 155 = .ok (.if_icmp .eq 125, 3) := by decide +kernel
theorem dc_X11_pattern_165 : decode m_X11_pattern.2.2.1 165 = .ok (.iaload, 1) := by decide +kernel
theorem dc_X11_pattern_172 : decode m_X11_pattern.2.2.1 172 = .ok (.iaload, 1) := by decide +kernel
theorem dc_X11_pattern_174 : decode m_X11_pattern.2.2.1 174 = .ok (.iastore, 1) := by decide +kernel
theorem dc_X11_pattern_187 : decode m_X11_pattern.2.2.1 187 = .ok (.baload, 1) := by decide +kernel
theorem dc_X11_pattern_188 : decode m_X11_pattern.2.2.1 188 = .ok (.ifCond .ne 13, 3) := by decide +kernel
theorem dc_X11_pattern_197 : decode m_X11_pattern.2.2.1 197 = .ok (.baload, 1) := by decide +kernel
theorem dc_X11_pattern_198 : decode m_X11_pattern.2.2.1 198 = .ok (.ifCond .eq 7, 3) := by decide +kernel
theorem dc_X11_pattern_202 : decode m_X11_pattern.2.2.1 202 = .ok (.goto 4, 3) := by decide +kernel
theorem dc_X11_pattern_206 : decode m_X11_pattern.2.2.1 206 = .ok (.bastore, 1) := by decide +kernel
theorem dc_X11_pattern_219 : decode m_X11_pattern.2.2.1 219 = .ok (.baload, 1) := by decide +kernel
theorem dc_X11_pattern_220 : decode m_X11_pattern.2.2.1 220 = .ok (.ifCond .eq 17, 3) := by decide +kernel
theorem dc_X11_pattern_229 : decode m_X11_pattern.2.2.1 229 = .ok (.baload, 1) := by decide +kernel
theorem dc_X11_pattern_230 : decode m_X11_pattern.2.2.1 230 = .ok (.ifCond .eq 7, 3) := by decide +kernel
theorem dc_X11_pattern_234 : decode m_X11_pattern.2.2.1 234 = .ok (.goto 4, 3) := by decide +kernel
theorem dc_X11_pattern_238 : decode m_X11_pattern.2.2.1 238 = .ok (.bastore, 1) := by decide +kernel
theorem dc_X11_pattern_251 : decode m_X11_pattern.2.2.1 251 = .ok (.iaload, 1) := by decide +kernel
theorem dc_X11_pattern_258 : decode m_X11_pattern.2.2.1 258 = .ok (.iaload, 1) := by decide +kernel
theorem dc_X11_pattern_259 : decode m_X11_pattern.2.2.1 259 = .ok (.if_icmp .le 13, 3) := by decide +kernel
theorem dc_X11_pattern_268 : decode m_X11_pattern.2.2.1 268 = .ok (.iaload, 1) := by decide +kernel
theorem dc_X11_pattern_269 : decode m_X11_pattern.2.2.1 269 = .ok (.goto 10, 3) := by decide +kernel
theorem dc_X11_pattern_278 : decode m_X11_pattern.2.2.1 278 = .ok (.iaload, 1) := by decide +kernel
theorem dc_X11_pattern_279 : decode m_X11_pattern.2.2.1 279 = .ok (.iastore, 1) := by decide +kernel
theorem dc_X11_pattern_283 : decode m_X11_pattern.2.2.1 283 = .ok (.goto (-164), 3) := by decide +kernel
theorem dc_X11_pattern_288 : decode m_X11_pattern.2.2.1 288 = .ok (.if_icmp .eq 13, 3) := by decide +kernel
theorem dc_X11_pattern_293 : decode m_X11_pattern.2.2.1 293 = .ok (.if_icmp .eq 8, 3) := by decide +kernel
theorem dc_X11_pattern_298 : decode m_X11_pattern.2.2.1 298 = .ok (.if_icmp .ne 7, 3) := by decide +kernel
theorem dc_X11_pattern_302 : decode m_X11_pattern.2.2.1 302 = .ok (.goto 4, 3) := by decide +kernel
theorem dc_X11_pattern_315 : decode m_X11_pattern.2.2.1 315 = .ok (.iaload, 1) := by decide +kernel
theorem dc_X11_pattern_318 : decode m_X11_pattern.2.2.1 318 = .ok (.ifCond .eq 7, 3) := by decide +kernel
theorem dc_X11_pattern_322 : decode m_X11_pattern.2.2.1 322 = .ok (.goto 4, 3) := by decide +kernel
theorem dc_X11_pattern_327 : decode m_X11_pattern.2.2.1 327 = .ok (.iastore, 1) := by decide +kernel
theorem dc_X11_pattern_341 : decode m_X11_pattern.2.2.1 341 = .ok (.invokevirtual 200, 3) := by decide +kernel
theorem dc_X11_pattern_344 : decode m_X11_pattern.2.2.1 344 = .ok (.iastore, 1) := by decide +kernel
theorem dc_X11_pattern_357 : decode m_X11_pattern.2.2.1 357 = .ok (.ireturn, 1) := by decide +kernel
theorem ok_X11_pattern_0_7 : oks m_X11_pattern.1 m_X11_pattern.2.2.1 0 [(.aload_n 0, 1, (0, 0, 0)), (.getfield 197, 3, (11, 9, 0)), (.istore 8, 2, (0, 0, 0)), (.aload_n 0, 1, (0, 0, 0)), (.getfield 31, 3, (11, 10, 0)), (.iload 8, 2, (0, 0, 0)), (.iload_n 1, 1, (0, 0, 0))] = true ∧ plen 0 [(.aload_n 0, 1, (0, 0, 0)), (.getfield 197, 3, (11, 9, 0)), (.istore 8, 2, (0, 0, 0)), (.aload_n 0, 1, (0, 0, 0)), (.getfield 31, 3, (11, 10, 0)), (.iload 8, 2, (0, 0, 0)), (.iload_n 1, 1, (0, 0, 0))] = 13 := by decide +kernel
theorem ok_X11_pattern_14_4 : oks m_X11_pattern.1 m_X11_pattern.2.2.1 14 [(.aload_n 0, 1, (0, 0, 0)), (.getfield 34, 3, (11, 11, 0)), (.iload 8, 2, (0, 0, 0)), (.iload_n 2, 1, (0, 0, 0))] = true ∧ plen 14 [(.aload_n 0, 1, (0, 0, 0)), (.getfield 34, 3, (11, 11, 0)), (.iload 8, 2, (0, 0, 0)), (.iload_n 2, 1, (0, 0, 0))] = 21 := by decide +kernel
theorem ok_X11_pattern_22_4 : oks m_X11_pattern.1 m_X11_pattern.2.2.1 22 [(.aload_n 0, 1, (0, 0, 0)), (.getfield 37, 3, (11, 12, 0)), (.iload 8, 2, (0, 0, 0)), (.iload_n 3, 1, (0, 0, 0))] = true ∧ plen 22 [(.aload_n 0, 1, (0, 0, 0)), (.getfield 37, 3, (11, 12, 0)), (.iload 8, 2, (0, 0, 0)), (.iload_n 3, 1, (0, 0, 0))] = 29 := by decide +kernel
theorem ok_X11_pattern_30_4 : oks m_X11_pattern.1 m_X11_pattern.2.2.1 30 [(.aload_n 0, 1, (0, 0, 0)), (.getfield 43, 3, (11, 14, 0)), (.iload 8, 2, (0, 0, 0)), (.iload 7, 2, (0, 0, 0))] = true ∧ plen 30 [(.aload_n 0, 1, (0, 0, 0)), (.getfield 43, 3, (11, 14, 0)), (.iload 8, 2, (0, 0, 0)), (.iload 7, 2, (0, 0, 0))] = 38 := by decide +kernel
theorem ok_X11_pattern_39_5 : oks m_X11_pattern.1 m_X11_pattern.2.2.1 39 [(.aload_n 0, 1, (0, 0, 0)), (.getfield 52, 3, (11, 17, 0)), (.iload 8, 2, (0, 0, 0)), (.iload_n 1, 1, (0, 0, 0)), (.iconst 1, 1, (0, 0, 0))] = true ∧ plen 39 [(.aload_n 0, 1, (0, 0, 0)), (.getfield 52, 3, (11, 17, 0)), (.iload 8, 2, (0, 0, 0)), (.iload_n 1, 1, (0, 0, 0)), (.iconst 1, 1, (0, 0, 0))] = 47 := by decide +kernel
theorem ok_X11_pattern_50_3 : oks m_X11_pattern.1 m_X11_pattern.2.2.1 50 [(.iconst 1, 1, (0, 0, 0)), (.iload_n 2, 1, (0, 0, 0)), (.ishl, 1, (0, 0, 0))] = true ∧ plen 50 [(.iconst 1, 1, (0, 0, 0)), (.iload_n 2, 1, (0, 0, 0)), (.ishl, 1, (0, 0, 0))] = 53 := by decide +kernel
theorem ok_X11_pattern_56_1 : oks m_X11_pattern.1 m_X11_pattern.2.2.1 56 [(.iconst 0, 1, (0, 0, 0))] = true ∧ plen 56 [(.iconst 0, 1, (0, 0, 0))] = 57 := by decide +kernel
theorem ok_X11_pattern_58_5 : oks m_X11_pattern.1 m_X11_pattern.2.2.1 58 [(.aload_n 0, 1, (0, 0, 0)), (.getfield 55, 3, (11, 18, 0)), (.iload 8, 2, (0, 0, 0)), (.iload_n 1, 1, (0, 0, 0)), (.iconst 5, 1, (0, 0, 0))] = true ∧ plen 58 [(.aload_n 0, 1, (0, 0, 0)), (.getfield 55, 3, (11, 18, 0)), (.iload 8, 2, (0, 0, 0)), (.iload_n 1, 1, (0, 0, 0)), (.iconst 5, 1, (0, 0, 0))] = 66 := by decide +kernel
theorem ok_X11_pattern_69_1 : oks m_X11_pattern.1 m_X11_pattern.2.2.1 69 [(.iconst 1, 1, (0, 0, 0))] = true ∧ plen 69 [(.iconst 1, 1, (0, 0, 0))] = 70 := by decide +kernel
theorem ok_X11_pattern_73_1 : oks m_X11_pattern.1 m_X11_pattern.2.2.1 73 [(.iconst 0, 1, (0, 0, 0))] = true ∧ plen 73 [(.iconst 0, 1, (0, 0, 0))] = 74 := by decide +kernel
theorem ok_X11_pattern_75_5 : oks m_X11_pattern.1 m_X11_pattern.2.2.1 75 [(.aload_n 0, 1, (0, 0, 0)), (.getfield 59, 3, (11, 19, 0)), (.iload 8, 2, (0, 0, 0)), (.iload_n 1, 1, (0, 0, 0)), (.iconst 1, 1, (0, 0, 0))] = true ∧ plen 75 [(.aload_n 0, 1, (0, 0, 0)), (.getfield 59, 3, (11, 19, 0)), (.iload 8, 2, (0, 0, 0)), (.iload_n 1, 1, (0, 0, 0)), (.iconst 1, 1, (0, 0, 0))] = 83 := by decide +kernel
theorem ok_X11_pattern_86_2 : oks m_X11_pattern.1 m_X11_pattern.2.2.1 86 [(.iload_n 1, 1, (0, 0, 0)), (.iconst 5, 1, (0, 0, 0))] = true ∧ plen 86 [(.iload_n 1, 1, (0, 0, 0)), (.iconst 5, 1, (0, 0, 0))] = 88 := by decide +kernel
theorem ok_X11_pattern_91_2 : oks m_X11_pattern.1 m_X11_pattern.2.2.1 91 [(.iload_n 1, 1, (0, 0, 0)), (.iconst 3, 1, (0, 0, 0))] = true ∧ plen 91 [(.iload_n 1, 1, (0, 0, 0)), (.iconst 3, 1, (0, 0, 0))] = 93 := by decide +kernel
theorem ok_X11_pattern_96_2 : oks m_X11_pattern.1 m_X11_pattern.2.2.1 96 [(.iload_n 1, 1, (0, 0, 0)), (.bipush 6, 2, (0, 0, 0))] = true ∧ plen 96 [(.iload_n 1, 1, (0, 0, 0)), (.bipush 6, 2, (0, 0, 0))] = 99 := by decide +kernel
theorem ok_X11_pattern_102_1 : oks m_X11_pattern.1 m_X11_pattern.2.2.1 102 [(.iconst 1, 1, (0, 0, 0))] = true ∧ plen 102 [(.iconst 1, 1, (0, 0, 0))] = 103 := by decide +kernel
theorem ok_X11_pattern_106_1 : oks m_X11_pattern.1 m_X11_pattern.2.2.1 106 [(.iconst 0, 1, (0, 0, 0))] = true ∧ plen 106 [(.iconst 0, 1, (0, 0, 0))] = 107 := by decide +kernel
theorem ok_X11_pattern_108_4 : oks m_X11_pattern.1 m_X11_pattern.2.2.1 108 [(.aload_n 0, 1, (0, 0, 0)), (.getfield 46, 3, (11, 15, 0)), (.iload 8, 2, (0, 0, 0)), (.iconst 0, 1, (0, 0, 0))] = true ∧ plen 108 [(.aload_n 0, 1, (0, 0, 0)), (.getfield 46, 3, (11, 15, 0)), (.iload 8, 2, (0, 0, 0)), (.iconst 0, 1, (0, 0, 0))] = 115 := by decide +kernel
theorem ok_X11_pattern_116_2 : oks m_X11_pattern.1 m_X11_pattern.2.2.1 116 [(.iconst 0, 1, (0, 0, 0)), (.istore 9, 2, (0, 0, 0))] = true ∧ plen 116 [(.iconst 0, 1, (0, 0, 0)), (.istore 9, 2, (0, 0, 0))] = 119 := by decide +kernel
theorem ok_X11_pattern_119_2 : oks m_X11_pattern.1 m_X11_pattern.2.2.1 119 [(.iload 9, 2, (0, 0, 0)), (.iconst 3, 1, (0, 0, 0))] = true ∧ plen 119 [(.iload 9, 2, (0, 0, 0)), (.iconst 3, 1, (0, 0, 0))] = 122 := by decide +kernel
theorem ok_X11_pattern_125_4 : oks m_X11_pattern.1 m_X11_pattern.2.2.1 125 [(.iload 4, 2, (0, 0, 0)), (.iload 5, 2, (0, 0, 0)), (.iload 6, 2, (0, 0, 0)), (.iload 9, 2, (0, 0, 0))] = true ∧ plen 125 [(.iload 4, 2, (0, 0, 0)), (.iload 5, 2, (0, 0, 0)), (.iload 6, 2, (0, 0, 0)), (.iload 9, 2, (0, 0, 0))] = 133 := by decide +kernel
theorem ok_X11_pattern_136_9 : oks m_X11_pattern.1 m_X11_pattern.2.2.1 136 [(.istore 10, 2, (0, 0, 0)), (.aload_n 0, 1, (0, 0, 0)), (.getfield 40, 3, (11, 13, 0)), (.iconst 3, 1, (0, 0, 0)), (.iload 8, 2, (0, 0, 0)), (.imul, 1, (0, 0, 0)), (.iload 9, 2, (0, 0, 0)), (.iadd, 1, (0, 0, 0)), (.iload 10, 2, (0, 0, 0))] = true ∧ plen 136 [(.istore 10, 2, (0, 0, 0)), (.aload_n 0, 1, (0, 0, 0)), (.getfield 40, 3, (11, 13, 0)), (.iconst 3, 1, (0, 0, 0)), (.iload 8, 2, (0, 0, 0)), (.imul, 1, (0, 0, 0)), (.iload 9, 2, (0, 0, 0)), (.iadd, 1, (0, 0, 0)), (.iload 10, 2, (0, 0, 0))] = 151 := by decide +kernel
theorem ok_X11_pattern_152_2 : oks m_X11_pattern.1 m_X11_pattern.2.2.1 152 [(.iload 10, 2, (0, 0, 0)), (.iconst (-1), 1, (0, 0, 0))] = true ∧ plen 152 [(.iload 10, 2, (0, 0, 0)), (.iconst (-1), 1, (0, 0, 0))] = 155 := by decide +kernel
theorem ok_X11_pattern_158_4 : oks m_X11_pattern.1 m_X11_pattern.2.2.1 158 [(.aload_n 0, 1, (0, 0, 0)), (.getfield 52, 3, (11, 17, 0)), (.iload 8, 2, (0, 0, 0)), (.dup2, 1, (0, 0, 0))] = true ∧ plen 158 [(.aload_n 0, 1, (0, 0, 0)), (.getfield 52, 3, (11, 17, 0)), (.iload 8, 2, (0, 0, 0)), (.dup2, 1, (0, 0, 0))] = 165 := by decide +kernel
theorem ok_X11_pattern_166_3 : oks m_X11_pattern.1 m_X11_pattern.2.2.1 166 [(.aload_n 0, 1, (0, 0, 0)), (.getfield 52, 3, (11, 17, 0)), (.iload 10, 2, (0, 0, 0))] = true ∧ plen 166 [(.aload_n 0, 1, (0, 0, 0)), (.getfield 52, 3, (11, 17, 0)), (.iload 10, 2, (0, 0, 0))] = 172 := by decide +kernel
theorem ok_X11_pattern_173_1 : oks m_X11_pattern.1 m_X11_pattern.2.2.1 173 [(.ior, 1, (0, 0, 0))] = true ∧ plen 173 [(.ior, 1, (0, 0, 0))] = 174 := by decide +kernel
theorem ok_X11_pattern_175_6 : oks m_X11_pattern.1 m_X11_pattern.2.2.1 175 [(.aload_n 0, 1, (0, 0, 0)), (.getfield 55, 3, (11, 18, 0)), (.iload 8, 2, (0, 0, 0)), (.aload_n 0, 1, (0, 0, 0)), (.getfield 55, 3, (11, 18, 0)), (.iload 8, 2, (0, 0, 0))] = true ∧ plen 175 [(.aload_n 0, 1, (0, 0, 0)), (.getfield 55, 3, (11, 18, 0)), (.iload 8, 2, (0, 0, 0)), (.aload_n 0, 1, (0, 0, 0)), (.getfield 55, 3, (11, 18, 0)), (.iload 8, 2, (0, 0, 0))] = 187 := by decide +kernel
theorem ok_X11_pattern_191_3 : oks m_X11_pattern.1 m_X11_pattern.2.2.1 191 [(.aload_n 0, 1, (0, 0, 0)), (.getfield 55, 3, (11, 18, 0)), (.iload 10, 2, (0, 0, 0))] = true ∧ plen 191 [(.aload_n 0, 1, (0, 0, 0)), (.getfield 55, 3, (11, 18, 0)), (.iload 10, 2, (0, 0, 0))] = 197 := by decide +kernel
theorem ok_X11_pattern_201_1 : oks m_X11_pattern.1 m_X11_pattern.2.2.1 201 [(.iconst 1, 1, (0, 0, 0))] = true ∧ plen 201 [(.iconst 1, 1, (0, 0, 0))] = 202 := by decide +kernel
theorem ok_X11_pattern_205_1 : oks m_X11_pattern.1 m_X11_pattern.2.2.1 205 [(.iconst 0, 1, (0, 0, 0))] = true ∧ plen 205 [(.iconst 0, 1, (0, 0, 0))] = 206 := by decide +kernel
theorem ok_X11_pattern_207_6 : oks m_X11_pattern.1 m_X11_pattern.2.2.1 207 [(.aload_n 0, 1, (0, 0, 0)), (.getfield 59, 3, (11, 19, 0)), (.iload 8, 2, (0, 0, 0)), (.aload_n 0, 1, (0, 0, 0)), (.getfield 59, 3, (11, 19, 0)), (.iload 8, 2, (0, 0, 0))] = true ∧ plen 207 [(.aload_n 0, 1, (0, 0, 0)), (.getfield 59, 3, (11, 19, 0)), (.iload 8, 2, (0, 0, 0)), (.aload_n 0, 1, (0, 0, 0)), (.getfield 59, 3, (11, 19, 0)), (.iload 8, 2, (0, 0, 0))] = 219 := by decide +kernel
theorem ok_X11_pattern_223_3 : oks m_X11_pattern.1 m_X11_pattern.2.2.1 223 [(.aload_n 0, 1, (0, 0, 0)), (.getfield 59, 3, (11, 19, 0)), (.iload 10, 2, (0, 0, 0))] = true ∧ plen 223 [(.aload_n 0, 1, (0, 0, 0)), (.getfield 59, 3, (11, 19, 0)), (.iload 10, 2, (0, 0, 0))] = 229 := by decide +kernel
theorem ok_X11_pattern_233_1 : oks m_X11_pattern.1 m_X11_pattern.2.2.1 233 [(.iconst 1, 1, (0, 0, 0))] = true ∧ plen 233 [(.iconst 1, 1, (0, 0, 0))] = 234 := by decide +kernel
theorem ok_X11_pattern_237_1 : oks m_X11_pattern.1 m_X11_pattern.2.2.1 237 [(.iconst 0, 1, (0, 0, 0))] = true ∧ plen 237 [(.iconst 0, 1, (0, 0, 0))] = 238 := by decide +kernel
theorem ok_X11_pattern_239_6 : oks m_X11_pattern.1 m_X11_pattern.2.2.1 239 [(.aload_n 0, 1, (0, 0, 0)), (.getfield 46, 3, (11, 15, 0)), (.iload 8, 2, (0, 0, 0)), (.aload_n 0, 1, (0, 0, 0)), (.getfield 46, 3, (11, 15, 0)), (.iload 10, 2, (0, 0, 0))] = true ∧ plen 239 [(.aload_n 0, 1, (0, 0, 0)), (.getfield 46, 3, (11, 15, 0)), (.iload 8, 2, (0, 0, 0)), (.aload_n 0, 1, (0, 0, 0)), (.getfield 46, 3, (11, 15, 0)), (.iload 10, 2, (0, 0, 0))] = 251 := by decide +kernel
theorem ok_X11_pattern_252_3 : oks m_X11_pattern.1 m_X11_pattern.2.2.1 252 [(.aload_n 0, 1, (0, 0, 0)), (.getfield 46, 3, (11, 15, 0)), (.iload 8, 2, (0, 0, 0))] = true ∧ plen 252 [(.aload_n 0, 1, (0, 0, 0)), (.getfield 46, 3, (11, 15, 0)), (.iload 8, 2, (0, 0, 0))] = 258 := by decide +kernel
theorem ok_X11_pattern_262_3 : oks m_X11_pattern.1 m_X11_pattern.2.2.1 262 [(.aload_n 0, 1, (0, 0, 0)), (.getfield 46, 3, (11, 15, 0)), (.iload 10, 2, (0, 0, 0))] = true ∧ plen 262 [(.aload_n 0, 1, (0, 0, 0)), (.getfield 46, 3, (11, 15, 0)), (.iload 10, 2, (0, 0, 0))] = 268 := by decide +kernel
theorem ok_X11_pattern_272_3 : oks m_X11_pattern.1 m_X11_pattern.2.2.1 272 [(.aload_n 0, 1, (0, 0, 0)), (.getfield 46, 3, (11, 15, 0)), (.iload 8, 2, (0, 0, 0))] = true ∧ plen 272 [(.aload_n 0, 1, (0, 0, 0)), (.getfield 46, 3, (11, 15, 0)), (.iload 8, 2, (0, 0, 0))] = 278 := by decide +kernel
theorem ok_X11_pattern_280_1 : oks m_X11_pattern.1 m_X11_pattern.2.2.1 280 [(.iinc 9 1, 3, (0, 0, 0))] = true ∧ plen 280 [(.iinc 9 1, 3, (0, 0, 0))] = 283 := by decide +kernel
theorem ok_X11_pattern_286_2 : oks m_X11_pattern.1 m_X11_pattern.2.2.1 286 [(.iload_n 1, 1, (0, 0, 0)), (.iconst 1, 1, (0, 0, 0))] = true ∧ plen 286 [(.iload_n 1, 1, (0, 0, 0)), (.iconst 1, 1, (0, 0, 0))] = 288 := by decide +kernel
theorem ok_X11_pattern_291_2 : oks m_X11_pattern.1 m_X11_pattern.2.2.1 291 [(.iload_n 1, 1, (0, 0, 0)), (.iconst 4, 1, (0, 0, 0))] = true ∧ plen 291 [(.iload_n 1, 1, (0, 0, 0)), (.iconst 4, 1, (0, 0, 0))] = 293 := by decide +kernel
theorem ok_X11_pattern_296_2 : oks m_X11_pattern.1 m_X11_pattern.2.2.1 296 [(.iload_n 1, 1, (0, 0, 0)), (.iconst 5, 1, (0, 0, 0))] = true ∧ plen 296 [(.iload_n 1, 1, (0, 0, 0)), (.iconst 5, 1, (0, 0, 0))] = 298 := by decide +kernel
theorem ok_X11_pattern_301_1 : oks m_X11_pattern.1 m_X11_pattern.2.2.1 301 [(.iconst 1, 1, (0, 0, 0))] = true ∧ plen 301 [(.iconst 1, 1, (0, 0, 0))] = 302 := by decide +kernel
theorem ok_X11_pattern_305_1 : oks m_X11_pattern.1 m_X11_pattern.2.2.1 305 [(.iconst 0, 1, (0, 0, 0))] = true ∧ plen 305 [(.iconst 0, 1, (0, 0, 0))] = 306 := by decide +kernel
theorem ok_X11_pattern_306_5 : oks m_X11_pattern.1 m_X11_pattern.2.2.1 306 [(.istore 9, 2, (0, 0, 0)), (.aload_n 0, 1, (0, 0, 0)), (.getfield 46, 3, (11, 15, 0)), (.iload 8, 2, (0, 0, 0)), (.dup2, 1, (0, 0, 0))] = true ∧ plen 306 [(.istore 9, 2, (0, 0, 0)), (.aload_n 0, 1, (0, 0, 0)), (.getfield 46, 3, (11, 15, 0)), (.iload 8, 2, (0, 0, 0)), (.dup2, 1, (0, 0, 0))] = 315 := by decide +kernel
theorem ok_X11_pattern_316_1 : oks m_X11_pattern.1 m_X11_pattern.2.2.1 316 [(.iload 9, 2, (0, 0, 0))] = true ∧ plen 316 [(.iload 9, 2, (0, 0, 0))] = 318 := by decide +kernel
theorem ok_X11_pattern_321_1 : oks m_X11_pattern.1 m_X11_pattern.2.2.1 321 [(.iconst 0, 1, (0, 0, 0))] = true ∧ plen 321 [(.iconst 0, 1, (0, 0, 0))] = 322 := by decide +kernel
theorem ok_X11_pattern_325_1 : oks m_X11_pattern.1 m_X11_pattern.2.2.1 325 [(.iconst 1, 1, (0, 0, 0))] = true ∧ plen 325 [(.iconst 1, 1, (0, 0, 0))] = 326 := by decide +kernel
theorem ok_X11_pattern_326_1 : oks m_X11_pattern.1 m_X11_pattern.2.2.1 326 [(.iadd, 1, (0, 0, 0))] = true ∧ plen 326 [(.iadd, 1, (0, 0, 0))] = 327 := by decide +kernel
theorem ok_X11_pattern_328_7 : oks m_X11_pattern.1 m_X11_pattern.2.2.1 328 [(.aload_n 0, 1, (0, 0, 0)), (.getfield 49, 3, (11, 16, 0)), (.iload 8, 2, (0, 0, 0)), (.aload_n 0, 1, (0, 0, 0)), (.iload 4, 2, (0, 0, 0)), (.iload 5, 2, (0, 0, 0)), (.iload 6, 2, (0, 0, 0))] = true ∧ plen 328 [(.aload_n 0, 1, (0, 0, 0)), (.getfield 49, 3, (11, 16, 0)), (.iload 8, 2, (0, 0, 0)), (.aload_n 0, 1, (0, 0, 0)), (.iload 4, 2, (0, 0, 0)), (.iload 5, 2, (0, 0, 0)), (.iload 6, 2, (0, 0, 0))] = 341 := by decide +kernel
theorem ok_X11_pattern_345_7 : oks m_X11_pattern.1 m_X11_pattern.2.2.1 345 [(.aload_n 0, 1, (0, 0, 0)), (.dup, 1, (0, 0, 0)), (.getfield 197, 3, (11, 9, 0)), (.iconst 1, 1, (0, 0, 0)), (.iadd, 1, (0, 0, 0)), (.putfield 197, 3, (11, 9, 0)), (.iload 8, 2, (0, 0, 0))] = true ∧ plen 345 [(.aload_n 0, 1, (0, 0, 0)), (.dup, 1, (0, 0, 0)), (.getfield 197, 3, (11, 9, 0)), (.iconst 1, 1, (0, 0, 0)), (.iadd, 1, (0, 0, 0)), (.putfield 197, 3, (11, 9, 0)), (.iload 8, 2, (0, 0, 0))] = 357 := by decide +kernel
def B_X11_pattern_280 (x9 : Int) (σ : Sg) : Option ((Int × Sg) ⊕ Sg) :=
some (.inl (wrap (x9 + 1), σ))
def B_X11_pattern_279 (x9 : Int) (y0 : Int) (y1 : Int) (σ : Sg) : Option ((Int × Sg) ⊕ Sg) :=
(wrn 60 σ 13 y1 y0).bind fun s43 =>
B_X11_pattern_280 x9 s43
def B_X11_pattern_238 (x8 : Int) (x9 : Int) (x10 : Int) (y0 : Bool) (y1 : Int) (σ : Sg) : Option ((Int × Sg) ⊕ Sg) :=
(wrn 60 σ 17 y1 (b2i y0)).bind fun s35 =>
(rdn 60 s35 13 x10).bind fun v37 =>
(rdn 60 s35 13 x8).bind fun v39 =>
if v37 ≤ v39 then
(rdn 60 s35 13 x8).bind fun v41 =>
B_X11_pattern_279 x9 v41 x8 s35
else
(rdn 60 s35 13 x10).bind fun v45 =>
B_X11_pattern_279 x9 v45 x8 s35
def B_X11_pattern_237 (x8 : Int) (x9 : Int) (x10 : Int) (y0 : Int) (σ : Sg) : Option ((Int × Sg) ⊕ Sg) :=
B_X11_pattern_238 x8 x9 x10 false y0 σ
def B_X11_pattern_206 (x8 : Int) (x9 : Int) (x10 : Int) (y0 : Bool) (y1 : Int) (σ : Sg) : Option ((Int × Sg) ⊕ Sg) :=
(wrn 60 σ 16 y1 (b2i y0)).bind fun s31 =>
(rdn 60 s31 17 x8).bind fun v33 =>
if v33 = 0 then
B_X11_pattern_237 x8 x9 x10 x8 s31
else
(rdn 60 s31 17 x10).bind fun v47 =>
if v47 = 0 then
B_X11_pattern_237 x8 x9 x10 x8 s31
else
B_X11_pattern_238 x8 x9 x10 true x8 s31
def B_X11_pattern_201 (x8 : Int) (x9 : Int) (x10 : Int) (y0 : Int) (σ : Sg) : Option ((Int × Sg) ⊕ Sg) :=
B_X11_pattern_206 x8 x9 x10 true y0 σ
def L_X11_pattern_119 (x4 : Int) (x5 : Int) (x6 : Int) (x8 : Int) (x9 : Int) (σ : Sg) : Option ((Int × Sg) ⊕ Sg) :=
if 3 ≤ x9 then
some (.inr σ)
else
bnd (F_X11_pick x4 x5 x6 x9) fun v19 =>
(wrn 180 σ 11 (wrap ((wrap (3 * x8)) + x9)) v19).bind fun s21 =>
if v19 = (-1) then
B_X11_pattern_280 x9 s21
else
(rdn 60 s21 15 x8).bind fun v23 =>
(rdn 60 s21 15 v19).bind fun v25 =>
(wrn 60 s21 15 x8 (jor v23 v25)).bind fun s27 =>
(rdn 60 s27 16 x8).bind fun v29 =>
if v29 = 0 then
(rdn 60 s27 16 v19).bind fun v49 =>
if v49 = 0 then
B_X11_pattern_206 x8 x9 v19 false x8 s27
else
B_X11_pattern_201 x8 x9 v19 x8 s27
else
B_X11_pattern_201 x8 x9 v19 x8 s27
def B_X11_pattern_326 (x4 : Int) (x5 : Int) (x6 : Int) (x8 : Int) (y0 : Bool) (y1 : Int) (y2 : Int) (σ : Sg) : Option (Int × Sg) :=
(wrn 60 σ 13 y2 (wrap (y1 + (b2i y0)))).bind fun s55 =>
(F_X11_sizeOf x4 x5 x6 s55).bind fun q57 =>
(wrn 60 s55 14 x8 q57).bind fun s59 =>
bnd (up2 s59 0 9 (wrap ((s59 0 9) + 1))) fun s61 =>
some (x8, s61)
def B_X11_pattern_306 (x4 : Int) (x5 : Int) (x6 : Int) (x8 : Int) (y0 : Bool) (σ : Sg) : Option (Int × Sg) :=
(rdn 60 σ 13 x8).bind fun v53 =>
if y0 = true then
B_X11_pattern_326 x4 x5 x6 x8 false v53 x8 σ
else
B_X11_pattern_326 x4 x5 x6 x8 true v53 x8 σ
def B_X11_pattern_301 (x4 : Int) (x5 : Int) (x6 : Int) (x8 : Int) (σ : Sg) : Option (Int × Sg) :=
B_X11_pattern_306 x4 x5 x6 x8 true σ
def B_X11_pattern_107 (x1 : Int) (x4 : Int) (x5 : Int) (x6 : Int) (x8 : Int) (y0 : Bool) (y1 : Int) (σ : Sg) : Option (Int × Sg) :=
(wrn 60 σ 17 y1 (b2i y0)).bind fun s15 =>
(wrn 60 s15 13 x8 0).bind fun s17 =>
(iter (fun a : (Int × Sg) => L_X11_pattern_119 x4 x5 x6 x8 a.1 a.2) 4 (0, s17)).bind fun y51 =>
if x1 = 1 then
B_X11_pattern_301 x4 x5 x6 x8 y51
else
if x1 = 4 then
B_X11_pattern_301 x4 x5 x6 x8 y51
else
if x1 = 5 then
B_X11_pattern_301 x4 x5 x6 x8 y51
else
B_X11_pattern_306 x4 x5 x6 x8 false y51
def B_X11_pattern_106 (x1 : Int) (x4 : Int) (x5 : Int) (x6 : Int) (x8 : Int) (y0 : Int) (σ : Sg) : Option (Int × Sg) :=
B_X11_pattern_107 x1 x4 x5 x6 x8 false y0 σ
def B_X11_pattern_74 (x1 : Int) (x4 : Int) (x5 : Int) (x6 : Int) (x8 : Int) (y0 : Bool) (y1 : Int) (σ : Sg) : Option (Int × Sg) :=
(wrn 60 σ 16 y1 (b2i y0)).bind fun s13 =>
if x1 = 1 then
B_X11_pattern_106 x1 x4 x5 x6 x8 x8 s13
else
if x1 = 5 then
B_X11_pattern_106 x1 x4 x5 x6 x8 x8 s13
else
if x1 = 3 then
B_X11_pattern_106 x1 x4 x5 x6 x8 x8 s13
else
if x1 = 6 then
B_X11_pattern_106 x1 x4 x5 x6 x8 x8 s13
else
B_X11_pattern_107 x1 x4 x5 x6 x8 true x8 s13
def B_X11_pattern_57 (x1 : Int) (x4 : Int) (x5 : Int) (x6 : Int) (x8 : Int) (y0 : Int) (y1 : Int) (σ : Sg) : Option (Int × Sg) :=
(wrn 60 σ 15 y1 y0).bind fun s11 =>
if x1 = 5 then
B_X11_pattern_74 x1 x4 x5 x6 x8 true x8 s11
else
B_X11_pattern_74 x1 x4 x5 x6 x8 false x8 s11
def F_X11_pattern (a1 : Int) (a2 : Int) (a3 : Int) (a4 : Int) (a5 : Int) (a6 : Int) (a7 : Int) (σ : Sg) : Option (Int × Sg) :=
bnd (σ 0 9) fun v1 =>
(wrn 60 σ 8 v1 a1).bind fun s3 =>
(wrn 60 s3 9 v1 a2).bind fun s5 =>
(wrn 60 s5 10 v1 a3).bind fun s7 =>
(wrn 60 s7 12 v1 a7).bind fun s9 =>
if a1 = 1 then
B_X11_pattern_57 a1 a4 a5 a6 v1 (jshl 1 a2) v1 s9
else
B_X11_pattern_57 a1 a4 a5 a6 v1 0 v1 s9
theorem lk_X11_pattern (l : Launch) (d : Nat) (hd : 1 ≤ d) (a1 : Int) (a2 : Int) (a3 : Int) (a4 : Int) (a5 : Int) (a6 : Int) (a7 : Int) (σ : Sg) (q : (Int × Sg)) (h : F_X11_pattern a1 a2 a3 a4 a5 a6 a7 σ = some q) : CT l d m_X11_pattern.2.1 m_X11_pattern.2.2.1 m_X11_pattern.2.2.2.1 m_X11_pattern.2.2.2.2 [.inr 0, .inl a1, .inl a2, .inl a3, .inl a4, .inl a5, .inl a6, .inl a7] (LAYM, σ) (some (.inl q.1)) (LAYM, q.2) := by
  obtain ⟨d, rfl⟩ : ∃ e, d = e + 1 := ⟨d - 1, by omega⟩
  have key : Go l m_X11_pattern (d + 1) LAYM (.inl (some (.inl q.1))) q.2 0 [some (.inr 0), some (.inl a1), some (.inl a2), some (.inl a3), some (.inl a4), some (.inl a5), some (.inl a6), some (.inl a7), none, none, none] [] σ := by
    unfold F_X11_pattern at h
    have hL_X11_pattern_119 : ∀ (x1 : Int) (x4 : Int) (x5 : Int) (x6 : Int) (x8 : Int) (n : Nat) (a : (Int × Sg)) (y : Sg), iter (fun a : (Int × Sg) => L_X11_pattern_119 x4 x5 x6 x8 a.1 a.2) n a = some y → (fun y : Sg => Go l m_X11_pattern (d + 1) LAYM (.inl (some (.inl q.1))) q.2 286 [some (.inr 0), some (.inl x1), none, none, some (.inl x4), some (.inl x5), some (.inl x6), none, some (.inl x8), none, none] [] y) y → (fun a : (Int × Sg) => Go l m_X11_pattern (d + 1) LAYM (.inl (some (.inl q.1))) q.2 119 [some (.inr 0), some (.inl x1), none, none, some (.inl x4), some (.inl x5), some (.inl x6), none, some (.inl x8), some (.inl a.1), none] [] a.2) a := by
      intro x1 x4 x5 x6 x8
      refine go_iter (G := fun a : (Int × Sg) => Go l m_X11_pattern (d + 1) LAYM (.inl (some (.inl q.1))) q.2 119 [some (.inr 0), some (.inl x1), none, none, some (.inl x4), some (.inl x5), some (.inl x6), none, some (.inl x8), some (.inl a.1), none] [] a.2) (K := fun y : Sg => Go l m_X11_pattern (d + 1) LAYM (.inl (some (.inl q.1))) q.2 286 [some (.inr 0), some (.inl x1), none, none, some (.inl x4), some (.inl x5), some (.inl x6), none, some (.inl x8), none, none] [] y) ?_
      rintro ⟨x9, σ⟩ w h hK
      replace h : L_X11_pattern_119 x4 x5 x6 x8 x9 σ = some w := h
      show Go l m_X11_pattern (d + 1) LAYM (.inl (some (.inl q.1))) q.2 119 [some (.inr 0), some (.inl x1), none, none, some (.inl x4), some (.inl x5), some (.inl x6), none, some (.inl x8), some (.inl x9), none] [] σ
      unfold L_X11_pattern_119 at h
      have hB_X11_pattern_280 : ∀ (x9 : Int) (σ : Sg), B_X11_pattern_280 x9 σ = some w → Go l m_X11_pattern (d + 1) LAYM (.inl (some (.inl q.1))) q.2 280 [some (.inr 0), some (.inl x1), none, none, some (.inl x4), some (.inl x5), some (.inl x6), none, some (.inl x8), some (.inl x9), none] [] σ := by
        intro x9 σ h
        unfold B_X11_pattern_280 at h
        refine go_ops ok_X11_pattern_280_1 (L' := [some (.inr 0), some (.inl x1), none, none, some (.inl x4), some (.inl x5), some (.inl x6), none, some (.inl x8), some (.inl (wrap (x9 + 1))), none]) (st' := []) (σ1 := σ) rfl ?_
        refine go_goto dc_X11_pattern_283 (by rfl) ?_
        cases h
        exact hK
      have hB_X11_pattern_279 : ∀ (x9 : Int) (y0 : Int) (y1 : Int) (σ : Sg), B_X11_pattern_279 x9 y0 y1 σ = some w → Go l m_X11_pattern (d + 1) LAYM (.inl (some (.inl q.1))) q.2 279 [some (.inr 0), some (.inl x1), none, none, some (.inl x4), some (.inl x5), some (.inl x6), none, some (.inl x8), some (.inl x9), none] [.inl y0, .inl y1, .inr 13] σ := by
        intro x9 y0 y1 σ h
        unfold B_X11_pattern_279 at h
        obtain ⟨s43, e44, h⟩ := bind_inv h
        refine go_wr (k := 13) dc_X11_pattern_279 rfl e44 ?_
        exact hB_X11_pattern_280 x9 s43 h
      have hB_X11_pattern_238 : ∀ (x9 : Int) (x10 : Int) (y0 : Bool) (y1 : Int) (σ : Sg), B_X11_pattern_238 x8 x9 x10 y0 y1 σ = some w → Go l m_X11_pattern (d + 1) LAYM (.inl (some (.inl q.1))) q.2 238 [some (.inr 0), some (.inl x1), none, none, some (.inl x4), some (.inl x5), some (.inl x6), none, some (.inl x8), some (.inl x9), some (.inl x10)] [.inl (b2i y0), .inl y1, .inr 17] σ := by
        intro x9 x10 y0 y1 σ h
        unfold B_X11_pattern_238 at h
        obtain ⟨s35, e36, h⟩ := bind_inv h
        refine go_wrb (k := 17) dc_X11_pattern_238 rfl (wbn_b (b := y0) e36) ?_
        refine go_ops ok_X11_pattern_239_6 (L' := [some (.inr 0), some (.inl x1), none, none, some (.inl x4), some (.inl x5), some (.inl x6), none, some (.inl x8), some (.inl x9), some (.inl x10)]) (st' := [.inl x10, .inr 13, .inl x8, .inr 13]) (σ1 := s35) rfl ?_
        obtain ⟨v37, e38, h⟩ := bind_inv h
        refine go_rd (k := 13) dc_X11_pattern_251 rfl e38 ?_
        refine go_ops ok_X11_pattern_252_3 (L' := [some (.inr 0), some (.inl x1), none, none, some (.inl x4), some (.inl x5), some (.inl x6), none, some (.inl x8), some (.inl x9), some (.inl x10)]) (st' := [.inl x8, .inr 13, .inl v37, .inl x8, .inr 13]) (σ1 := s35) rfl ?_
        obtain ⟨v39, e40, h⟩ := bind_inv h
        refine go_rd (k := 13) dc_X11_pattern_258 rfl e40 ?_
        refine go_icmp_le dc_X11_pattern_259 (by rfl) (fun hc => ?_) (fun hc => ?_)
        · replace h := (if_pos hc).symm.trans h
          refine go_ops ok_X11_pattern_272_3 (L' := [some (.inr 0), some (.inl x1), none, none, some (.inl x4), some (.inl x5), some (.inl x6), none, some (.inl x8), some (.inl x9), some (.inl x10)]) (st' := [.inl x8, .inr 13, .inl x8, .inr 13]) (σ1 := s35) rfl ?_
          obtain ⟨v41, e42, h⟩ := bind_inv h
          refine go_rd (k := 13) dc_X11_pattern_278 rfl e42 ?_
          refine go_wk (L' := [some (.inr 0), some (.inl x1), none, none, some (.inl x4), some (.inl x5), some (.inl x6), none, some (.inl x8), some (.inl x9), none]) ⟨rfl, rfl, rfl, rfl, rfl, rfl, rfl, trivial⟩ ?_
          exact hB_X11_pattern_279 x9 v41 x8 s35 h
        · replace h := (if_neg hc).symm.trans h
          refine go_ops ok_X11_pattern_262_3 (L' := [some (.inr 0), some (.inl x1), none, none, some (.inl x4), some (.inl x5), some (.inl x6), none, some (.inl x8), some (.inl x9), some (.inl x10)]) (st' := [.inl x10, .inr 13, .inl x8, .inr 13]) (σ1 := s35) rfl ?_
          obtain ⟨v45, e46, h⟩ := bind_inv h
          refine go_rd (k := 13) dc_X11_pattern_268 rfl e46 ?_
          refine go_goto dc_X11_pattern_269 (by rfl) ?_
          refine go_wk (L' := [some (.inr 0), some (.inl x1), none, none, some (.inl x4), some (.inl x5), some (.inl x6), none, some (.inl x8), some (.inl x9), none]) ⟨rfl, rfl, rfl, rfl, rfl, rfl, rfl, trivial⟩ ?_
          exact hB_X11_pattern_279 x9 v45 x8 s35 h
      have hB_X11_pattern_237 : ∀ (x9 : Int) (x10 : Int) (y0 : Int) (σ : Sg), B_X11_pattern_237 x8 x9 x10 y0 σ = some w → Go l m_X11_pattern (d + 1) LAYM (.inl (some (.inl q.1))) q.2 237 [some (.inr 0), some (.inl x1), none, none, some (.inl x4), some (.inl x5), some (.inl x6), none, some (.inl x8), some (.inl x9), some (.inl x10)] [.inl y0, .inr 17] σ := by
        intro x9 x10 y0 σ h
        unfold B_X11_pattern_237 at h
        refine go_ops ok_X11_pattern_237_1 (L' := [some (.inr 0), some (.inl x1), none, none, some (.inl x4), some (.inl x5), some (.inl x6), none, some (.inl x8), some (.inl x9), some (.inl x10)]) (st' := [.inl 0, .inl y0, .inr 17]) (σ1 := σ) rfl ?_
        exact hB_X11_pattern_238 x9 x10 false y0 σ h
      have hB_X11_pattern_206 : ∀ (x9 : Int) (x10 : Int) (y0 : Bool) (y1 : Int) (σ : Sg), B_X11_pattern_206 x8 x9 x10 y0 y1 σ = some w → Go l m_X11_pattern (d + 1) LAYM (.inl (some (.inl q.1))) q.2 206 [some (.inr 0), some (.inl x1), none, none, some (.inl x4), some (.inl x5), some (.inl x6), none, some (.inl x8), some (.inl x9), some (.inl x10)] [.inl (b2i y0), .inl y1, .inr 16] σ := by
        intro x9 x10 y0 y1 σ h
        unfold B_X11_pattern_206 at h
        obtain ⟨s31, e32, h⟩ := bind_inv h
        refine go_wrb (k := 16) dc_X11_pattern_206 rfl (wbn_b (b := y0) e32) ?_
        refine go_ops ok_X11_pattern_207_6 (L' := [some (.inr 0), some (.inl x1), none, none, some (.inl x4), some (.inl x5), some (.inl x6), none, some (.inl x8), some (.inl x9), some (.inl x10)]) (st' := [.inl x8, .inr 17, .inl x8, .inr 17]) (σ1 := s31) rfl ?_
        obtain ⟨v33, e34, h⟩ := bind_inv h
        refine go_rdb (k := 17) dc_X11_pattern_219 rfl e34 ?_
        refine go_if_eq dc_X11_pattern_220 (by rfl) (fun hc => ?_) (fun hc => ?_)
        · replace h := (if_pos hc).symm.trans h
          exact hB_X11_pattern_237 x9 x10 x8 s31 h
        · replace h := (if_neg hc).symm.trans h
          refine go_ops ok_X11_pattern_223_3 (L' := [some (.inr 0), some (.inl x1), none, none, some (.inl x4), some (.inl x5), some (.inl x6), none, some (.inl x8), some (.inl x9), some (.inl x10)]) (st' := [.inl x10, .inr 17, .inl x8, .inr 17]) (σ1 := s31) rfl ?_
          obtain ⟨v47, e48, h⟩ := bind_inv h
          refine go_rdb (k := 17) dc_X11_pattern_229 rfl e48 ?_
          refine go_if_eq dc_X11_pattern_230 (by rfl) (fun hc => ?_) (fun hc => ?_)
          · replace h := (if_pos hc).symm.trans h
            exact hB_X11_pattern_237 x9 x10 x8 s31 h
          · replace h := (if_neg hc).symm.trans h
            refine go_ops ok_X11_pattern_233_1 (L' := [some (.inr 0), some (.inl x1), none, none, some (.inl x4), some (.inl x5), some (.inl x6), none, some (.inl x8), some (.inl x9), some (.inl x10)]) (st' := [.inl 1, .inl x8, .inr 17]) (σ1 := s31) rfl ?_
            refine go_goto dc_X11_pattern_234 (by rfl) ?_
            exact hB_X11_pattern_238 x9 x10 true x8 s31 h
      have hB_X11_pattern_201 : ∀ (x9 : Int) (x10 : Int) (y0 : Int) (σ : Sg), B_X11_pattern_201 x8 x9 x10 y0 σ = some w → Go l m_X11_pattern (d + 1) LAYM (.inl (some (.inl q.1))) q.2 201 [some (.inr 0), some (.inl x1), none, none, some (.inl x4), some (.inl x5), some (.inl x6), none, some (.inl x8), some (.inl x9), some (.inl x10)] [.inl y0, .inr 16] σ := by
        intro x9 x10 y0 σ h
        unfold B_X11_pattern_201 at h
        refine go_ops ok_X11_pattern_201_1 (L' := [some (.inr 0), some (.inl x1), none, none, some (.inl x4), some (.inl x5), some (.inl x6), none, some (.inl x8), some (.inl x9), some (.inl x10)]) (st' := [.inl 1, .inl y0, .inr 16]) (σ1 := σ) rfl ?_
        refine go_goto dc_X11_pattern_202 (by rfl) ?_
        exact hB_X11_pattern_206 x9 x10 true y0 σ h
      refine go_ops ok_X11_pattern_119_2 (L' := [some (.inr 0), some (.inl x1), none, none, some (.inl x4), some (.inl x5), some (.inl x6), none, some (.inl x8), some (.inl x9), none]) (st' := [.inl 3, .inl x9]) (σ1 := σ) rfl ?_
      refine go_icmp_ge dc_X11_pattern_122 (by rfl) (fun hc => ?_) (fun hc => ?_)
      · replace h := (if_pos hc).symm.trans h
        cases h
        refine go_wk (L' := [some (.inr 0), some (.inl x1), none, none, some (.inl x4), some (.inl x5), some (.inl x6), none, some (.inl x8), none, none]) ⟨rfl, rfl, rfl, rfl, rfl, rfl, trivial⟩ ?_
        exact hK
      · replace h := (if_neg hc).symm.trans h
        refine go_ops ok_X11_pattern_125_4 (L' := [some (.inr 0), some (.inl x1), none, none, some (.inl x4), some (.inl x5), some (.inl x6), none, some (.inl x8), some (.inl x9), none]) (st' := [.inl x9, .inl x6, .inl x5, .inl x4]) (σ1 := σ) rfl ?_
        refine go_S (M1 := m_X11_pick) (as := [.inl x4, .inl x5, .inl x6, .inl x9]) (st := []) dc_X11_pattern_133 ln_11_175 sm_X11_pick mk_X11_pick rfl (Nat.le_of_ble_eq_true rfl) (Nat.le_refl _) (v := (some (.inl (F_X11_pick x4 x5 x6 x9)))) (σ1 := σ) (lk_X11_pick l d (by omega) x4 x5 x6 x9 σ _ rfl) _ rfl ?_
        obtain ⟨v19, e20, h⟩ := bnd_inv h
        refine go_ops ok_X11_pattern_136_9 (L' := [some (.inr 0), some (.inl x1), none, none, some (.inl x4), some (.inl x5), some (.inl x6), none, some (.inl x8), some (.inl x9), some (.inl v19)]) (st' := [.inl v19, .inl (wrap ((wrap (3 * x8)) + x9)), .inr 11]) (σ1 := σ) (by subst e20; rfl) ?_
        obtain ⟨s21, e22, h⟩ := bind_inv h
        refine go_wr (k := 11) dc_X11_pattern_151 rfl e22 ?_
        refine go_ops ok_X11_pattern_152_2 (L' := [some (.inr 0), some (.inl x1), none, none, some (.inl x4), some (.inl x5), some (.inl x6), none, some (.inl x8), some (.inl x9), some (.inl v19)]) (st' := [.inl (-1), .inl v19]) (σ1 := s21) rfl ?_
        refine go_icmp_eq dc_X11_pattern_155 (by rfl) (fun hc => ?_) (fun hc => ?_)
        · replace h := (if_pos hc).symm.trans h
          refine go_wk (L' := [some (.inr 0), some (.inl x1), none, none, some (.inl x4), some (.inl x5), some (.inl x6), none, some (.inl x8), some (.inl x9), none]) ⟨rfl, rfl, rfl, rfl, rfl, rfl, rfl, trivial⟩ ?_
          exact hB_X11_pattern_280 x9 s21 h
        · replace h := (if_neg hc).symm.trans h
          refine go_ops ok_X11_pattern_158_4 (L' := [some (.inr 0), some (.inl x1), none, none, some (.inl x4), some (.inl x5), some (.inl x6), none, some (.inl x8), some (.inl x9), some (.inl v19)]) (st' := [.inl x8, .inr 15, .inl x8, .inr 15]) (σ1 := s21) rfl ?_
          obtain ⟨v23, e24, h⟩ := bind_inv h
          refine go_rd (k := 15) dc_X11_pattern_165 rfl e24 ?_
          refine go_ops ok_X11_pattern_166_3 (L' := [some (.inr 0), some (.inl x1), none, none, some (.inl x4), some (.inl x5), some (.inl x6), none, some (.inl x8), some (.inl x9), some (.inl v19)]) (st' := [.inl v19, .inr 15, .inl v23, .inl x8, .inr 15]) (σ1 := s21) rfl ?_
          obtain ⟨v25, e26, h⟩ := bind_inv h
          refine go_rd (k := 15) dc_X11_pattern_172 rfl e26 ?_
          refine go_ops ok_X11_pattern_173_1 (L' := [some (.inr 0), some (.inl x1), none, none, some (.inl x4), some (.inl x5), some (.inl x6), none, some (.inl x8), some (.inl x9), some (.inl v19)]) (st' := [.inl (jor v23 v25), .inl x8, .inr 15]) (σ1 := s21) rfl ?_
          obtain ⟨s27, e28, h⟩ := bind_inv h
          refine go_wr (k := 15) dc_X11_pattern_174 rfl e28 ?_
          refine go_ops ok_X11_pattern_175_6 (L' := [some (.inr 0), some (.inl x1), none, none, some (.inl x4), some (.inl x5), some (.inl x6), none, some (.inl x8), some (.inl x9), some (.inl v19)]) (st' := [.inl x8, .inr 16, .inl x8, .inr 16]) (σ1 := s27) rfl ?_
          obtain ⟨v29, e30, h⟩ := bind_inv h
          refine go_rdb (k := 16) dc_X11_pattern_187 rfl e30 ?_
          refine go_if_ne dc_X11_pattern_188 (by rfl) (fun hc => ?_) (fun hc => ?_)
          · replace h := (if_neg hc).symm.trans h
            exact hB_X11_pattern_201 x9 v19 x8 s27 h
          · replace h := (if_pos hc).symm.trans h
            refine go_ops ok_X11_pattern_191_3 (L' := [some (.inr 0), some (.inl x1), none, none, some (.inl x4), some (.inl x5), some (.inl x6), none, some (.inl x8), some (.inl x9), some (.inl v19)]) (st' := [.inl v19, .inr 16, .inl x8, .inr 16]) (σ1 := s27) rfl ?_
            obtain ⟨v49, e50, h⟩ := bind_inv h
            refine go_rdb (k := 16) dc_X11_pattern_197 rfl e50 ?_
            refine go_if_eq dc_X11_pattern_198 (by rfl) (fun hc => ?_) (fun hc => ?_)
            · replace h := (if_pos hc).symm.trans h
              refine go_ops ok_X11_pattern_205_1 (L' := [some (.inr 0), some (.inl x1), none, none, some (.inl x4), some (.inl x5), some (.inl x6), none, some (.inl x8), some (.inl x9), some (.inl v19)]) (st' := [.inl 0, .inl x8, .inr 16]) (σ1 := s27) rfl ?_
              exact hB_X11_pattern_206 x9 v19 false x8 s27 h
            · replace h := (if_neg hc).symm.trans h
              exact hB_X11_pattern_201 x9 v19 x8 s27 h
    have hB_X11_pattern_326 : ∀ (x4 : Int) (x5 : Int) (x6 : Int) (x8 : Int) (y0 : Bool) (y1 : Int) (y2 : Int) (σ : Sg), B_X11_pattern_326 x4 x5 x6 x8 y0 y1 y2 σ = some q → Go l m_X11_pattern (d + 1) LAYM (.inl (some (.inl q.1))) q.2 326 [some (.inr 0), none, none, none, some (.inl x4), some (.inl x5), some (.inl x6), none, some (.inl x8), none, none] [.inl (b2i y0), .inl y1, .inl y2, .inr 13] σ := by
      intro x4 x5 x6 x8 y0 y1 y2 σ h
      unfold B_X11_pattern_326 at h
      refine go_ops ok_X11_pattern_326_1 (L' := [some (.inr 0), none, none, none, some (.inl x4), some (.inl x5), some (.inl x6), none, some (.inl x8), none, none]) (st' := [.inl (wrap (y1 + (b2i y0))), .inl y2, .inr 13]) (σ1 := σ) rfl ?_
      obtain ⟨s55, e56, h⟩ := bind_inv h
      refine go_wr (k := 13) dc_X11_pattern_327 rfl e56 ?_
      refine go_ops ok_X11_pattern_328_7 (L' := [some (.inr 0), none, none, none, some (.inl x4), some (.inl x5), some (.inl x6), none, some (.inl x8), none, none]) (st' := [.inl x6, .inl x5, .inl x4, .inr 0, .inl x8, .inr 14]) (σ1 := s55) rfl ?_
      obtain ⟨q57, e58, h⟩ := bind_inv h
      refine go_V (M1 := m_X11_sizeOf) (as := [.inl x4, .inl x5, .inl x6]) (st := [.inl x8, .inr 14]) (k := 0) (ci := 11) dc_X11_pattern_341 ln_11_200 im_X11_sizeOf (by decide) rfl rfl mk_X11_sizeOf rfl (Nat.le_of_ble_eq_true rfl) (Nat.le_refl _) (v := (some (.inl q57))) (σ1 := s55) (lk_X11_sizeOf l d (by omega) x4 x5 x6 s55 q57 e58) _ rfl ?_
      obtain ⟨s59, e60, h⟩ := bind_inv h
      refine go_wr (k := 14) dc_X11_pattern_344 rfl e60 ?_
      obtain ⟨s61, e62, h⟩ := bnd_inv h
      refine go_ops ok_X11_pattern_345_7 (L' := [some (.inr 0), none, none, none, some (.inl x4), some (.inl x5), some (.inl x6), none, some (.inl x8), none, none]) (st' := [.inl x8]) (σ1 := s61) (by subst e62; rfl) ?_
      have h9 := Option.some.inj h
      subst h9
      exact go_iret dc_X11_pattern_357 rfl
    have hB_X11_pattern_306 : ∀ (x4 : Int) (x5 : Int) (x6 : Int) (x8 : Int) (y0 : Bool) (σ : Sg), B_X11_pattern_306 x4 x5 x6 x8 y0 σ = some q → Go l m_X11_pattern (d + 1) LAYM (.inl (some (.inl q.1))) q.2 306 [some (.inr 0), none, none, none, some (.inl x4), some (.inl x5), some (.inl x6), none, some (.inl x8), none, none] [.inl (b2i y0)] σ := by
      intro x4 x5 x6 x8 y0 σ h
      unfold B_X11_pattern_306 at h
      refine go_ops ok_X11_pattern_306_5 (L' := [some (.inr 0), none, none, none, some (.inl x4), some (.inl x5), some (.inl x6), none, some (.inl x8), some (.inl (b2i y0)), none]) (st' := [.inl x8, .inr 13, .inl x8, .inr 13]) (σ1 := σ) rfl ?_
      obtain ⟨v53, e54, h⟩ := bind_inv h
      refine go_rd (k := 13) dc_X11_pattern_315 rfl e54 ?_
      refine go_ops ok_X11_pattern_316_1 (L' := [some (.inr 0), none, none, none, some (.inl x4), some (.inl x5), some (.inl x6), none, some (.inl x8), some (.inl (b2i y0)), none]) (st' := [.inl (b2i y0), .inl v53, .inl x8, .inr 13]) (σ1 := σ) rfl ?_
      refine go_ifb_eq dc_X11_pattern_318 (by rfl) (fun hc => ?_) (fun hc => ?_)
      · replace h := (if_neg hc).symm.trans h
        refine go_ops ok_X11_pattern_325_1 (L' := [some (.inr 0), none, none, none, some (.inl x4), some (.inl x5), some (.inl x6), none, some (.inl x8), some (.inl (b2i y0)), none]) (st' := [.inl 1, .inl v53, .inl x8, .inr 13]) (σ1 := σ) rfl ?_
        refine go_wk (L' := [some (.inr 0), none, none, none, some (.inl x4), some (.inl x5), some (.inl x6), none, some (.inl x8), none, none]) ⟨rfl, rfl, rfl, rfl, rfl, trivial⟩ ?_
        exact hB_X11_pattern_326 x4 x5 x6 x8 true v53 x8 σ h
      · replace h := (if_pos hc).symm.trans h
        refine go_ops ok_X11_pattern_321_1 (L' := [some (.inr 0), none, none, none, some (.inl x4), some (.inl x5), some (.inl x6), none, some (.inl x8), some (.inl (b2i y0)), none]) (st' := [.inl 0, .inl v53, .inl x8, .inr 13]) (σ1 := σ) rfl ?_
        refine go_goto dc_X11_pattern_322 (by rfl) ?_
        refine go_wk (L' := [some (.inr 0), none, none, none, some (.inl x4), some (.inl x5), some (.inl x6), none, some (.inl x8), none, none]) ⟨rfl, rfl, rfl, rfl, rfl, trivial⟩ ?_
        exact hB_X11_pattern_326 x4 x5 x6 x8 false v53 x8 σ h
    have hB_X11_pattern_301 : ∀ (x4 : Int) (x5 : Int) (x6 : Int) (x8 : Int) (σ : Sg), B_X11_pattern_301 x4 x5 x6 x8 σ = some q → Go l m_X11_pattern (d + 1) LAYM (.inl (some (.inl q.1))) q.2 301 [some (.inr 0), none, none, none, some (.inl x4), some (.inl x5), some (.inl x6), none, some (.inl x8), none, none] [] σ := by
      intro x4 x5 x6 x8 σ h
      unfold B_X11_pattern_301 at h
      refine go_ops ok_X11_pattern_301_1 (L' := [some (.inr 0), none, none, none, some (.inl x4), some (.inl x5), some (.inl x6), none, some (.inl x8), none, none]) (st' := [.inl 1]) (σ1 := σ) rfl ?_
      refine go_goto dc_X11_pattern_302 (by rfl) ?_
      exact hB_X11_pattern_306 x4 x5 x6 x8 true σ h
    have hB_X11_pattern_107 : ∀ (x1 : Int) (x4 : Int) (x5 : Int) (x6 : Int) (x8 : Int) (y0 : Bool) (y1 : Int) (σ : Sg), B_X11_pattern_107 x1 x4 x5 x6 x8 y0 y1 σ = some q → Go l m_X11_pattern (d + 1) LAYM (.inl (some (.inl q.1))) q.2 107 [some (.inr 0), some (.inl x1), none, none, some (.inl x4), some (.inl x5), some (.inl x6), none, some (.inl x8), none, none] [.inl (b2i y0), .inl y1, .inr 17] σ := by
      intro x1 x4 x5 x6 x8 y0 y1 σ h
      unfold B_X11_pattern_107 at h
      obtain ⟨s15, e16, h⟩ := bind_inv h
      refine go_wrb (k := 17) dc_X11_pattern_107 rfl (wbn_b (b := y0) e16) ?_
      refine go_ops ok_X11_pattern_108_4 (L' := [some (.inr 0), some (.inl x1), none, none, some (.inl x4), some (.inl x5), some (.inl x6), none, some (.inl x8), none, none]) (st' := [.inl 0, .inl x8, .inr 13]) (σ1 := s15) rfl ?_
      obtain ⟨s17, e18, h⟩ := bind_inv h
      refine go_wr (k := 13) dc_X11_pattern_115 rfl e18 ?_
      refine go_ops ok_X11_pattern_116_2 (L' := [some (.inr 0), some (.inl x1), none, none, some (.inl x4), some (.inl x5), some (.inl x6), none, some (.inl x8), some (.inl 0), none]) (st' := []) (σ1 := s17) rfl ?_
      obtain ⟨y51, e52, h⟩ := bind_inv h
      refine hL_X11_pattern_119 x1 x4 x5 x6 x8 4 (0, s17) y51 e52 ?_
      show Go l m_X11_pattern (d + 1) LAYM (.inl (some (.inl q.1))) q.2 286 [some (.inr 0), some (.inl x1), none, none, some (.inl x4), some (.inl x5), some (.inl x6), none, some (.inl x8), none, none] [] y51
      refine go_ops ok_X11_pattern_286_2 (L' := [some (.inr 0), some (.inl x1), none, none, some (.inl x4), some (.inl x5), some (.inl x6), none, some (.inl x8), none, none]) (st' := [.inl 1, .inl x1]) (σ1 := y51) rfl ?_
      refine go_icmp_eq dc_X11_pattern_288 (by rfl) (fun hc => ?_) (fun hc => ?_)
      · replace h := (if_pos hc).symm.trans h
        refine go_wk (L' := [some (.inr 0), none, none, none, some (.inl x4), some (.inl x5), some (.inl x6), none, some (.inl x8), none, none]) ⟨rfl, rfl, rfl, rfl, rfl, trivial⟩ ?_
        exact hB_X11_pattern_301 x4 x5 x6 x8 y51 h
      · replace h := (if_neg hc).symm.trans h
        refine go_ops ok_X11_pattern_291_2 (L' := [some (.inr 0), some (.inl x1), none, none, some (.inl x4), some (.inl x5), some (.inl x6), none, some (.inl x8), none, none]) (st' := [.inl 4, .inl x1]) (σ1 := y51) rfl ?_
        refine go_icmp_eq dc_X11_pattern_293 (by rfl) (fun hc => ?_) (fun hc => ?_)
        · replace h := (if_pos hc).symm.trans h
          refine go_wk (L' := [some (.inr 0), none, none, none, some (.inl x4), some (.inl x5), some (.inl x6), none, some (.inl x8), none, none]) ⟨rfl, rfl, rfl, rfl, rfl, trivial⟩ ?_
          exact hB_X11_pattern_301 x4 x5 x6 x8 y51 h
        · replace h := (if_neg hc).symm.trans h
          refine go_ops ok_X11_pattern_296_2 (L' := [some (.inr 0), some (.inl x1), none, none, some (.inl x4), some (.inl x5), some (.inl x6), none, some (.inl x8), none, none]) (st' := [.inl 5, .inl x1]) (σ1 := y51) rfl ?_
          refine go_icmp_ne dc_X11_pattern_298 (by rfl) (fun hc => ?_) (fun hc => ?_)
          · replace h := (if_neg hc).symm.trans h
            refine go_ops ok_X11_pattern_305_1 (L' := [some (.inr 0), some (.inl x1), none, none, some (.inl x4), some (.inl x5), some (.inl x6), none, some (.inl x8), none, none]) (st' := [.inl 0]) (σ1 := y51) rfl ?_
            refine go_wk (L' := [some (.inr 0), none, none, none, some (.inl x4), some (.inl x5), some (.inl x6), none, some (.inl x8), none, none]) ⟨rfl, rfl, rfl, rfl, rfl, trivial⟩ ?_
            exact hB_X11_pattern_306 x4 x5 x6 x8 false y51 h
          · replace h := (if_pos hc).symm.trans h
            refine go_wk (L' := [some (.inr 0), none, none, none, some (.inl x4), some (.inl x5), some (.inl x6), none, some (.inl x8), none, none]) ⟨rfl, rfl, rfl, rfl, rfl, trivial⟩ ?_
            exact hB_X11_pattern_301 x4 x5 x6 x8 y51 h
    have hB_X11_pattern_106 : ∀ (x1 : Int) (x4 : Int) (x5 : Int) (x6 : Int) (x8 : Int) (y0 : Int) (σ : Sg), B_X11_pattern_106 x1 x4 x5 x6 x8 y0 σ = some q → Go l m_X11_pattern (d + 1) LAYM (.inl (some (.inl q.1))) q.2 106 [some (.inr 0), some (.inl x1), none, none, some (.inl x4), some (.inl x5), some (.inl x6), none, some (.inl x8), none, none] [.inl y0, .inr 17] σ := by
      intro x1 x4 x5 x6 x8 y0 σ h
      unfold B_X11_pattern_106 at h
      refine go_ops ok_X11_pattern_106_1 (L' := [some (.inr 0), some (.inl x1), none, none, some (.inl x4), some (.inl x5), some (.inl x6), none, some (.inl x8), none, none]) (st' := [.inl 0, .inl y0, .inr 17]) (σ1 := σ) rfl ?_
      exact hB_X11_pattern_107 x1 x4 x5 x6 x8 false y0 σ h
    have hB_X11_pattern_74 : ∀ (x1 : Int) (x4 : Int) (x5 : Int) (x6 : Int) (x8 : Int) (y0 : Bool) (y1 : Int) (σ : Sg), B_X11_pattern_74 x1 x4 x5 x6 x8 y0 y1 σ = some q → Go l m_X11_pattern (d + 1) LAYM (.inl (some (.inl q.1))) q.2 74 [some (.inr 0), some (.inl x1), none, none, some (.inl x4), some (.inl x5), some (.inl x6), none, some (.inl x8), none, none] [.inl (b2i y0), .inl y1, .inr 16] σ := by
      intro x1 x4 x5 x6 x8 y0 y1 σ h
      unfold B_X11_pattern_74 at h
      obtain ⟨s13, e14, h⟩ := bind_inv h
      refine go_wrb (k := 16) dc_X11_pattern_74 rfl (wbn_b (b := y0) e14) ?_
      refine go_ops ok_X11_pattern_75_5 (L' := [some (.inr 0), some (.inl x1), none, none, some (.inl x4), some (.inl x5), some (.inl x6), none, some (.inl x8), none, none]) (st' := [.inl 1, .inl x1, .inl x8, .inr 17]) (σ1 := s13) rfl ?_
      refine go_icmp_eq dc_X11_pattern_83 (by rfl) (fun hc => ?_) (fun hc => ?_)
      · replace h := (if_pos hc).symm.trans h
        exact hB_X11_pattern_106 x1 x4 x5 x6 x8 x8 s13 h
      · replace h := (if_neg hc).symm.trans h
        refine go_ops ok_X11_pattern_86_2 (L' := [some (.inr 0), some (.inl x1), none, none, some (.inl x4), some (.inl x5), some (.inl x6), none, some (.inl x8), none, none]) (st' := [.inl 5, .inl x1, .inl x8, .inr 17]) (σ1 := s13) rfl ?_
        refine go_icmp_eq dc_X11_pattern_88 (by rfl) (fun hc => ?_) (fun hc => ?_)
        · replace h := (if_pos hc).symm.trans h
          exact hB_X11_pattern_106 x1 x4 x5 x6 x8 x8 s13 h
        · replace h := (if_neg hc).symm.trans h
          refine go_ops ok_X11_pattern_91_2 (L' := [some (.inr 0), some (.inl x1), none, none, some (.inl x4), some (.inl x5), some (.inl x6), none, some (.inl x8), none, none]) (st' := [.inl 3, .inl x1, .inl x8, .inr 17]) (σ1 := s13) rfl ?_
          refine go_icmp_eq dc_X11_pattern_93 (by rfl) (fun hc => ?_) (fun hc => ?_)
          · replace h := (if_pos hc).symm.trans h
            exact hB_X11_pattern_106 x1 x4 x5 x6 x8 x8 s13 h
          · replace h := (if_neg hc).symm.trans h
            refine go_ops ok_X11_pattern_96_2 (L' := [some (.inr 0), some (.inl x1), none, none, some (.inl x4), some (.inl x5), some (.inl x6), none, some (.inl x8), none, none]) (st' := [.inl 6, .inl x1, .inl x8, .inr 17]) (σ1 := s13) rfl ?_
            refine go_icmp_eq dc_X11_pattern_99 (by rfl) (fun hc => ?_) (fun hc => ?_)
            · replace h := (if_pos hc).symm.trans h
              exact hB_X11_pattern_106 x1 x4 x5 x6 x8 x8 s13 h
            · replace h := (if_neg hc).symm.trans h
              refine go_ops ok_X11_pattern_102_1 (L' := [some (.inr 0), some (.inl x1), none, none, some (.inl x4), some (.inl x5), some (.inl x6), none, some (.inl x8), none, none]) (st' := [.inl 1, .inl x8, .inr 17]) (σ1 := s13) rfl ?_
              refine go_goto dc_X11_pattern_103 (by rfl) ?_
              exact hB_X11_pattern_107 x1 x4 x5 x6 x8 true x8 s13 h
    have hB_X11_pattern_57 : ∀ (x1 : Int) (x4 : Int) (x5 : Int) (x6 : Int) (x8 : Int) (y0 : Int) (y1 : Int) (σ : Sg), B_X11_pattern_57 x1 x4 x5 x6 x8 y0 y1 σ = some q → Go l m_X11_pattern (d + 1) LAYM (.inl (some (.inl q.1))) q.2 57 [some (.inr 0), some (.inl x1), none, none, some (.inl x4), some (.inl x5), some (.inl x6), none, some (.inl x8), none, none] [.inl y0, .inl y1, .inr 15] σ := by
      intro x1 x4 x5 x6 x8 y0 y1 σ h
      unfold B_X11_pattern_57 at h
      obtain ⟨s11, e12, h⟩ := bind_inv h
      refine go_wr (k := 15) dc_X11_pattern_57 rfl e12 ?_
      refine go_ops ok_X11_pattern_58_5 (L' := [some (.inr 0), some (.inl x1), none, none, some (.inl x4), some (.inl x5), some (.inl x6), none, some (.inl x8), none, none]) (st' := [.inl 5, .inl x1, .inl x8, .inr 16]) (σ1 := s11) rfl ?_
      refine go_icmp_ne dc_X11_pattern_66 (by rfl) (fun hc => ?_) (fun hc => ?_)
      · replace h := (if_neg hc).symm.trans h
        refine go_ops ok_X11_pattern_73_1 (L' := [some (.inr 0), some (.inl x1), none, none, some (.inl x4), some (.inl x5), some (.inl x6), none, some (.inl x8), none, none]) (st' := [.inl 0, .inl x8, .inr 16]) (σ1 := s11) rfl ?_
        exact hB_X11_pattern_74 x1 x4 x5 x6 x8 false x8 s11 h
      · replace h := (if_pos hc).symm.trans h
        refine go_ops ok_X11_pattern_69_1 (L' := [some (.inr 0), some (.inl x1), none, none, some (.inl x4), some (.inl x5), some (.inl x6), none, some (.inl x8), none, none]) (st' := [.inl 1, .inl x8, .inr 16]) (σ1 := s11) rfl ?_
        refine go_goto dc_X11_pattern_70 (by rfl) ?_
        exact hB_X11_pattern_74 x1 x4 x5 x6 x8 true x8 s11 h
    obtain ⟨v1, e2, h⟩ := bnd_inv h
    refine go_ops ok_X11_pattern_0_7 (L' := [some (.inr 0), some (.inl a1), some (.inl a2), some (.inl a3), some (.inl a4), some (.inl a5), some (.inl a6), some (.inl a7), some (.inl v1), none, none]) (st' := [.inl a1, .inl v1, .inr 8]) (σ1 := σ) (by subst e2; rfl) ?_
    obtain ⟨s3, e4, h⟩ := bind_inv h
    refine go_wr (k := 8) dc_X11_pattern_13 rfl e4 ?_
    refine go_ops ok_X11_pattern_14_4 (L' := [some (.inr 0), some (.inl a1), some (.inl a2), some (.inl a3), some (.inl a4), some (.inl a5), some (.inl a6), some (.inl a7), some (.inl v1), none, none]) (st' := [.inl a2, .inl v1, .inr 9]) (σ1 := s3) rfl ?_
    obtain ⟨s5, e6, h⟩ := bind_inv h
    refine go_wr (k := 9) dc_X11_pattern_21 rfl e6 ?_
    refine go_ops ok_X11_pattern_22_4 (L' := [some (.inr 0), some (.inl a1), some (.inl a2), some (.inl a3), some (.inl a4), some (.inl a5), some (.inl a6), some (.inl a7), some (.inl v1), none, none]) (st' := [.inl a3, .inl v1, .inr 10]) (σ1 := s5) rfl ?_
    obtain ⟨s7, e8, h⟩ := bind_inv h
    refine go_wr (k := 10) dc_X11_pattern_29 rfl e8 ?_
    refine go_ops ok_X11_pattern_30_4 (L' := [some (.inr 0), some (.inl a1), some (.inl a2), some (.inl a3), some (.inl a4), some (.inl a5), some (.inl a6), some (.inl a7), some (.inl v1), none, none]) (st' := [.inl a7, .inl v1, .inr 12]) (σ1 := s7) rfl ?_
    obtain ⟨s9, e10, h⟩ := bind_inv h
    refine go_wr (k := 12) dc_X11_pattern_38 rfl e10 ?_
    refine go_ops ok_X11_pattern_39_5 (L' := [some (.inr 0), some (.inl a1), some (.inl a2), some (.inl a3), some (.inl a4), some (.inl a5), some (.inl a6), some (.inl a7), some (.inl v1), none, none]) (st' := [.inl 1, .inl a1, .inl v1, .inr 15]) (σ1 := s9) rfl ?_
    refine go_icmp_ne dc_X11_pattern_47 (by rfl) (fun hc => ?_) (fun hc => ?_)
    · replace h := (if_neg hc).symm.trans h
      refine go_ops ok_X11_pattern_56_1 (L' := [some (.inr 0), some (.inl a1), some (.inl a2), some (.inl a3), some (.inl a4), some (.inl a5), some (.inl a6), some (.inl a7), some (.inl v1), none, none]) (st' := [.inl 0, .inl v1, .inr 15]) (σ1 := s9) rfl ?_
      refine go_wk (L' := [some (.inr 0), some (.inl a1), none, none, some (.inl a4), some (.inl a5), some (.inl a6), none, some (.inl v1), none, none]) ⟨rfl, rfl, rfl, rfl, rfl, rfl, trivial⟩ ?_
      exact hB_X11_pattern_57 a1 a4 a5 a6 v1 0 v1 s9 h
    · replace h := (if_pos hc).symm.trans h
      refine go_ops ok_X11_pattern_50_3 (L' := [some (.inr 0), some (.inl a1), some (.inl a2), some (.inl a3), some (.inl a4), some (.inl a5), some (.inl a6), some (.inl a7), some (.inl v1), none, none]) (st' := [.inl (jshl 1 a2), .inl v1, .inr 15]) (σ1 := s9) rfl ?_
      refine go_goto dc_X11_pattern_53 (by rfl) ?_
      refine go_wk (L' := [some (.inr 0), some (.inl a1), none, none, some (.inl a4), some (.inl a5), some (.inl a6), none, some (.inl v1), none, none]) ⟨rfl, rfl, rfl, rfl, rfl, rfl, trivial⟩ ?_
      exact hB_X11_pattern_57 a1 a4 a5 a6 v1 (jshl 1 a2) v1 s9 h
  have hf := go_ct (as := [.inr 0, .inl a1, .inl a2, .inl a3, .inl a4, .inl a5, .inl a6, .inl a7]) mk_X11_pattern (by rfl) (Nat.le_of_ble_eq_true rfl) key
  exact hf
theorem dc_X11_depthOf_9 : decode m_X11_depthOf.2.2.1 9 = .ok (.if_icmp .ge 51, 3) := by decide +kernel
theorem dc_X11_depthOf_17 : decode m_X11_depthOf.2.2.1 17 = .ok (.invokestatic 175, 3) := by decide +kernel
theorem dc_X11_depthOf_25 : decode m_X11_depthOf.2.2.1 25 = .ok (.if_icmp .eq 25, 3) := by decide +kernel
theorem dc_X11_depthOf_34 : decode m_X11_depthOf.2.2.1 34 = .ok (.iaload, 1) := by decide +kernel
theorem dc_X11_depthOf_37 : decode m_X11_depthOf.2.2.1 37 = .ok (.if_icmp .le 13, 3) := by decide +kernel
theorem dc_X11_depthOf_46 : decode m_X11_depthOf.2.2.1 46 = .ok (.iaload, 1) := by decide +kernel
theorem dc_X11_depthOf_47 : decode m_X11_depthOf.2.2.1 47 = .ok (.goto 5, 3) := by decide +kernel
theorem dc_X11_depthOf_57 : decode m_X11_depthOf.2.2.1 57 = .ok (.goto (-51), 3) := by decide +kernel
theorem dc_X11_depthOf_64 : decode m_X11_depthOf.2.2.1 64 = .ok (.ireturn, 1) := by decide +kernel
theorem ok_X11_depthOf_0_4 : oks m_X11_depthOf.1 m_X11_depthOf.2.2.1 0 [(.iconst 0, 1, (0, 0, 0)), (.istore 4, 2, (0, 0, 0)), (.iconst 0, 1, (0, 0, 0)), (.istore 5, 2, (0, 0, 0))] = true ∧ plen 0 [(.iconst 0, 1, (0, 0, 0)), (.istore 4, 2, (0, 0, 0)), (.iconst 0, 1, (0, 0, 0)), (.istore 5, 2, (0, 0, 0))] = 6 := by decide +kernel
theorem ok_X11_depthOf_6_2 : oks m_X11_depthOf.1 m_X11_depthOf.2.2.1 6 [(.iload 5, 2, (0, 0, 0)), (.iconst 3, 1, (0, 0, 0))] = true ∧ plen 6 [(.iload 5, 2, (0, 0, 0)), (.iconst 3, 1, (0, 0, 0))] = 9 := by decide +kernel
theorem ok_X11_depthOf_12_4 : oks m_X11_depthOf.1 m_X11_depthOf.2.2.1 12 [(.iload_n 1, 1, (0, 0, 0)), (.iload_n 2, 1, (0, 0, 0)), (.iload_n 3, 1, (0, 0, 0)), (.iload 5, 2, (0, 0, 0))] = true ∧ plen 12 [(.iload_n 1, 1, (0, 0, 0)), (.iload_n 2, 1, (0, 0, 0)), (.iload_n 3, 1, (0, 0, 0)), (.iload 5, 2, (0, 0, 0))] = 17 := by decide +kernel
theorem ok_X11_depthOf_20_3 : oks m_X11_depthOf.1 m_X11_depthOf.2.2.1 20 [(.istore 6, 2, (0, 0, 0)), (.iload 6, 2, (0, 0, 0)), (.iconst (-1), 1, (0, 0, 0))] = true ∧ plen 20 [(.istore 6, 2, (0, 0, 0)), (.iload 6, 2, (0, 0, 0)), (.iconst (-1), 1, (0, 0, 0))] = 25 := by decide +kernel
theorem ok_X11_depthOf_28_3 : oks m_X11_depthOf.1 m_X11_depthOf.2.2.1 28 [(.aload_n 0, 1, (0, 0, 0)), (.getfield 46, 3, (11, 15, 0)), (.iload 6, 2, (0, 0, 0))] = true ∧ plen 28 [(.aload_n 0, 1, (0, 0, 0)), (.getfield 46, 3, (11, 15, 0)), (.iload 6, 2, (0, 0, 0))] = 34 := by decide +kernel
theorem ok_X11_depthOf_35_1 : oks m_X11_depthOf.1 m_X11_depthOf.2.2.1 35 [(.iload 4, 2, (0, 0, 0))] = true ∧ plen 35 [(.iload 4, 2, (0, 0, 0))] = 37 := by decide +kernel
theorem ok_X11_depthOf_40_3 : oks m_X11_depthOf.1 m_X11_depthOf.2.2.1 40 [(.aload_n 0, 1, (0, 0, 0)), (.getfield 46, 3, (11, 15, 0)), (.iload 6, 2, (0, 0, 0))] = true ∧ plen 40 [(.aload_n 0, 1, (0, 0, 0)), (.getfield 46, 3, (11, 15, 0)), (.iload 6, 2, (0, 0, 0))] = 46 := by decide +kernel
theorem ok_X11_depthOf_50_1 : oks m_X11_depthOf.1 m_X11_depthOf.2.2.1 50 [(.iload 4, 2, (0, 0, 0))] = true ∧ plen 50 [(.iload 4, 2, (0, 0, 0))] = 52 := by decide +kernel
theorem ok_X11_depthOf_52_2 : oks m_X11_depthOf.1 m_X11_depthOf.2.2.1 52 [(.istore 4, 2, (0, 0, 0)), (.iinc 5 1, 3, (0, 0, 0))] = true ∧ plen 52 [(.istore 4, 2, (0, 0, 0)), (.iinc 5 1, 3, (0, 0, 0))] = 57 := by decide +kernel
theorem ok_X11_depthOf_60_3 : oks m_X11_depthOf.1 m_X11_depthOf.2.2.1 60 [(.iload 4, 2, (0, 0, 0)), (.iconst 1, 1, (0, 0, 0)), (.iadd, 1, (0, 0, 0))] = true ∧ plen 60 [(.iload 4, 2, (0, 0, 0)), (.iconst 1, 1, (0, 0, 0)), (.iadd, 1, (0, 0, 0))] = 64 := by decide +kernel
def B_X11_depthOf_52 (x5 : Int) (y0 : Int) (σ : Sg) : Option ((Int × Int) ⊕ Int) :=
some (.inl (y0, wrap (x5 + 1)))
def B_X11_depthOf_50 (x4 : Int) (x5 : Int) (σ : Sg) : Option ((Int × Int) ⊕ Int) :=
B_X11_depthOf_52 x5 x4 σ
def L_X11_depthOf_6 (x1 : Int) (x2 : Int) (x3 : Int) (σ : Sg) (x4 : Int) (x5 : Int) : Option ((Int × Int) ⊕ Int) :=
if 3 ≤ x5 then
some (.inr x4)
else
bnd (F_X11_pick x1 x2 x3 x5) fun v1 =>
if v1 = (-1) then
B_X11_depthOf_50 x4 x5 σ
else
(rdn 60 σ 13 v1).bind fun v3 =>
if v3 ≤ x4 then
B_X11_depthOf_50 x4 x5 σ
else
(rdn 60 σ 13 v1).bind fun v5 =>
B_X11_depthOf_52 x5 v5 σ
def F_X11_depthOf (a1 : Int) (a2 : Int) (a3 : Int) (σ : Sg) : Option Int :=
(iter (fun a : (Int × Int) => L_X11_depthOf_6 a1 a2 a3 σ a.1 a.2) 4 (0, 0)).bind fun y7 =>
some (wrap (y7 + 1))
theorem lk_X11_depthOf (l : Launch) (d : Nat) (hd : 1 ≤ d) (a1 : Int) (a2 : Int) (a3 : Int) (σ : Sg) (q : Int) (h : F_X11_depthOf a1 a2 a3 σ = some q) : CT l d m_X11_depthOf.2.1 m_X11_depthOf.2.2.1 m_X11_depthOf.2.2.2.1 m_X11_depthOf.2.2.2.2 [.inr 0, .inl a1, .inl a2, .inl a3] (LAYM, σ) (some (.inl q)) (LAYM, σ) := by
  obtain ⟨d, rfl⟩ : ∃ e, d = e + 1 := ⟨d - 1, by omega⟩
  have key : Go l m_X11_depthOf (d + 1) LAYM (.inl (some (.inl q))) σ 0 [some (.inr 0), some (.inl a1), some (.inl a2), some (.inl a3), none, none, none] [] σ := by
    unfold F_X11_depthOf at h
    have hL_X11_depthOf_6 : ∀ (x1 : Int) (x2 : Int) (x3 : Int) (σ : Sg) (n : Nat) (a : (Int × Int)) (y : Int), iter (fun a : (Int × Int) => L_X11_depthOf_6 x1 x2 x3 σ a.1 a.2) n a = some y → (fun y : Int => Go l m_X11_depthOf (d + 1) LAYM (.inl (some (.inl q))) σ 60 [none, none, none, none, some (.inl y), none, none] [] σ) y → (fun a : (Int × Int) => Go l m_X11_depthOf (d + 1) LAYM (.inl (some (.inl q))) σ 6 [some (.inr 0), some (.inl x1), some (.inl x2), some (.inl x3), some (.inl a.1), some (.inl a.2), none] [] σ) a := by
      intro x1 x2 x3 σ
      refine go_iter (G := fun a : (Int × Int) => Go l m_X11_depthOf (d + 1) LAYM (.inl (some (.inl q))) σ 6 [some (.inr 0), some (.inl x1), some (.inl x2), some (.inl x3), some (.inl a.1), some (.inl a.2), none] [] σ) (K := fun y : Int => Go l m_X11_depthOf (d + 1) LAYM (.inl (some (.inl q))) σ 60 [none, none, none, none, some (.inl y), none, none] [] σ) ?_
      rintro ⟨x4, x5⟩ w h hK
      replace h : L_X11_depthOf_6 x1 x2 x3 σ x4 x5 = some w := h
      show Go l m_X11_depthOf (d + 1) LAYM (.inl (some (.inl q))) σ 6 [some (.inr 0), some (.inl x1), some (.inl x2), some (.inl x3), some (.inl x4), some (.inl x5), none] [] σ
      unfold L_X11_depthOf_6 at h
      have hB_X11_depthOf_52 : ∀ (x5 : Int) (y0 : Int), B_X11_depthOf_52 x5 y0 σ = some w → Go l m_X11_depthOf (d + 1) LAYM (.inl (some (.inl q))) σ 52 [some (.inr 0), some (.inl x1), some (.inl x2), some (.inl x3), none, some (.inl x5), none] [.inl y0] σ := by
        intro x5 y0 h
        unfold B_X11_depthOf_52 at h
        refine go_ops ok_X11_depthOf_52_2 (L' := [some (.inr 0), some (.inl x1), some (.inl x2), some (.inl x3), some (.inl y0), some (.inl (wrap (x5 + 1))), none]) (st' := []) (σ1 := σ) rfl ?_
        refine go_goto dc_X11_depthOf_57 (by rfl) ?_
        cases h
        exact hK
      have hB_X11_depthOf_50 : ∀ (x4 : Int) (x5 : Int), B_X11_depthOf_50 x4 x5 σ = some w → Go l m_X11_depthOf (d + 1) LAYM (.inl (some (.inl q))) σ 50 [some (.inr 0), some (.inl x1), some (.inl x2), some (.inl x3), some (.inl x4), some (.inl x5), none] [] σ := by
        intro x4 x5 h
        unfold B_X11_depthOf_50 at h
        refine go_ops ok_X11_depthOf_50_1 (L' := [some (.inr 0), some (.inl x1), some (.inl x2), some (.inl x3), some (.inl x4), some (.inl x5), none]) (st' := [.inl x4]) (σ1 := σ) rfl ?_
        refine go_wk (L' := [some (.inr 0), some (.inl x1), some (.inl x2), some (.inl x3), none, some (.inl x5), none]) ⟨rfl, rfl, rfl, rfl, rfl, trivial⟩ ?_
        exact hB_X11_depthOf_52 x5 x4 h
      refine go_ops ok_X11_depthOf_6_2 (L' := [some (.inr 0), some (.inl x1), some (.inl x2), some (.inl x3), some (.inl x4), some (.inl x5), none]) (st' := [.inl 3, .inl x5]) (σ1 := σ) rfl ?_
      refine go_icmp_ge dc_X11_depthOf_9 (by rfl) (fun hc => ?_) (fun hc => ?_)
      · replace h := (if_pos hc).symm.trans h
        cases h
        refine go_wk (L' := [none, none, none, none, some (.inl x4), none, none]) ⟨rfl, trivial⟩ ?_
        exact hK
      · replace h := (if_neg hc).symm.trans h
        refine go_ops ok_X11_depthOf_12_4 (L' := [some (.inr 0), some (.inl x1), some (.inl x2), some (.inl x3), some (.inl x4), some (.inl x5), none]) (st' := [.inl x5, .inl x3, .inl x2, .inl x1]) (σ1 := σ) rfl ?_
        refine go_S (M1 := m_X11_pick) (as := [.inl x1, .inl x2, .inl x3, .inl x5]) (st := []) dc_X11_depthOf_17 ln_11_175 sm_X11_pick mk_X11_pick rfl (Nat.le_of_ble_eq_true rfl) (Nat.le_refl _) (v := (some (.inl (F_X11_pick x1 x2 x3 x5)))) (σ1 := σ) (lk_X11_pick l d (by omega) x1 x2 x3 x5 σ _ rfl) _ rfl ?_
        obtain ⟨v1, e2, h⟩ := bnd_inv h
        refine go_ops ok_X11_depthOf_20_3 (L' := [some (.inr 0), some (.inl x1), some (.inl x2), some (.inl x3), some (.inl x4), some (.inl x5), some (.inl v1)]) (st' := [.inl (-1), .inl v1]) (σ1 := σ) (by subst e2; rfl) ?_
        refine go_icmp_eq dc_X11_depthOf_25 (by rfl) (fun hc => ?_) (fun hc => ?_)
        · replace h := (if_pos hc).symm.trans h
          refine go_wk (L' := [some (.inr 0), some (.inl x1), some (.inl x2), some (.inl x3), some (.inl x4), some (.inl x5), none]) ⟨rfl, rfl, rfl, rfl, rfl, rfl, trivial⟩ ?_
          exact hB_X11_depthOf_50 x4 x5 h
        · replace h := (if_neg hc).symm.trans h
          refine go_ops ok_X11_depthOf_28_3 (L' := [some (.inr 0), some (.inl x1), some (.inl x2), some (.inl x3), some (.inl x4), some (.inl x5), some (.inl v1)]) (st' := [.inl v1, .inr 13]) (σ1 := σ) rfl ?_
          obtain ⟨v3, e4, h⟩ := bind_inv h
          refine go_rd (k := 13) dc_X11_depthOf_34 rfl e4 ?_
          refine go_ops ok_X11_depthOf_35_1 (L' := [some (.inr 0), some (.inl x1), some (.inl x2), some (.inl x3), some (.inl x4), some (.inl x5), some (.inl v1)]) (st' := [.inl x4, .inl v3]) (σ1 := σ) rfl ?_
          refine go_icmp_le dc_X11_depthOf_37 (by rfl) (fun hc => ?_) (fun hc => ?_)
          · replace h := (if_pos hc).symm.trans h
            refine go_wk (L' := [some (.inr 0), some (.inl x1), some (.inl x2), some (.inl x3), some (.inl x4), some (.inl x5), none]) ⟨rfl, rfl, rfl, rfl, rfl, rfl, trivial⟩ ?_
            exact hB_X11_depthOf_50 x4 x5 h
          · replace h := (if_neg hc).symm.trans h
            refine go_ops ok_X11_depthOf_40_3 (L' := [some (.inr 0), some (.inl x1), some (.inl x2), some (.inl x3), some (.inl x4), some (.inl x5), some (.inl v1)]) (st' := [.inl v1, .inr 13]) (σ1 := σ) rfl ?_
            obtain ⟨v5, e6, h⟩ := bind_inv h
            refine go_rd (k := 13) dc_X11_depthOf_46 rfl e6 ?_
            refine go_goto dc_X11_depthOf_47 (by rfl) ?_
            refine go_wk (L' := [some (.inr 0), some (.inl x1), some (.inl x2), some (.inl x3), none, some (.inl x5), none]) ⟨rfl, rfl, rfl, rfl, rfl, trivial⟩ ?_
            exact hB_X11_depthOf_52 x5 v5 h
    refine go_ops ok_X11_depthOf_0_4 (L' := [some (.inr 0), some (.inl a1), some (.inl a2), some (.inl a3), some (.inl 0), some (.inl 0), none]) (st' := []) (σ1 := σ) rfl ?_
    obtain ⟨y7, e8, h⟩ := bind_inv h
    refine hL_X11_depthOf_6 a1 a2 a3 σ 4 (0, 0) y7 e8 ?_
    show Go l m_X11_depthOf (d + 1) LAYM (.inl (some (.inl q))) σ 60 [none, none, none, none, some (.inl y7), none, none] [] σ
    refine go_ops ok_X11_depthOf_60_3 (L' := [none, none, none, none, some (.inl y7), none, none]) (st' := [.inl (wrap (y7 + 1))]) (σ1 := σ) rfl ?_
    have h9 := Option.some.inj h
    subst h9
    exact go_iret dc_X11_depthOf_64 rfl
  have hf := go_ct (as := [.inr 0, .inl a1, .inl a2, .inl a3]) mk_X11_depthOf (by rfl) (Nat.le_of_ble_eq_true rfl) key
  exact hf
theorem dc_X11_isFull_6 : decode m_X11_isFull.2.2.1 6 = .ok (.if_icmp .ne 7, 3) := by decide +kernel
theorem dc_X11_isFull_10 : decode m_X11_isFull.2.2.1 10 = .ok (.goto 4, 3) := by decide +kernel
theorem dc_X11_isFull_14 : decode m_X11_isFull.2.2.1 14 = .ok (.ireturn, 1) := by decide +kernel
theorem ok_X11_isFull_0_3 : oks m_X11_isFull.1 m_X11_isFull.2.2.1 0 [(.aload_n 0, 1, (0, 0, 0)), (.getfield 197, 3, (11, 9, 0)), (.bipush 60, 2, (0, 0, 0))] = true ∧ plen 0 [(.aload_n 0, 1, (0, 0, 0)), (.getfield 197, 3, (11, 9, 0)), (.bipush 60, 2, (0, 0, 0))] = 6 := by decide +kernel
theorem ok_X11_isFull_9_1 : oks m_X11_isFull.1 m_X11_isFull.2.2.1 9 [(.iconst 1, 1, (0, 0, 0))] = true ∧ plen 9 [(.iconst 1, 1, (0, 0, 0))] = 10 := by decide +kernel
theorem ok_X11_isFull_13_1 : oks m_X11_isFull.1 m_X11_isFull.2.2.1 13 [(.iconst 0, 1, (0, 0, 0))] = true ∧ plen 13 [(.iconst 0, 1, (0, 0, 0))] = 14 := by decide +kernel
def F_X11_isFull (σ : Sg) : Bool :=
if (σ 0 9) = 60 then
true
else
false
theorem lk_X11_isFull (l : Launch) (d : Nat) (hd : 0 ≤ d) (σ : Sg) (q : Bool) (h : F_X11_isFull σ = q) : CT l d m_X11_isFull.2.1 m_X11_isFull.2.2.1 m_X11_isFull.2.2.2.1 m_X11_isFull.2.2.2.2 [.inr 0] (LAYM, σ) (some (.inl (b2i q))) (LAYM, σ) := by
  skip
  have key : Go l m_X11_isFull d LAYM (.inl (some (.inl (b2i q)))) σ 0 [some (.inr 0)] [] σ := by
    unfold F_X11_isFull at h
    refine go_ops ok_X11_isFull_0_3 (L' := [some (.inr 0)]) (st' := [.inl 60, .inl (σ 0 9)]) (σ1 := σ) rfl ?_
    refine go_icmp_ne dc_X11_isFull_6 (by rfl) (fun hc => ?_) (fun hc => ?_)
    · replace h := (if_neg hc).symm.trans h
      refine go_ops ok_X11_isFull_13_1 (L' := [some (.inr 0)]) (st' := [.inl 0]) (σ1 := σ) rfl ?_
      subst h
      exact go_zret (x := false) dc_X11_isFull_14 rfl
    · replace h := (if_pos hc).symm.trans h
      refine go_ops ok_X11_isFull_9_1 (L' := [some (.inr 0)]) (st' := [.inl 1]) (σ1 := σ) rfl ?_
      refine go_goto dc_X11_isFull_10 (by rfl) ?_
      subst h
      exact go_zret (x := true) dc_X11_isFull_14 rfl
  have hf := go_ct (as := [.inr 0]) mk_X11_isFull (by rfl) (Nat.le_of_ble_eq_true rfl) key
  exact hf
theorem dc_X11_any_2 : decode m_X11_any.2.2.1 2 = .ok (.invokevirtual 204, 3) := by decide +kernel
theorem dc_X11_any_5 : decode m_X11_any.2.2.1 5 = .ok (.ifCond .eq 7, 3) := by decide +kernel
theorem dc_X11_any_9 : decode m_X11_any.2.2.1 9 = .ok (.goto 4, 3) := by decide +kernel
theorem dc_X11_any_13 : decode m_X11_any.2.2.1 13 = .ok (.invokevirtual 183, 3) := by decide +kernel
theorem dc_X11_any_16 : decode m_X11_any.2.2.1 16 = .ok (.ifCond .eq 7, 3) := by decide +kernel
theorem dc_X11_any_20 : decode m_X11_any.2.2.1 20 = .ok (.goto 14, 3) := by decide +kernel
theorem dc_X11_any_31 : decode m_X11_any.2.2.1 31 = .ok (.invokevirtual 208, 3) := by decide +kernel
theorem dc_X11_any_34 : decode m_X11_any.2.2.1 34 = .ok (.ireturn, 1) := by decide +kernel
theorem ok_X11_any_0_2 : oks m_X11_any.1 m_X11_any.2.2.1 0 [(.aload_n 0, 1, (0, 0, 0)), (.aload_n 0, 1, (0, 0, 0))] = true ∧ plen 0 [(.aload_n 0, 1, (0, 0, 0)), (.aload_n 0, 1, (0, 0, 0))] = 2 := by decide +kernel
theorem ok_X11_any_8_1 : oks m_X11_any.1 m_X11_any.2.2.1 8 [(.iconst 1, 1, (0, 0, 0))] = true ∧ plen 8 [(.iconst 1, 1, (0, 0, 0))] = 9 := by decide +kernel
theorem ok_X11_any_12_1 : oks m_X11_any.1 m_X11_any.2.2.1 12 [(.iconst 0, 1, (0, 0, 0))] = true ∧ plen 12 [(.iconst 0, 1, (0, 0, 0))] = 13 := by decide +kernel
theorem ok_X11_any_19_1 : oks m_X11_any.1 m_X11_any.2.2.1 19 [(.iconst 0, 1, (0, 0, 0))] = true ∧ plen 19 [(.iconst 0, 1, (0, 0, 0))] = 20 := by decide +kernel
theorem ok_X11_any_23_8 : oks m_X11_any.1 m_X11_any.2.2.1 23 [(.aload_n 0, 1, (0, 0, 0)), (.iconst 0, 1, (0, 0, 0)), (.iconst 0, 1, (0, 0, 0)), (.iconst 0, 1, (0, 0, 0)), (.iconst (-1), 1, (0, 0, 0)), (.iconst (-1), 1, (0, 0, 0)), (.iconst (-1), 1, (0, 0, 0)), (.iconst (-1), 1, (0, 0, 0))] = true ∧ plen 23 [(.aload_n 0, 1, (0, 0, 0)), (.iconst 0, 1, (0, 0, 0)), (.iconst 0, 1, (0, 0, 0)), (.iconst 0, 1, (0, 0, 0)), (.iconst (-1), 1, (0, 0, 0)), (.iconst (-1), 1, (0, 0, 0)), (.iconst (-1), 1, (0, 0, 0)), (.iconst (-1), 1, (0, 0, 0))] = 31 := by decide +kernel
def B_X11_any_13 (y0 : Bool) (σ : Sg) : Option (Int × Sg) :=
bnd (F_X11_refused (b2i y0) σ) fun q1 =>
if q1.1 = true then
some (0, q1.2)
else
(F_X11_pattern 0 0 0 (-1) (-1) (-1) (-1) q1.2).bind fun q3 =>
some (q3.1, q3.2)
def F_X11_any (σ : Sg) : Option (Int × Sg) :=
if (F_X11_isFull σ) = true then
B_X11_any_13 true σ
else
B_X11_any_13 false σ
theorem lk_X11_any (l : Launch) (d : Nat) (hd : 2 ≤ d) (σ : Sg) (q : (Int × Sg)) (h : F_X11_any σ = some q) : CT l d m_X11_any.2.1 m_X11_any.2.2.1 m_X11_any.2.2.2.1 m_X11_any.2.2.2.2 [.inr 0] (LAYM, σ) (some (.inl q.1)) (LAYM, q.2) := by
  obtain ⟨d, rfl⟩ : ∃ e, d = e + 1 := ⟨d - 1, by omega⟩
  have key : Go l m_X11_any (d + 1) LAYM (.inl (some (.inl q.1))) q.2 0 [some (.inr 0)] [] σ := by
    unfold F_X11_any at h
    have hB_X11_any_13 : ∀ (y0 : Bool) (σ : Sg), B_X11_any_13 y0 σ = some q → Go l m_X11_any (d + 1) LAYM (.inl (some (.inl q.1))) q.2 13 [some (.inr 0)] [.inl (b2i y0), .inr 0] σ := by
      intro y0 σ h
      unfold B_X11_any_13 at h
      obtain ⟨q1, e2, h⟩ := bnd_inv h
      refine go_V (M1 := m_X11_refused) (as := [.inl (b2i y0)]) (st := []) (k := 0) (ci := 11) dc_X11_any_13 ln_11_183 im_X11_refused (by decide) rfl rfl mk_X11_refused rfl (Nat.le_of_ble_eq_true rfl) (Nat.le_refl _) (v := (some (.inl (b2i q1.1)))) (σ1 := q1.2) (lk_X11_refused l d (by omega) (b2i y0) σ q1 e2.symm) _ rfl ?_
      refine go_ifb_eq dc_X11_any_16 (by rfl) (fun hc => ?_) (fun hc => ?_)
      · replace h := (if_neg hc).symm.trans h
        refine go_ops ok_X11_any_23_8 (L' := [some (.inr 0)]) (st' := [.inl (-1), .inl (-1), .inl (-1), .inl (-1), .inl 0, .inl 0, .inl 0, .inr 0]) (σ1 := q1.2) rfl ?_
        obtain ⟨q3, e4, h⟩ := bind_inv h
        refine go_V (M1 := m_X11_pattern) (as := [.inl 0, .inl 0, .inl 0, .inl (-1), .inl (-1), .inl (-1), .inl (-1)]) (st := []) (k := 0) (ci := 11) dc_X11_any_31 ln_11_208 im_X11_pattern (by decide) rfl rfl mk_X11_pattern rfl (Nat.le_of_ble_eq_true rfl) (Nat.le_refl _) (v := (some (.inl q3.1))) (σ1 := q3.2) (lk_X11_pattern l d (by omega) 0 0 0 (-1) (-1) (-1) (-1) q1.2 q3 e4) _ rfl ?_
        have h9 := Option.some.inj h
        subst h9
        exact go_iret dc_X11_any_34 rfl
      · replace h := (if_pos hc).symm.trans h
        refine go_ops ok_X11_any_19_1 (L' := [some (.inr 0)]) (st' := [.inl 0]) (σ1 := q1.2) rfl ?_
        refine go_goto dc_X11_any_20 (by rfl) ?_
        have h9 := Option.some.inj h
        subst h9
        exact go_iret dc_X11_any_34 rfl
    refine go_ops ok_X11_any_0_2 (L' := [some (.inr 0)]) (st' := [.inr 0, .inr 0]) (σ1 := σ) rfl ?_
    refine go_V (M1 := m_X11_isFull) (as := []) (st := [.inr 0]) (k := 0) (ci := 11) dc_X11_any_2 ln_11_204 im_X11_isFull (by decide) rfl rfl mk_X11_isFull rfl (Nat.le_of_ble_eq_true rfl) (Nat.le_refl _) (v := (some (.inl (b2i (F_X11_isFull σ))))) (σ1 := σ) (lk_X11_isFull l d (by omega) σ _ rfl) _ rfl ?_
    refine go_ifb_eq dc_X11_any_5 (by rfl) (fun hc => ?_) (fun hc => ?_)
    · replace h := (if_neg hc).symm.trans h
      refine go_ops ok_X11_any_12_1 (L' := [some (.inr 0)]) (st' := [.inl 0, .inr 0]) (σ1 := σ) rfl ?_
      exact hB_X11_any_13 false σ h
    · replace h := (if_pos hc).symm.trans h
      refine go_ops ok_X11_any_8_1 (L' := [some (.inr 0)]) (st' := [.inl 1, .inr 0]) (σ1 := σ) rfl ?_
      refine go_goto dc_X11_any_9 (by rfl) ?_
      exact hB_X11_any_13 true σ h
  have hf := go_ct (as := [.inr 0]) mk_X11_any (by rfl) (Nat.le_of_ble_eq_true rfl) key
  exact hf
theorem dc_X11_name_3 : decode m_X11_name.2.2.1 3 = .ok (.invokestatic 171, 3) := by decide +kernel
theorem dc_X11_name_6 : decode m_X11_name.2.2.1 6 = .ok (.ifCond .eq 15, 3) := by decide +kernel
theorem dc_X11_name_11 : decode m_X11_name.2.2.1 11 = .ok (.invokevirtual 212, 3) := by decide +kernel
theorem dc_X11_name_14 : decode m_X11_name.2.2.1 14 = .ok (.ifCond .eq 7, 3) := by decide +kernel
theorem dc_X11_name_18 : decode m_X11_name.2.2.1 18 = .ok (.goto 4, 3) := by decide +kernel
theorem dc_X11_name_24 : decode m_X11_name.2.2.1 24 = .ok (.ifCond .eq 32, 3) := by decide +kernel
theorem dc_X11_name_32 : decode m_X11_name.2.2.1 32 = .ok (.iaload, 1) := by decide +kernel
theorem dc_X11_name_37 : decode m_X11_name.2.2.1 37 = .ok (.ifCond .ne 19, 3) := by decide +kernel
theorem dc_X11_name_44 : decode m_X11_name.2.2.1 44 = .ok (.invokevirtual 200, 3) := by decide +kernel
theorem dc_X11_name_49 : decode m_X11_name.2.2.1 49 = .ok (.if_icmp .gt 7, 3) := by decide +kernel
theorem dc_X11_name_53 : decode m_X11_name.2.2.1 53 = .ok (.goto 4, 3) := by decide +kernel
theorem dc_X11_name_61 : decode m_X11_name.2.2.1 61 = .ok (.ifCond .ne 7, 3) := by decide +kernel
theorem dc_X11_name_65 : decode m_X11_name.2.2.1 65 = .ok (.goto 24, 3) := by decide +kernel
theorem dc_X11_name_70 : decode m_X11_name.2.2.1 70 = .ok (.ifCond .ne 7, 3) := by decide +kernel
theorem dc_X11_name_74 : decode m_X11_name.2.2.1 74 = .ok (.goto 15, 3) := by decide +kernel
theorem dc_X11_name_78 : decode m_X11_name.2.2.1 78 = .ok (.invokevirtual 204, 3) := by decide +kernel
theorem dc_X11_name_81 : decode m_X11_name.2.2.1 81 = .ok (.ifCond .eq 7, 3) := by decide +kernel
theorem dc_X11_name_85 : decode m_X11_name.2.2.1 85 = .ok (.goto 4, 3) := by decide +kernel
theorem dc_X11_name_89 : decode m_X11_name.2.2.1 89 = .ok (.invokevirtual 183, 3) := by decide +kernel
theorem dc_X11_name_92 : decode m_X11_name.2.2.1 92 = .ok (.ifCond .eq 7, 3) := by decide +kernel
theorem dc_X11_name_96 : decode m_X11_name.2.2.1 96 = .ok (.goto 19, 3) := by decide +kernel
theorem dc_X11_name_111 : decode m_X11_name.2.2.1 111 = .ok (.iaload, 1) := by decide +kernel
theorem dc_X11_name_112 : decode m_X11_name.2.2.1 112 = .ok (.invokevirtual 208, 3) := by decide +kernel
theorem dc_X11_name_115 : decode m_X11_name.2.2.1 115 = .ok (.ireturn, 1) := by decide +kernel
theorem ok_X11_name_0_3 : oks m_X11_name.1 m_X11_name.2.2.1 0 [(.iload_n 1, 1, (0, 0, 0)), (.iconst 0, 1, (0, 0, 0)), (.iconst 5, 1, (0, 0, 0))] = true ∧ plen 0 [(.iload_n 1, 1, (0, 0, 0)), (.iconst 0, 1, (0, 0, 0)), (.iconst 5, 1, (0, 0, 0))] = 3 := by decide +kernel
theorem ok_X11_name_9_2 : oks m_X11_name.1 m_X11_name.2.2.1 9 [(.aload_n 0, 1, (0, 0, 0)), (.iload_n 2, 1, (0, 0, 0))] = true ∧ plen 9 [(.aload_n 0, 1, (0, 0, 0)), (.iload_n 2, 1, (0, 0, 0))] = 11 := by decide +kernel
theorem ok_X11_name_17_1 : oks m_X11_name.1 m_X11_name.2.2.1 17 [(.iconst 1, 1, (0, 0, 0))] = true ∧ plen 17 [(.iconst 1, 1, (0, 0, 0))] = 18 := by decide +kernel
theorem ok_X11_name_21_1 : oks m_X11_name.1 m_X11_name.2.2.1 21 [(.iconst 0, 1, (0, 0, 0))] = true ∧ plen 21 [(.iconst 0, 1, (0, 0, 0))] = 22 := by decide +kernel
theorem ok_X11_name_22_2 : oks m_X11_name.1 m_X11_name.2.2.1 22 [(.istore_n 3, 1, (0, 0, 0)), (.iload_n 3, 1, (0, 0, 0))] = true ∧ plen 22 [(.istore_n 3, 1, (0, 0, 0)), (.iload_n 3, 1, (0, 0, 0))] = 24 := by decide +kernel
theorem ok_X11_name_27_3 : oks m_X11_name.1 m_X11_name.2.2.1 27 [(.aload_n 0, 1, (0, 0, 0)), (.getfield 52, 3, (11, 17, 0)), (.iload_n 2, 1, (0, 0, 0))] = true ∧ plen 27 [(.aload_n 0, 1, (0, 0, 0)), (.getfield 52, 3, (11, 17, 0)), (.iload_n 2, 1, (0, 0, 0))] = 32 := by decide +kernel
theorem ok_X11_name_33_4 : oks m_X11_name.1 m_X11_name.2.2.1 33 [(.iload_n 1, 1, (0, 0, 0)), (.ishr, 1, (0, 0, 0)), (.iconst 1, 1, (0, 0, 0)), (.iand, 1, (0, 0, 0))] = true ∧ plen 33 [(.iload_n 1, 1, (0, 0, 0)), (.ishr, 1, (0, 0, 0)), (.iconst 1, 1, (0, 0, 0)), (.iand, 1, (0, 0, 0))] = 37 := by decide +kernel
theorem ok_X11_name_40_4 : oks m_X11_name.1 m_X11_name.2.2.1 40 [(.aload_n 0, 1, (0, 0, 0)), (.iload_n 2, 1, (0, 0, 0)), (.iconst (-1), 1, (0, 0, 0)), (.iconst (-1), 1, (0, 0, 0))] = true ∧ plen 40 [(.aload_n 0, 1, (0, 0, 0)), (.iload_n 2, 1, (0, 0, 0)), (.iconst (-1), 1, (0, 0, 0)), (.iconst (-1), 1, (0, 0, 0))] = 44 := by decide +kernel
theorem ok_X11_name_47_1 : oks m_X11_name.1 m_X11_name.2.2.1 47 [(.bipush 40, 2, (0, 0, 0))] = true ∧ plen 47 [(.bipush 40, 2, (0, 0, 0))] = 49 := by decide +kernel
theorem ok_X11_name_52_1 : oks m_X11_name.1 m_X11_name.2.2.1 52 [(.iconst 1, 1, (0, 0, 0))] = true ∧ plen 52 [(.iconst 1, 1, (0, 0, 0))] = 53 := by decide +kernel
theorem ok_X11_name_56_1 : oks m_X11_name.1 m_X11_name.2.2.1 56 [(.iconst 0, 1, (0, 0, 0))] = true ∧ plen 56 [(.iconst 0, 1, (0, 0, 0))] = 57 := by decide +kernel
theorem ok_X11_name_57_3 : oks m_X11_name.1 m_X11_name.2.2.1 57 [(.istore 4, 2, (0, 0, 0)), (.aload_n 0, 1, (0, 0, 0)), (.iload_n 3, 1, (0, 0, 0))] = true ∧ plen 57 [(.istore 4, 2, (0, 0, 0)), (.aload_n 0, 1, (0, 0, 0)), (.iload_n 3, 1, (0, 0, 0))] = 61 := by decide +kernel
theorem ok_X11_name_64_1 : oks m_X11_name.1 m_X11_name.2.2.1 64 [(.iconst 1, 1, (0, 0, 0))] = true ∧ plen 64 [(.iconst 1, 1, (0, 0, 0))] = 65 := by decide +kernel
theorem ok_X11_name_68_1 : oks m_X11_name.1 m_X11_name.2.2.1 68 [(.iload 4, 2, (0, 0, 0))] = true ∧ plen 68 [(.iload 4, 2, (0, 0, 0))] = 70 := by decide +kernel
theorem ok_X11_name_73_1 : oks m_X11_name.1 m_X11_name.2.2.1 73 [(.iconst 2, 1, (0, 0, 0))] = true ∧ plen 73 [(.iconst 2, 1, (0, 0, 0))] = 74 := by decide +kernel
theorem ok_X11_name_77_1 : oks m_X11_name.1 m_X11_name.2.2.1 77 [(.aload_n 0, 1, (0, 0, 0))] = true ∧ plen 77 [(.aload_n 0, 1, (0, 0, 0))] = 78 := by decide +kernel
theorem ok_X11_name_84_1 : oks m_X11_name.1 m_X11_name.2.2.1 84 [(.iconst 3, 1, (0, 0, 0))] = true ∧ plen 84 [(.iconst 3, 1, (0, 0, 0))] = 85 := by decide +kernel
theorem ok_X11_name_88_1 : oks m_X11_name.1 m_X11_name.2.2.1 88 [(.iconst 0, 1, (0, 0, 0))] = true ∧ plen 88 [(.iconst 0, 1, (0, 0, 0))] = 89 := by decide +kernel
theorem ok_X11_name_95_1 : oks m_X11_name.1 m_X11_name.2.2.1 95 [(.iconst 0, 1, (0, 0, 0))] = true ∧ plen 95 [(.iconst 0, 1, (0, 0, 0))] = 96 := by decide +kernel
theorem ok_X11_name_99_10 : oks m_X11_name.1 m_X11_name.2.2.1 99 [(.aload_n 0, 1, (0, 0, 0)), (.iconst 1, 1, (0, 0, 0)), (.iload_n 1, 1, (0, 0, 0)), (.iconst 0, 1, (0, 0, 0)), (.iload_n 2, 1, (0, 0, 0)), (.iconst (-1), 1, (0, 0, 0)), (.iconst (-1), 1, (0, 0, 0)), (.aload_n 0, 1, (0, 0, 0)), (.getfield 43, 3, (11, 14, 0)), (.iload_n 2, 1, (0, 0, 0))] = true ∧ plen 99 [(.aload_n 0, 1, (0, 0, 0)), (.iconst 1, 1, (0, 0, 0)), (.iload_n 1, 1, (0, 0, 0)), (.iconst 0, 1, (0, 0, 0)), (.iload_n 2, 1, (0, 0, 0)), (.iconst (-1), 1, (0, 0, 0)), (.iconst (-1), 1, (0, 0, 0)), (.aload_n 0, 1, (0, 0, 0)), (.getfield 43, 3, (11, 14, 0)), (.iload_n 2, 1, (0, 0, 0))] = 111 := by decide +kernel
def B_X11_name_89 (x1 : Int) (x2 : Int) (y0 : Int) (σ : Sg) : Option (Int × Sg) :=
bnd (F_X11_refused y0 σ) fun q1 =>
if q1.1 = true then
some (0, q1.2)
else
(rdn 60 q1.2 12 x2).bind fun v3 =>
(F_X11_pattern 1 x1 0 x2 (-1) (-1) v3 q1.2).bind fun q5 =>
some (q5.1, q5.2)
def B_X11_name_57 (x1 : Int) (x2 : Int) (x3 : Bool) (y0 : Bool) (σ : Sg) : Option (Int × Sg) :=
if x3 = true then
if y0 = true then
if (F_X11_isFull σ) = true then
B_X11_name_89 x1 x2 3 σ
else
B_X11_name_89 x1 x2 0 σ
else
B_X11_name_89 x1 x2 2 σ
else
B_X11_name_89 x1 x2 1 σ
def B_X11_name_56 (x1 : Int) (x2 : Int) (x3 : Bool) (σ : Sg) : Option (Int × Sg) :=
B_X11_name_57 x1 x2 x3 false σ
def B_X11_name_22 (x1 : Int) (x2 : Int) (y0 : Bool) (σ : Sg) : Option (Int × Sg) :=
if y0 = true then
(rdn 60 σ 15 x2).bind fun v7 =>
if (jand (jshr v7 x1) 1) = 0 then
(F_X11_sizeOf x2 (-1) (-1) σ).bind fun q9 =>
if 40 < q9 then
B_X11_name_56 x1 x2 y0 σ
else
B_X11_name_57 x1 x2 y0 true σ
else
B_X11_name_56 x1 x2 y0 σ
else
B_X11_name_56 x1 x2 y0 σ
def B_X11_name_21 (x1 : Int) (x2 : Int) (σ : Sg) : Option (Int × Sg) :=
B_X11_name_22 x1 x2 false σ
def F_X11_name (a1 : Int) (a2 : Int) (σ : Sg) : Option (Int × Sg) :=
if (F_X11_in a1 0 5) = true then
if (F_X11_isPattern a2 σ) = true then
B_X11_name_22 a1 a2 true σ
else
B_X11_name_21 a1 a2 σ
else
B_X11_name_21 a1 a2 σ
theorem lk_X11_name (l : Launch) (d : Nat) (hd : 2 ≤ d) (a1 : Int) (a2 : Int) (σ : Sg) (q : (Int × Sg)) (h : F_X11_name a1 a2 σ = some q) : CT l d m_X11_name.2.1 m_X11_name.2.2.1 m_X11_name.2.2.2.1 m_X11_name.2.2.2.2 [.inr 0, .inl a1, .inl a2] (LAYM, σ) (some (.inl q.1)) (LAYM, q.2) := by
  obtain ⟨d, rfl⟩ : ∃ e, d = e + 1 := ⟨d - 1, by omega⟩
  have key : Go l m_X11_name (d + 1) LAYM (.inl (some (.inl q.1))) q.2 0 [some (.inr 0), some (.inl a1), some (.inl a2), none, none] [] σ := by
    unfold F_X11_name at h
    have hB_X11_name_89 : ∀ (x1 : Int) (x2 : Int) (y0 : Int) (σ : Sg), B_X11_name_89 x1 x2 y0 σ = some q → Go l m_X11_name (d + 1) LAYM (.inl (some (.inl q.1))) q.2 89 [some (.inr 0), some (.inl x1), some (.inl x2), none, none] [.inl y0, .inr 0] σ := by
      intro x1 x2 y0 σ h
      unfold B_X11_name_89 at h
      obtain ⟨q1, e2, h⟩ := bnd_inv h
      refine go_V (M1 := m_X11_refused) (as := [.inl y0]) (st := []) (k := 0) (ci := 11) dc_X11_name_89 ln_11_183 im_X11_refused (by decide) rfl rfl mk_X11_refused rfl (Nat.le_of_ble_eq_true rfl) (Nat.le_refl _) (v := (some (.inl (b2i q1.1)))) (σ1 := q1.2) (lk_X11_refused l d (by omega) y0 σ q1 e2.symm) _ rfl ?_
      refine go_ifb_eq dc_X11_name_92 (by rfl) (fun hc => ?_) (fun hc => ?_)
      · replace h := (if_neg hc).symm.trans h
        refine go_ops ok_X11_name_99_10 (L' := [some (.inr 0), some (.inl x1), some (.inl x2), none, none]) (st' := [.inl x2, .inr 12, .inl (-1), .inl (-1), .inl x2, .inl 0, .inl x1, .inl 1, .inr 0]) (σ1 := q1.2) rfl ?_
        obtain ⟨v3, e4, h⟩ := bind_inv h
        refine go_rd (k := 12) dc_X11_name_111 rfl e4 ?_
        obtain ⟨q5, e6, h⟩ := bind_inv h
        refine go_V (M1 := m_X11_pattern) (as := [.inl 1, .inl x1, .inl 0, .inl x2, .inl (-1), .inl (-1), .inl v3]) (st := []) (k := 0) (ci := 11) dc_X11_name_112 ln_11_208 im_X11_pattern (by decide) rfl rfl mk_X11_pattern rfl (Nat.le_of_ble_eq_true rfl) (Nat.le_refl _) (v := (some (.inl q5.1))) (σ1 := q5.2) (lk_X11_pattern l d (by omega) 1 x1 0 x2 (-1) (-1) v3 q1.2 q5 e6) _ rfl ?_
        have h9 := Option.some.inj h
        subst h9
        exact go_iret dc_X11_name_115 rfl
      · replace h := (if_pos hc).symm.trans h
        refine go_ops ok_X11_name_95_1 (L' := [some (.inr 0), some (.inl x1), some (.inl x2), none, none]) (st' := [.inl 0]) (σ1 := q1.2) rfl ?_
        refine go_goto dc_X11_name_96 (by rfl) ?_
        have h9 := Option.some.inj h
        subst h9
        exact go_iret dc_X11_name_115 rfl
    have hB_X11_name_57 : ∀ (x1 : Int) (x2 : Int) (x3 : Bool) (y0 : Bool) (σ : Sg), B_X11_name_57 x1 x2 x3 y0 σ = some q → Go l m_X11_name (d + 1) LAYM (.inl (some (.inl q.1))) q.2 57 [some (.inr 0), some (.inl x1), some (.inl x2), some (.inl (b2i x3)), none] [.inl (b2i y0)] σ := by
      intro x1 x2 x3 y0 σ h
      unfold B_X11_name_57 at h
      refine go_ops ok_X11_name_57_3 (L' := [some (.inr 0), some (.inl x1), some (.inl x2), some (.inl (b2i x3)), some (.inl (b2i y0))]) (st' := [.inl (b2i x3), .inr 0]) (σ1 := σ) rfl ?_
      refine go_ifb_ne dc_X11_name_61 (by rfl) (fun hc => ?_) (fun hc => ?_)
      · replace h := (if_pos hc).symm.trans h
        refine go_ops ok_X11_name_68_1 (L' := [some (.inr 0), some (.inl x1), some (.inl x2), some (.inl (b2i x3)), some (.inl (b2i y0))]) (st' := [.inl (b2i y0), .inr 0]) (σ1 := σ) rfl ?_
        refine go_ifb_ne dc_X11_name_70 (by rfl) (fun hc => ?_) (fun hc => ?_)
        · replace h := (if_pos hc).symm.trans h
          refine go_ops ok_X11_name_77_1 (L' := [some (.inr 0), some (.inl x1), some (.inl x2), some (.inl (b2i x3)), some (.inl (b2i y0))]) (st' := [.inr 0, .inr 0]) (σ1 := σ) rfl ?_
          refine go_V (M1 := m_X11_isFull) (as := []) (st := [.inr 0]) (k := 0) (ci := 11) dc_X11_name_78 ln_11_204 im_X11_isFull (by decide) rfl rfl mk_X11_isFull rfl (Nat.le_of_ble_eq_true rfl) (Nat.le_refl _) (v := (some (.inl (b2i (F_X11_isFull σ))))) (σ1 := σ) (lk_X11_isFull l d (by omega) σ _ rfl) _ rfl ?_
          refine go_ifb_eq dc_X11_name_81 (by rfl) (fun hc => ?_) (fun hc => ?_)
          · replace h := (if_neg hc).symm.trans h
            refine go_ops ok_X11_name_88_1 (L' := [some (.inr 0), some (.inl x1), some (.inl x2), some (.inl (b2i x3)), some (.inl (b2i y0))]) (st' := [.inl 0, .inr 0]) (σ1 := σ) rfl ?_
            refine go_wk (L' := [some (.inr 0), some (.inl x1), some (.inl x2), none, none]) ⟨rfl, rfl, rfl, trivial⟩ ?_
            exact hB_X11_name_89 x1 x2 0 σ h
          · replace h := (if_pos hc).symm.trans h
            refine go_ops ok_X11_name_84_1 (L' := [some (.inr 0), some (.inl x1), some (.inl x2), some (.inl (b2i x3)), some (.inl (b2i y0))]) (st' := [.inl 3, .inr 0]) (σ1 := σ) rfl ?_
            refine go_goto dc_X11_name_85 (by rfl) ?_
            refine go_wk (L' := [some (.inr 0), some (.inl x1), some (.inl x2), none, none]) ⟨rfl, rfl, rfl, trivial⟩ ?_
            exact hB_X11_name_89 x1 x2 3 σ h
        · replace h := (if_neg hc).symm.trans h
          refine go_ops ok_X11_name_73_1 (L' := [some (.inr 0), some (.inl x1), some (.inl x2), some (.inl (b2i x3)), some (.inl (b2i y0))]) (st' := [.inl 2, .inr 0]) (σ1 := σ) rfl ?_
          refine go_goto dc_X11_name_74 (by rfl) ?_
          refine go_wk (L' := [some (.inr 0), some (.inl x1), some (.inl x2), none, none]) ⟨rfl, rfl, rfl, trivial⟩ ?_
          exact hB_X11_name_89 x1 x2 2 σ h
      · replace h := (if_neg hc).symm.trans h
        refine go_ops ok_X11_name_64_1 (L' := [some (.inr 0), some (.inl x1), some (.inl x2), some (.inl (b2i x3)), some (.inl (b2i y0))]) (st' := [.inl 1, .inr 0]) (σ1 := σ) rfl ?_
        refine go_goto dc_X11_name_65 (by rfl) ?_
        refine go_wk (L' := [some (.inr 0), some (.inl x1), some (.inl x2), none, none]) ⟨rfl, rfl, rfl, trivial⟩ ?_
        exact hB_X11_name_89 x1 x2 1 σ h
    have hB_X11_name_56 : ∀ (x1 : Int) (x2 : Int) (x3 : Bool) (σ : Sg), B_X11_name_56 x1 x2 x3 σ = some q → Go l m_X11_name (d + 1) LAYM (.inl (some (.inl q.1))) q.2 56 [some (.inr 0), some (.inl x1), some (.inl x2), some (.inl (b2i x3)), none] [] σ := by
      intro x1 x2 x3 σ h
      unfold B_X11_name_56 at h
      refine go_ops ok_X11_name_56_1 (L' := [some (.inr 0), some (.inl x1), some (.inl x2), some (.inl (b2i x3)), none]) (st' := [.inl 0]) (σ1 := σ) rfl ?_
      exact hB_X11_name_57 x1 x2 x3 false σ h
    have hB_X11_name_22 : ∀ (x1 : Int) (x2 : Int) (y0 : Bool) (σ : Sg), B_X11_name_22 x1 x2 y0 σ = some q → Go l m_X11_name (d + 1) LAYM (.inl (some (.inl q.1))) q.2 22 [some (.inr 0), some (.inl x1), some (.inl x2), none, none] [.inl (b2i y0)] σ := by
      intro x1 x2 y0 σ h
      unfold B_X11_name_22 at h
      refine go_ops ok_X11_name_22_2 (L' := [some (.inr 0), some (.inl x1), some (.inl x2), some (.inl (b2i y0)), none]) (st' := [.inl (b2i y0)]) (σ1 := σ) rfl ?_
      refine go_ifb_eq dc_X11_name_24 (by rfl) (fun hc => ?_) (fun hc => ?_)
      · replace h := (if_neg hc).symm.trans h
        exact hB_X11_name_56 x1 x2 y0 σ h
      · replace h := (if_pos hc).symm.trans h
        refine go_ops ok_X11_name_27_3 (L' := [some (.inr 0), some (.inl x1), some (.inl x2), some (.inl (b2i y0)), none]) (st' := [.inl x2, .inr 15]) (σ1 := σ) rfl ?_
        obtain ⟨v7, e8, h⟩ := bind_inv h
        refine go_rd (k := 15) dc_X11_name_32 rfl e8 ?_
        refine go_ops ok_X11_name_33_4 (L' := [some (.inr 0), some (.inl x1), some (.inl x2), some (.inl (b2i y0)), none]) (st' := [.inl (jand (jshr v7 x1) 1)]) (σ1 := σ) rfl ?_
        refine go_if_ne dc_X11_name_37 (by rfl) (fun hc => ?_) (fun hc => ?_)
        · replace h := (if_neg hc).symm.trans h
          exact hB_X11_name_56 x1 x2 y0 σ h
        · replace h := (if_pos hc).symm.trans h
          refine go_ops ok_X11_name_40_4 (L' := [some (.inr 0), some (.inl x1), some (.inl x2), some (.inl (b2i y0)), none]) (st' := [.inl (-1), .inl (-1), .inl x2, .inr 0]) (σ1 := σ) rfl ?_
          obtain ⟨q9, e10, h⟩ := bind_inv h
          refine go_V (M1 := m_X11_sizeOf) (as := [.inl x2, .inl (-1), .inl (-1)]) (st := []) (k := 0) (ci := 11) dc_X11_name_44 ln_11_200 im_X11_sizeOf (by decide) rfl rfl mk_X11_sizeOf rfl (Nat.le_of_ble_eq_true rfl) (Nat.le_refl _) (v := (some (.inl q9))) (σ1 := σ) (lk_X11_sizeOf l d (by omega) x2 (-1) (-1) σ q9 e10) _ rfl ?_
          refine go_ops ok_X11_name_47_1 (L' := [some (.inr 0), some (.inl x1), some (.inl x2), some (.inl (b2i y0)), none]) (st' := [.inl 40, .inl q9]) (σ1 := σ) rfl ?_
          refine go_icmp_gt dc_X11_name_49 (by rfl) (fun hc => ?_) (fun hc => ?_)
          · replace h := (if_pos hc).symm.trans h
            exact hB_X11_name_56 x1 x2 y0 σ h
          · replace h := (if_neg hc).symm.trans h
            refine go_ops ok_X11_name_52_1 (L' := [some (.inr 0), some (.inl x1), some (.inl x2), some (.inl (b2i y0)), none]) (st' := [.inl 1]) (σ1 := σ) rfl ?_
            refine go_goto dc_X11_name_53 (by rfl) ?_
            exact hB_X11_name_57 x1 x2 y0 true σ h
    have hB_X11_name_21 : ∀ (x1 : Int) (x2 : Int) (σ : Sg), B_X11_name_21 x1 x2 σ = some q → Go l m_X11_name (d + 1) LAYM (.inl (some (.inl q.1))) q.2 21 [some (.inr 0), some (.inl x1), some (.inl x2), none, none] [] σ := by
      intro x1 x2 σ h
      unfold B_X11_name_21 at h
      refine go_ops ok_X11_name_21_1 (L' := [some (.inr 0), some (.inl x1), some (.inl x2), none, none]) (st' := [.inl 0]) (σ1 := σ) rfl ?_
      exact hB_X11_name_22 x1 x2 false σ h
    refine go_ops ok_X11_name_0_3 (L' := [some (.inr 0), some (.inl a1), some (.inl a2), none, none]) (st' := [.inl 5, .inl 0, .inl a1]) (σ1 := σ) rfl ?_
    refine go_S (M1 := m_X11_in) (as := [.inl a1, .inl 0, .inl 5]) (st := []) dc_X11_name_3 ln_11_171 sm_X11_in mk_X11_in rfl (Nat.le_of_ble_eq_true rfl) (Nat.le_refl _) (v := (some (.inl (b2i (F_X11_in a1 0 5))))) (σ1 := σ) (lk_X11_in l d (by omega) a1 0 5 σ _ rfl) _ rfl ?_
    refine go_ifb_eq dc_X11_name_6 (by rfl) (fun hc => ?_) (fun hc => ?_)
    · replace h := (if_neg hc).symm.trans h
      exact hB_X11_name_21 a1 a2 σ h
    · replace h := (if_pos hc).symm.trans h
      refine go_ops ok_X11_name_9_2 (L' := [some (.inr 0), some (.inl a1), some (.inl a2), none, none]) (st' := [.inl a2, .inr 0]) (σ1 := σ) rfl ?_
      refine go_V (M1 := m_X11_isPattern) (as := [.inl a2]) (st := []) (k := 0) (ci := 11) dc_X11_name_11 ln_11_212 im_X11_isPattern (by decide) rfl rfl mk_X11_isPattern rfl (Nat.le_of_ble_eq_true rfl) (Nat.le_refl _) (v := (some (.inl (b2i (F_X11_isPattern a2 σ))))) (σ1 := σ) (lk_X11_isPattern l d (by omega) a2 σ _ rfl) _ rfl ?_
      refine go_ifb_eq dc_X11_name_14 (by rfl) (fun hc => ?_) (fun hc => ?_)
      · replace h := (if_neg hc).symm.trans h
        exact hB_X11_name_21 a1 a2 σ h
      · replace h := (if_pos hc).symm.trans h
        refine go_ops ok_X11_name_17_1 (L' := [some (.inr 0), some (.inl a1), some (.inl a2), none, none]) (st' := [.inl 1]) (σ1 := σ) rfl ?_
        refine go_goto dc_X11_name_18 (by rfl) ?_
        exact hB_X11_name_22 a1 a2 true σ h
  have hf := go_ct (as := [.inr 0, .inl a1, .inl a2]) mk_X11_name (by rfl) (Nat.le_of_ble_eq_true rfl) key
  exact hf
theorem dc_X11_range_4 : decode m_X11_range.2.2.1 4 = .ok (.invokestatic 171, 3) := by decide +kernel
theorem dc_X11_range_7 : decode m_X11_range.2.2.1 7 = .ok (.ifCond .eq 17, 3) := by decide +kernel
theorem dc_X11_range_14 : decode m_X11_range.2.2.1 14 = .ok (.invokestatic 171, 3) := by decide +kernel
theorem dc_X11_range_17 : decode m_X11_range.2.2.1 17 = .ok (.ifCond .eq 7, 3) := by decide +kernel
theorem dc_X11_range_21 : decode m_X11_range.2.2.1 21 = .ok (.goto 4, 3) := by decide +kernel
theorem dc_X11_range_28 : decode m_X11_range.2.2.1 28 = .ok (.ifCond .ne 7, 3) := by decide +kernel
theorem dc_X11_range_32 : decode m_X11_range.2.2.1 32 = .ok (.goto 15, 3) := by decide +kernel
theorem dc_X11_range_36 : decode m_X11_range.2.2.1 36 = .ok (.invokevirtual 204, 3) := by decide +kernel
theorem dc_X11_range_39 : decode m_X11_range.2.2.1 39 = .ok (.ifCond .eq 7, 3) := by decide +kernel
theorem dc_X11_range_43 : decode m_X11_range.2.2.1 43 = .ok (.goto 4, 3) := by decide +kernel
theorem dc_X11_range_47 : decode m_X11_range.2.2.1 47 = .ok (.invokevirtual 183, 3) := by decide +kernel
theorem dc_X11_range_50 : decode m_X11_range.2.2.1 50 = .ok (.ifCond .eq 7, 3) := by decide +kernel
theorem dc_X11_range_54 : decode m_X11_range.2.2.1 54 = .ok (.goto 14, 3) := by decide +kernel
theorem dc_X11_range_65 : decode m_X11_range.2.2.1 65 = .ok (.invokevirtual 208, 3) := by decide +kernel
theorem dc_X11_range_68 : decode m_X11_range.2.2.1 68 = .ok (.ireturn, 1) := by decide +kernel
theorem ok_X11_range_0_3 : oks m_X11_range.1 m_X11_range.2.2.1 0 [(.iload_n 1, 1, (0, 0, 0)), (.iconst 0, 1, (0, 0, 0)), (.bipush 9, 2, (0, 0, 0))] = true ∧ plen 0 [(.iload_n 1, 1, (0, 0, 0)), (.iconst 0, 1, (0, 0, 0)), (.bipush 9, 2, (0, 0, 0))] = 4 := by decide +kernel
theorem ok_X11_range_10_3 : oks m_X11_range.1 m_X11_range.2.2.1 10 [(.iload_n 2, 1, (0, 0, 0)), (.iload_n 1, 1, (0, 0, 0)), (.bipush 9, 2, (0, 0, 0))] = true ∧ plen 10 [(.iload_n 2, 1, (0, 0, 0)), (.iload_n 1, 1, (0, 0, 0)), (.bipush 9, 2, (0, 0, 0))] = 14 := by decide +kernel
theorem ok_X11_range_20_1 : oks m_X11_range.1 m_X11_range.2.2.1 20 [(.iconst 1, 1, (0, 0, 0))] = true ∧ plen 20 [(.iconst 1, 1, (0, 0, 0))] = 21 := by decide +kernel
theorem ok_X11_range_24_1 : oks m_X11_range.1 m_X11_range.2.2.1 24 [(.iconst 0, 1, (0, 0, 0))] = true ∧ plen 24 [(.iconst 0, 1, (0, 0, 0))] = 25 := by decide +kernel
theorem ok_X11_range_25_3 : oks m_X11_range.1 m_X11_range.2.2.1 25 [(.istore_n 3, 1, (0, 0, 0)), (.aload_n 0, 1, (0, 0, 0)), (.iload_n 3, 1, (0, 0, 0))] = true ∧ plen 25 [(.istore_n 3, 1, (0, 0, 0)), (.aload_n 0, 1, (0, 0, 0)), (.iload_n 3, 1, (0, 0, 0))] = 28 := by decide +kernel
theorem ok_X11_range_31_1 : oks m_X11_range.1 m_X11_range.2.2.1 31 [(.iconst 1, 1, (0, 0, 0))] = true ∧ plen 31 [(.iconst 1, 1, (0, 0, 0))] = 32 := by decide +kernel
theorem ok_X11_range_35_1 : oks m_X11_range.1 m_X11_range.2.2.1 35 [(.aload_n 0, 1, (0, 0, 0))] = true ∧ plen 35 [(.aload_n 0, 1, (0, 0, 0))] = 36 := by decide +kernel
theorem ok_X11_range_42_1 : oks m_X11_range.1 m_X11_range.2.2.1 42 [(.iconst 2, 1, (0, 0, 0))] = true ∧ plen 42 [(.iconst 2, 1, (0, 0, 0))] = 43 := by decide +kernel
theorem ok_X11_range_46_1 : oks m_X11_range.1 m_X11_range.2.2.1 46 [(.iconst 0, 1, (0, 0, 0))] = true ∧ plen 46 [(.iconst 0, 1, (0, 0, 0))] = 47 := by decide +kernel
theorem ok_X11_range_53_1 : oks m_X11_range.1 m_X11_range.2.2.1 53 [(.iconst 0, 1, (0, 0, 0))] = true ∧ plen 53 [(.iconst 0, 1, (0, 0, 0))] = 54 := by decide +kernel
theorem ok_X11_range_57_8 : oks m_X11_range.1 m_X11_range.2.2.1 57 [(.aload_n 0, 1, (0, 0, 0)), (.iconst 2, 1, (0, 0, 0)), (.iload_n 1, 1, (0, 0, 0)), (.iload_n 2, 1, (0, 0, 0)), (.iconst (-1), 1, (0, 0, 0)), (.iconst (-1), 1, (0, 0, 0)), (.iconst (-1), 1, (0, 0, 0)), (.iconst 4, 1, (0, 0, 0))] = true ∧ plen 57 [(.aload_n 0, 1, (0, 0, 0)), (.iconst 2, 1, (0, 0, 0)), (.iload_n 1, 1, (0, 0, 0)), (.iload_n 2, 1, (0, 0, 0)), (.iconst (-1), 1, (0, 0, 0)), (.iconst (-1), 1, (0, 0, 0)), (.iconst (-1), 1, (0, 0, 0)), (.iconst 4, 1, (0, 0, 0))] = 65 := by decide +kernel
def B_X11_range_47 (x1 : Int) (x2 : Int) (y0 : Int) (σ : Sg) : Option (Int × Sg) :=
bnd (F_X11_refused y0 σ) fun q1 =>
if q1.1 = true then
some (0, q1.2)
else
(F_X11_pattern 2 x1 x2 (-1) (-1) (-1) 4 q1.2).bind fun q3 =>
some (q3.1, q3.2)
def B_X11_range_25 (x1 : Int) (x2 : Int) (y0 : Bool) (σ : Sg) : Option (Int × Sg) :=
if y0 = true then
if (F_X11_isFull σ) = true then
B_X11_range_47 x1 x2 2 σ
else
B_X11_range_47 x1 x2 0 σ
else
B_X11_range_47 x1 x2 1 σ
def B_X11_range_24 (x1 : Int) (x2 : Int) (σ : Sg) : Option (Int × Sg) :=
B_X11_range_25 x1 x2 false σ
def F_X11_range (a1 : Int) (a2 : Int) (σ : Sg) : Option (Int × Sg) :=
if (F_X11_in a1 0 9) = true then
if (F_X11_in a2 a1 9) = true then
B_X11_range_25 a1 a2 true σ
else
B_X11_range_24 a1 a2 σ
else
B_X11_range_24 a1 a2 σ
theorem lk_X11_range (l : Launch) (d : Nat) (hd : 2 ≤ d) (a1 : Int) (a2 : Int) (σ : Sg) (q : (Int × Sg)) (h : F_X11_range a1 a2 σ = some q) : CT l d m_X11_range.2.1 m_X11_range.2.2.1 m_X11_range.2.2.2.1 m_X11_range.2.2.2.2 [.inr 0, .inl a1, .inl a2] (LAYM, σ) (some (.inl q.1)) (LAYM, q.2) := by
  obtain ⟨d, rfl⟩ : ∃ e, d = e + 1 := ⟨d - 1, by omega⟩
  have key : Go l m_X11_range (d + 1) LAYM (.inl (some (.inl q.1))) q.2 0 [some (.inr 0), some (.inl a1), some (.inl a2), none] [] σ := by
    unfold F_X11_range at h
    have hB_X11_range_47 : ∀ (x1 : Int) (x2 : Int) (y0 : Int) (σ : Sg), B_X11_range_47 x1 x2 y0 σ = some q → Go l m_X11_range (d + 1) LAYM (.inl (some (.inl q.1))) q.2 47 [some (.inr 0), some (.inl x1), some (.inl x2), none] [.inl y0, .inr 0] σ := by
      intro x1 x2 y0 σ h
      unfold B_X11_range_47 at h
      obtain ⟨q1, e2, h⟩ := bnd_inv h
      refine go_V (M1 := m_X11_refused) (as := [.inl y0]) (st := []) (k := 0) (ci := 11) dc_X11_range_47 ln_11_183 im_X11_refused (by decide) rfl rfl mk_X11_refused rfl (Nat.le_of_ble_eq_true rfl) (Nat.le_refl _) (v := (some (.inl (b2i q1.1)))) (σ1 := q1.2) (lk_X11_refused l d (by omega) y0 σ q1 e2.symm) _ rfl ?_
      refine go_ifb_eq dc_X11_range_50 (by rfl) (fun hc => ?_) (fun hc => ?_)
      · replace h := (if_neg hc).symm.trans h
        refine go_ops ok_X11_range_57_8 (L' := [some (.inr 0), some (.inl x1), some (.inl x2), none]) (st' := [.inl 4, .inl (-1), .inl (-1), .inl (-1), .inl x2, .inl x1, .inl 2, .inr 0]) (σ1 := q1.2) rfl ?_
        obtain ⟨q3, e4, h⟩ := bind_inv h
        refine go_V (M1 := m_X11_pattern) (as := [.inl 2, .inl x1, .inl x2, .inl (-1), .inl (-1), .inl (-1), .inl 4]) (st := []) (k := 0) (ci := 11) dc_X11_range_65 ln_11_208 im_X11_pattern (by decide) rfl rfl mk_X11_pattern rfl (Nat.le_of_ble_eq_true rfl) (Nat.le_refl _) (v := (some (.inl q3.1))) (σ1 := q3.2) (lk_X11_pattern l d (by omega) 2 x1 x2 (-1) (-1) (-1) 4 q1.2 q3 e4) _ rfl ?_
        have h9 := Option.some.inj h
        subst h9
        exact go_iret dc_X11_range_68 rfl
      · replace h := (if_pos hc).symm.trans h
        refine go_ops ok_X11_range_53_1 (L' := [some (.inr 0), some (.inl x1), some (.inl x2), none]) (st' := [.inl 0]) (σ1 := q1.2) rfl ?_
        refine go_goto dc_X11_range_54 (by rfl) ?_
        have h9 := Option.some.inj h
        subst h9
        exact go_iret dc_X11_range_68 rfl
    have hB_X11_range_25 : ∀ (x1 : Int) (x2 : Int) (y0 : Bool) (σ : Sg), B_X11_range_25 x1 x2 y0 σ = some q → Go l m_X11_range (d + 1) LAYM (.inl (some (.inl q.1))) q.2 25 [some (.inr 0), some (.inl x1), some (.inl x2), none] [.inl (b2i y0)] σ := by
      intro x1 x2 y0 σ h
      unfold B_X11_range_25 at h
      refine go_ops ok_X11_range_25_3 (L' := [some (.inr 0), some (.inl x1), some (.inl x2), some (.inl (b2i y0))]) (st' := [.inl (b2i y0), .inr 0]) (σ1 := σ) rfl ?_
      refine go_ifb_ne dc_X11_range_28 (by rfl) (fun hc => ?_) (fun hc => ?_)
      · replace h := (if_pos hc).symm.trans h
        refine go_ops ok_X11_range_35_1 (L' := [some (.inr 0), some (.inl x1), some (.inl x2), some (.inl (b2i y0))]) (st' := [.inr 0, .inr 0]) (σ1 := σ) rfl ?_
        refine go_V (M1 := m_X11_isFull) (as := []) (st := [.inr 0]) (k := 0) (ci := 11) dc_X11_range_36 ln_11_204 im_X11_isFull (by decide) rfl rfl mk_X11_isFull rfl (Nat.le_of_ble_eq_true rfl) (Nat.le_refl _) (v := (some (.inl (b2i (F_X11_isFull σ))))) (σ1 := σ) (lk_X11_isFull l d (by omega) σ _ rfl) _ rfl ?_
        refine go_ifb_eq dc_X11_range_39 (by rfl) (fun hc => ?_) (fun hc => ?_)
        · replace h := (if_neg hc).symm.trans h
          refine go_ops ok_X11_range_46_1 (L' := [some (.inr 0), some (.inl x1), some (.inl x2), some (.inl (b2i y0))]) (st' := [.inl 0, .inr 0]) (σ1 := σ) rfl ?_
          refine go_wk (L' := [some (.inr 0), some (.inl x1), some (.inl x2), none]) ⟨rfl, rfl, rfl, trivial⟩ ?_
          exact hB_X11_range_47 x1 x2 0 σ h
        · replace h := (if_pos hc).symm.trans h
          refine go_ops ok_X11_range_42_1 (L' := [some (.inr 0), some (.inl x1), some (.inl x2), some (.inl (b2i y0))]) (st' := [.inl 2, .inr 0]) (σ1 := σ) rfl ?_
          refine go_goto dc_X11_range_43 (by rfl) ?_
          refine go_wk (L' := [some (.inr 0), some (.inl x1), some (.inl x2), none]) ⟨rfl, rfl, rfl, trivial⟩ ?_
          exact hB_X11_range_47 x1 x2 2 σ h
      · replace h := (if_neg hc).symm.trans h
        refine go_ops ok_X11_range_31_1 (L' := [some (.inr 0), some (.inl x1), some (.inl x2), some (.inl (b2i y0))]) (st' := [.inl 1, .inr 0]) (σ1 := σ) rfl ?_
        refine go_goto dc_X11_range_32 (by rfl) ?_
        refine go_wk (L' := [some (.inr 0), some (.inl x1), some (.inl x2), none]) ⟨rfl, rfl, rfl, trivial⟩ ?_
        exact hB_X11_range_47 x1 x2 1 σ h
    have hB_X11_range_24 : ∀ (x1 : Int) (x2 : Int) (σ : Sg), B_X11_range_24 x1 x2 σ = some q → Go l m_X11_range (d + 1) LAYM (.inl (some (.inl q.1))) q.2 24 [some (.inr 0), some (.inl x1), some (.inl x2), none] [] σ := by
      intro x1 x2 σ h
      unfold B_X11_range_24 at h
      refine go_ops ok_X11_range_24_1 (L' := [some (.inr 0), some (.inl x1), some (.inl x2), none]) (st' := [.inl 0]) (σ1 := σ) rfl ?_
      exact hB_X11_range_25 x1 x2 false σ h
    refine go_ops ok_X11_range_0_3 (L' := [some (.inr 0), some (.inl a1), some (.inl a2), none]) (st' := [.inl 9, .inl 0, .inl a1]) (σ1 := σ) rfl ?_
    refine go_S (M1 := m_X11_in) (as := [.inl a1, .inl 0, .inl 9]) (st := []) dc_X11_range_4 ln_11_171 sm_X11_in mk_X11_in rfl (Nat.le_of_ble_eq_true rfl) (Nat.le_refl _) (v := (some (.inl (b2i (F_X11_in a1 0 9))))) (σ1 := σ) (lk_X11_in l d (by omega) a1 0 9 σ _ rfl) _ rfl ?_
    refine go_ifb_eq dc_X11_range_7 (by rfl) (fun hc => ?_) (fun hc => ?_)
    · replace h := (if_neg hc).symm.trans h
      exact hB_X11_range_24 a1 a2 σ h
    · replace h := (if_pos hc).symm.trans h
      refine go_ops ok_X11_range_10_3 (L' := [some (.inr 0), some (.inl a1), some (.inl a2), none]) (st' := [.inl 9, .inl a1, .inl a2]) (σ1 := σ) rfl ?_
      refine go_S (M1 := m_X11_in) (as := [.inl a2, .inl a1, .inl 9]) (st := []) dc_X11_range_14 ln_11_171 sm_X11_in mk_X11_in rfl (Nat.le_of_ble_eq_true rfl) (Nat.le_refl _) (v := (some (.inl (b2i (F_X11_in a2 a1 9))))) (σ1 := σ) (lk_X11_in l d (by omega) a2 a1 9 σ _ rfl) _ rfl ?_
      refine go_ifb_eq dc_X11_range_17 (by rfl) (fun hc => ?_) (fun hc => ?_)
      · replace h := (if_neg hc).symm.trans h
        exact hB_X11_range_24 a1 a2 σ h
      · replace h := (if_pos hc).symm.trans h
        refine go_ops ok_X11_range_20_1 (L' := [some (.inr 0), some (.inl a1), some (.inl a2), none]) (st' := [.inl 1]) (σ1 := σ) rfl ?_
        refine go_goto dc_X11_range_21 (by rfl) ?_
        exact hB_X11_range_25 a1 a2 true σ h
  have hf := go_ct (as := [.inr 0, .inl a1, .inl a2]) mk_X11_range (by rfl) (Nat.le_of_ble_eq_true rfl) key
  exact hf
