/-! read off: X0_forget .. X1_clear -/
theorem dc_X0_forget_2 : decode m_X0_forget.2.2.1 2 = .ok (.putfield 9, 3) := by decide +kernel
theorem dc_X0_forget_5 : decode m_X0_forget.2.2.1 5 = .ok (.return_, 1) := by decide +kernel
theorem ok_X0_forget_0_2 : oks m_X0_forget.1 m_X0_forget.2.2.1 0 [(.aload_n 0, 1, (0, 0, 0)), (.iconst 0, 1, (0, 0, 0))] = true ∧ plen 0 [(.aload_n 0, 1, (0, 0, 0)), (.iconst 0, 1, (0, 0, 0))] = 2 := by decide +kernel
def F_X0_forget (σ : Sg) : Sg :=
bnd (up2 σ 33 3 0) fun s1 =>
s1
theorem lk_X0_forget (l : Launch) (d : Nat) (hd : 0 ≤ d) (σ : Sg) (q : Sg) (h : F_X0_forget σ = q) : CT l d m_X0_forget.2.1 m_X0_forget.2.2.1 m_X0_forget.2.2.2.1 m_X0_forget.2.2.2.2 [.inr 33] (LAYC, σ) none (LAYC, q) := by
  skip
  have key : Go l m_X0_forget d LAYC (.inl none) q 0 [some (.inr 33)] [] σ := by
    unfold F_X0_forget at h
    refine go_ops ok_X0_forget_0_2 (L' := [some (.inr 33)]) (st' := [.inl 0, .inr 33]) (σ1 := σ) rfl ?_
    obtain ⟨s1, e2, h⟩ := bnd_inv h
    refine go_pfb (b := false) (k := 33) (ci := 0) (sl := 3) dc_X0_forget_2 (by decide +kernel) (by decide) rfl rfl (by decide +kernel) (by decide +kernel) e2 ?_
    subst h
    exact go_vret dc_X0_forget_5 rfl
  have hf := go_ct (as := [.inr 33]) mk_X0_forget (by rfl) (Nat.le_of_ble_eq_true rfl) key
  exact hf
theorem dc_X4_count_4 : decode m_X4_count.2.2.1 4 = .ok (.ireturn, 1) := by decide +kernel
theorem ok_X4_count_0_2 : oks m_X4_count.1 m_X4_count.2.2.1 0 [(.aload_n 0, 1, (0, 0, 0)), (.getfield 15, 3, (4, 1, 0))] = true ∧ plen 0 [(.aload_n 0, 1, (0, 0, 0)), (.getfield 15, 3, (4, 1, 0))] = 4 := by decide +kernel
def F_X4_count (σ : Sg) : Int :=
σ 24 1
theorem lk_X4_count (l : Launch) (d : Nat) (hd : 0 ≤ d) (σ : Sg) (q : Int) (h : F_X4_count σ = q) : CT l d m_X4_count.2.1 m_X4_count.2.2.1 m_X4_count.2.2.2.1 m_X4_count.2.2.2.2 [.inr 24] (LAYC, σ) (some (.inl q)) (LAYC, σ) := by
  skip
  have key : Go l m_X4_count d LAYC (.inl (some (.inl q))) σ 0 [some (.inr 24)] [] σ := by
    unfold F_X4_count at h
    refine go_ops ok_X4_count_0_2 (L' := [some (.inr 24)]) (st' := [.inl (σ 24 1)]) (σ1 := σ) rfl ?_
    subst h
    exact go_iret dc_X4_count_4 rfl
  have hf := go_ct (as := [.inr 24]) mk_X4_count (by rfl) (Nat.le_of_ble_eq_true rfl) key
  exact hf
theorem dc_X0_write_35 : decode m_X0_write.2.2.1 35 = .ok (.invokestatic 78, 3) := by decide +kernel
theorem dc_X0_write_46 : decode m_X0_write.2.2.1 46 = .ok (.invokestatic 78, 3) := by decide +kernel
theorem dc_X0_write_51 : decode m_X0_write.2.2.1 51 = .ok (.ireturn, 1) := by decide +kernel
theorem ok_X0_write_0_24 : oks m_X0_write.1 m_X0_write.2.2.1 0 [(.aload_n 0, 1, (0, 0, 0)), (.dup, 1, (0, 0, 0)), (.getfield 15, 3, (0, 4, 0)), (.dup_x1, 1, (0, 0, 0)), (.iconst 1, 1, (0, 0, 0)), (.iadd, 1, (0, 0, 0)), (.putfield 15, 3, (0, 4, 0)), (.istore 6, 2, (0, 0, 0)), (.aload_n 0, 1, (0, 0, 0)), (.getfield 22, 3, (0, 6, 0)), (.iload 6, 2, (0, 0, 0)), (.iload_n 1, 1, (0, 0, 0)), (.iload_n 2, 1, (0, 0, 0)), (.iconst 4, 1, (0, 0, 0)), (.ishl, 1, (0, 0, 0)), (.ior, 1, (0, 0, 0)), (.iload_n 3, 1, (0, 0, 0)), (.bipush 8, 2, (0, 0, 0)), (.ishl, 1, (0, 0, 0)), (.ior, 1, (0, 0, 0)), (.iload 4, 2, (0, 0, 0)), (.bipush 16, 2, (0, 0, 0)), (.ishl, 1, (0, 0, 0)), (.ior, 1, (0, 0, 0))] = true ∧ plen 0 [(.aload_n 0, 1, (0, 0, 0)), (.dup, 1, (0, 0, 0)), (.getfield 15, 3, (0, 4, 0)), (.dup_x1, 1, (0, 0, 0)), (.iconst 1, 1, (0, 0, 0)), (.iadd, 1, (0, 0, 0)), (.putfield 15, 3, (0, 4, 0)), (.istore 6, 2, (0, 0, 0)), (.aload_n 0, 1, (0, 0, 0)), (.getfield 22, 3, (0, 6, 0)), (.iload 6, 2, (0, 0, 0)), (.iload_n 1, 1, (0, 0, 0)), (.iload_n 2, 1, (0, 0, 0)), (.iconst 4, 1, (0, 0, 0)), (.ishl, 1, (0, 0, 0)), (.ior, 1, (0, 0, 0)), (.iload_n 3, 1, (0, 0, 0)), (.bipush 8, 2, (0, 0, 0)), (.ishl, 1, (0, 0, 0)), (.ior, 1, (0, 0, 0)), (.iload 4, 2, (0, 0, 0)), (.bipush 16, 2, (0, 0, 0)), (.ishl, 1, (0, 0, 0)), (.ior, 1, (0, 0, 0))] = 35 := by decide +kernel
theorem ok_X0_write_38_4 : oks m_X0_write.1 m_X0_write.2.2.1 38 [(.aload_n 0, 1, (0, 0, 0)), (.getfield 26, 3, (0, 7, 0)), (.iload 6, 2, (0, 0, 0)), (.iload 5, 2, (0, 0, 0))] = true ∧ plen 38 [(.aload_n 0, 1, (0, 0, 0)), (.getfield 26, 3, (0, 7, 0)), (.iload 6, 2, (0, 0, 0)), (.iload 5, 2, (0, 0, 0))] = 46 := by decide +kernel
theorem ok_X0_write_49_1 : oks m_X0_write.1 m_X0_write.2.2.1 49 [(.iload 6, 2, (0, 0, 0))] = true ∧ plen 49 [(.iload 6, 2, (0, 0, 0))] = 51 := by decide +kernel
def F_X0_write (a1 : Int) (a2 : Int) (a3 : Int) (a4 : Int) (a5 : Int) (σ : Sg) : (Int × Sg) :=
bnd (up2 σ 33 4 (wrap ((σ 33 4) + 1))) fun s1 =>
bnd (σ 33 4) fun v3 =>
bnd (wrD s1 34 1969 v3 (jor (jor (jor a1 (jshl a2 4)) (jshl a3 8)) (jshl a4 16))) fun s5 =>
bnd (wrD s5 35 1969 v3 a5) fun s7 =>
(v3, s7)
theorem lk_X0_write (l : Launch) (d : Nat) (hd : 1 ≤ d) (a1 : Int) (a2 : Int) (a3 : Int) (a4 : Int) (a5 : Int) (σ : Sg) (q : (Int × Sg)) (h : F_X0_write a1 a2 a3 a4 a5 σ = q) : CT l d m_X0_write.2.1 m_X0_write.2.2.1 m_X0_write.2.2.2.1 m_X0_write.2.2.2.2 [.inr 33, .inl a1, .inl a2, .inl a3, .inl a4, .inl a5] (LAYC, σ) (some (.inl q.1)) (LAYC, q.2) := by
  obtain ⟨d, rfl⟩ : ∃ e, d = e + 1 := ⟨d - 1, by omega⟩
  have key : Go l m_X0_write (d + 1) LAYC (.inl (some (.inl q.1))) q.2 0 [some (.inr 33), some (.inl a1), some (.inl a2), some (.inl a3), some (.inl a4), some (.inl a5), none] [] σ := by
    unfold F_X0_write at h
    obtain ⟨s1, e2, h⟩ := bnd_inv h
    obtain ⟨v3, e4, h⟩ := bnd_inv h
    refine go_ops ok_X0_write_0_24 (L' := [some (.inr 33), some (.inl a1), some (.inl a2), some (.inl a3), some (.inl a4), some (.inl a5), some (.inl v3)]) (st' := [.inl (jor (jor (jor a1 (jshl a2 4)) (jshl a3 8)) (jshl a4 16)), .inl v3, .inr 34]) (σ1 := s1) (by subst e4; subst e2; rfl) ?_
    obtain ⟨s5, e6, h⟩ := bnd_inv h
    refine go_SN (M1 := m_X10_put) (as := [.inr 34, .inl v3, .inl (jor (jor (jor a1 (jshl a2 4)) (jshl a3 8)) (jshl a4 16))]) (st := []) dc_X0_write_35 ln_0_78 sm_X10_put mk_X10_put rfl (Nat.le_of_ble_eq_true rfl) (Nat.le_refl _) (v := none) (σ1 := s5) (lk_X10_put l d LAYC 34 1969 rfl _ _ s5 e6) _ rfl ?_
    refine go_ops ok_X0_write_38_4 (L' := [some (.inr 33), some (.inl a1), some (.inl a2), some (.inl a3), some (.inl a4), some (.inl a5), some (.inl v3)]) (st' := [.inl a5, .inl v3, .inr 35]) (σ1 := s5) rfl ?_
    obtain ⟨s7, e8, h⟩ := bnd_inv h
    refine go_SN (M1 := m_X10_put) (as := [.inr 35, .inl v3, .inl a5]) (st := []) dc_X0_write_46 ln_0_78 sm_X10_put mk_X10_put rfl (Nat.le_of_ble_eq_true rfl) (Nat.le_refl _) (v := none) (σ1 := s7) (lk_X10_put l d LAYC 35 1969 rfl _ _ s7 e8) _ rfl ?_
    refine go_ops ok_X0_write_49_1 (L' := [some (.inr 33), some (.inl a1), some (.inl a2), some (.inl a3), some (.inl a4), some (.inl a5), some (.inl v3)]) (st' := [.inl v3]) (σ1 := s7) rfl ?_
    subst h
    exact go_iret dc_X0_write_51 rfl
  have hf := go_ct (as := [.inr 33, .inl a1, .inl a2, .inl a3, .inl a4, .inl a5]) mk_X0_write (by rfl) (Nat.le_of_ble_eq_true rfl) key
  exact hf
theorem dc_X4_columns_4 : decode m_X4_columns.2.2.1 4 = .ok (.ireturn, 1) := by decide +kernel
theorem ok_X4_columns_0_2 : oks m_X4_columns.1 m_X4_columns.2.2.1 0 [(.aload_n 0, 1, (0, 0, 0)), (.getfield 9, 3, (4, 0, 0))] = true ∧ plen 0 [(.aload_n 0, 1, (0, 0, 0)), (.getfield 9, 3, (4, 0, 0))] = 4 := by decide +kernel
def F_X4_columns (σ : Sg) : Int :=
σ 24 0
theorem lk_X4_columns (l : Launch) (d : Nat) (hd : 0 ≤ d) (σ : Sg) (q : Int) (h : F_X4_columns σ = q) : CT l d m_X4_columns.2.1 m_X4_columns.2.2.1 m_X4_columns.2.2.2.1 m_X4_columns.2.2.2.2 [.inr 24] (LAYC, σ) (some (.inl q)) (LAYC, σ) := by
  skip
  have key : Go l m_X4_columns d LAYC (.inl (some (.inl q))) σ 0 [some (.inr 24)] [] σ := by
    unfold F_X4_columns at h
    refine go_ops ok_X4_columns_0_2 (L' := [some (.inr 24)]) (st' := [.inl (σ 24 0)]) (σ1 := σ) rfl ?_
    subst h
    exact go_iret dc_X4_columns_4 rfl
  have hf := go_ct (as := [.inr 24]) mk_X4_columns (by rfl) (Nat.le_of_ble_eq_true rfl) key
  exact hf
theorem dc_X4_has_2 : decode m_X4_has.2.2.1 2 = .ok (.if_icmp .gt 15, 3) := by decide +kernel
theorem dc_X4_has_10 : decode m_X4_has.2.2.1 10 = .ok (.if_icmp .ge 7, 3) := by decide +kernel
theorem dc_X4_has_14 : decode m_X4_has.2.2.1 14 = .ok (.goto 4, 3) := by decide +kernel
theorem dc_X4_has_18 : decode m_X4_has.2.2.1 18 = .ok (.ireturn, 1) := by decide +kernel
theorem ok_X4_has_0_2 : oks m_X4_has.1 m_X4_has.2.2.1 0 [(.iconst 0, 1, (0, 0, 0)), (.iload_n 1, 1, (0, 0, 0))] = true ∧ plen 0 [(.iconst 0, 1, (0, 0, 0)), (.iload_n 1, 1, (0, 0, 0))] = 2 := by decide +kernel
theorem ok_X4_has_5_3 : oks m_X4_has.1 m_X4_has.2.2.1 5 [(.iload_n 1, 1, (0, 0, 0)), (.aload_n 0, 1, (0, 0, 0)), (.getfield 15, 3, (4, 1, 0))] = true ∧ plen 5 [(.iload_n 1, 1, (0, 0, 0)), (.aload_n 0, 1, (0, 0, 0)), (.getfield 15, 3, (4, 1, 0))] = 10 := by decide +kernel
theorem ok_X4_has_13_1 : oks m_X4_has.1 m_X4_has.2.2.1 13 [(.iconst 1, 1, (0, 0, 0))] = true ∧ plen 13 [(.iconst 1, 1, (0, 0, 0))] = 14 := by decide +kernel
theorem ok_X4_has_17_1 : oks m_X4_has.1 m_X4_has.2.2.1 17 [(.iconst 0, 1, (0, 0, 0))] = true ∧ plen 17 [(.iconst 0, 1, (0, 0, 0))] = 18 := by decide +kernel
def F_X4_has (a1 : Int) (σ : Sg) : Bool :=
if a1 < 0 then
false
else
if (σ 24 1) ≤ a1 then
false
else
true
theorem lk_X4_has (l : Launch) (d : Nat) (hd : 0 ≤ d) (a1 : Int) (σ : Sg) (q : Bool) (h : F_X4_has a1 σ = q) : CT l d m_X4_has.2.1 m_X4_has.2.2.1 m_X4_has.2.2.2.1 m_X4_has.2.2.2.2 [.inr 24, .inl a1] (LAYC, σ) (some (.inl (b2i q))) (LAYC, σ) := by
  skip
  have key : Go l m_X4_has d LAYC (.inl (some (.inl (b2i q)))) σ 0 [some (.inr 24), some (.inl a1)] [] σ := by
    unfold F_X4_has at h
    refine go_ops ok_X4_has_0_2 (L' := [some (.inr 24), some (.inl a1)]) (st' := [.inl a1, .inl 0]) (σ1 := σ) rfl ?_
    refine go_icmp_gt dc_X4_has_2 (by rfl) (fun hc => ?_) (fun hc => ?_)
    · replace h := (if_pos hc).symm.trans h
      refine go_ops ok_X4_has_17_1 (L' := [some (.inr 24), some (.inl a1)]) (st' := [.inl 0]) (σ1 := σ) rfl ?_
      subst h
      exact go_zret (x := false) dc_X4_has_18 rfl
    · replace h := (if_neg hc).symm.trans h
      refine go_ops ok_X4_has_5_3 (L' := [some (.inr 24), some (.inl a1)]) (st' := [.inl (σ 24 1), .inl a1]) (σ1 := σ) rfl ?_
      refine go_icmp_ge dc_X4_has_10 (by rfl) (fun hc => ?_) (fun hc => ?_)
      · replace h := (if_pos hc).symm.trans h
        refine go_ops ok_X4_has_17_1 (L' := [some (.inr 24), some (.inl a1)]) (st' := [.inl 0]) (σ1 := σ) rfl ?_
        subst h
        exact go_zret (x := false) dc_X4_has_18 rfl
      · replace h := (if_neg hc).symm.trans h
        refine go_ops ok_X4_has_13_1 (L' := [some (.inr 24), some (.inl a1)]) (st' := [.inl 1]) (σ1 := σ) rfl ?_
        refine go_goto dc_X4_has_14 (by rfl) ?_
        subst h
        exact go_zret (x := true) dc_X4_has_18 rfl
  have hf := go_ct (as := [.inr 24, .inl a1]) mk_X4_has (by rfl) (Nat.le_of_ble_eq_true rfl) key
  exact hf
theorem dc_X10_isIn_2 : decode m_X10_isIn.2.2.1 2 = .ok (.if_icmp .gt 12, 3) := by decide +kernel
theorem dc_X10_isIn_7 : decode m_X10_isIn.2.2.1 7 = .ok (.if_icmp .gt 7, 3) := by decide +kernel
theorem dc_X10_isIn_11 : decode m_X10_isIn.2.2.1 11 = .ok (.goto 4, 3) := by decide +kernel
theorem dc_X10_isIn_15 : decode m_X10_isIn.2.2.1 15 = .ok (.ireturn, 1) := by decide +kernel
theorem ok_X10_isIn_0_2 : oks m_X10_isIn.1 m_X10_isIn.2.2.1 0 [(.iload_n 1, 1, (0, 0, 0)), (.iload_n 0, 1, (0, 0, 0))] = true ∧ plen 0 [(.iload_n 1, 1, (0, 0, 0)), (.iload_n 0, 1, (0, 0, 0))] = 2 := by decide +kernel
theorem ok_X10_isIn_5_2 : oks m_X10_isIn.1 m_X10_isIn.2.2.1 5 [(.iload_n 0, 1, (0, 0, 0)), (.iload_n 2, 1, (0, 0, 0))] = true ∧ plen 5 [(.iload_n 0, 1, (0, 0, 0)), (.iload_n 2, 1, (0, 0, 0))] = 7 := by decide +kernel
theorem ok_X10_isIn_10_1 : oks m_X10_isIn.1 m_X10_isIn.2.2.1 10 [(.iconst 1, 1, (0, 0, 0))] = true ∧ plen 10 [(.iconst 1, 1, (0, 0, 0))] = 11 := by decide +kernel
theorem ok_X10_isIn_14_1 : oks m_X10_isIn.1 m_X10_isIn.2.2.1 14 [(.iconst 0, 1, (0, 0, 0))] = true ∧ plen 14 [(.iconst 0, 1, (0, 0, 0))] = 15 := by decide +kernel
def F_X10_isIn (a0 : Int) (a1 : Int) (a2 : Int) : Bool :=
if a0 < a1 then
false
else
if a2 < a0 then
false
else
true
theorem lk_X10_isIn (l : Launch) (d : Nat) (hd : 0 ≤ d) (a0 : Int) (a1 : Int) (a2 : Int) (σ : Sg) (q : Bool) (h : F_X10_isIn a0 a1 a2 = q) : CT l d m_X10_isIn.2.1 m_X10_isIn.2.2.1 m_X10_isIn.2.2.2.1 m_X10_isIn.2.2.2.2 [.inl a0, .inl a1, .inl a2] (LAYC, σ) (some (.inl (b2i q))) (LAYC, σ) := by
  skip
  have key : Go l m_X10_isIn d LAYC (.inl (some (.inl (b2i q)))) σ 0 [some (.inl a0), some (.inl a1), some (.inl a2)] [] σ := by
    unfold F_X10_isIn at h
    refine go_ops ok_X10_isIn_0_2 (L' := [some (.inl a0), some (.inl a1), some (.inl a2)]) (st' := [.inl a0, .inl a1]) (σ1 := σ) rfl ?_
    refine go_icmp_gt dc_X10_isIn_2 (by rfl) (fun hc => ?_) (fun hc => ?_)
    · replace h := (if_pos hc).symm.trans h
      refine go_ops ok_X10_isIn_14_1 (L' := [some (.inl a0), some (.inl a1), some (.inl a2)]) (st' := [.inl 0]) (σ1 := σ) rfl ?_
      subst h
      exact go_zret (x := false) dc_X10_isIn_15 rfl
    · replace h := (if_neg hc).symm.trans h
      refine go_ops ok_X10_isIn_5_2 (L' := [some (.inl a0), some (.inl a1), some (.inl a2)]) (st' := [.inl a2, .inl a0]) (σ1 := σ) rfl ?_
      refine go_icmp_gt dc_X10_isIn_7 (by rfl) (fun hc => ?_) (fun hc => ?_)
      · replace h := (if_pos hc).symm.trans h
        refine go_ops ok_X10_isIn_14_1 (L' := [some (.inl a0), some (.inl a1), some (.inl a2)]) (st' := [.inl 0]) (σ1 := σ) rfl ?_
        subst h
        exact go_zret (x := false) dc_X10_isIn_15 rfl
      · replace h := (if_neg hc).symm.trans h
        refine go_ops ok_X10_isIn_10_1 (L' := [some (.inl a0), some (.inl a1), some (.inl a2)]) (st' := [.inl 1]) (σ1 := σ) rfl ?_
        refine go_goto dc_X10_isIn_11 (by rfl) ?_
        subst h
        exact go_zret (x := true) dc_X10_isIn_15 rfl
  have hf := go_ct (as := [.inl a0, .inl a1, .inl a2]) mk_X10_isIn (by rfl) (Nat.le_of_ble_eq_true rfl) key
  exact hf
theorem dc_X4_get_2 : decode m_X4_get.2.2.1 2 = .ok (.invokevirtual 33, 3) := by decide +kernel
theorem dc_X4_get_5 : decode m_X4_get.2.2.1 5 = .ok (.ifCond .eq 29, 3) := by decide +kernel
theorem dc_X4_get_12 : decode m_X4_get.2.2.1 12 = .ok (.invokestatic 25, 3) := by decide +kernel
theorem dc_X4_get_15 : decode m_X4_get.2.2.1 15 = .ok (.ifCond .eq 19, 3) := by decide +kernel
theorem dc_X4_get_28 : decode m_X4_get.2.2.1 28 = .ok (.invokestatic 29, 3) := by decide +kernel
theorem dc_X4_get_31 : decode m_X4_get.2.2.1 31 = .ok (.goto 4, 3) := by decide +kernel
theorem dc_X4_get_35 : decode m_X4_get.2.2.1 35 = .ok (.ireturn, 1) := by decide +kernel
theorem ok_X4_get_0_2 : oks m_X4_get.1 m_X4_get.2.2.1 0 [(.aload_n 0, 1, (0, 0, 0)), (.iload_n 1, 1, (0, 0, 0))] = true ∧ plen 0 [(.aload_n 0, 1, (0, 0, 0)), (.iload_n 1, 1, (0, 0, 0))] = 2 := by decide +kernel
theorem ok_X4_get_8_3 : oks m_X4_get.1 m_X4_get.2.2.1 8 [(.iload_n 2, 1, (0, 0, 0)), (.iconst 0, 1, (0, 0, 0)), (.bipush 7, 2, (0, 0, 0))] = true ∧ plen 8 [(.iload_n 2, 1, (0, 0, 0)), (.iconst 0, 1, (0, 0, 0)), (.bipush 7, 2, (0, 0, 0))] = 12 := by decide +kernel
theorem ok_X4_get_18_7 : oks m_X4_get.1 m_X4_get.2.2.1 18 [(.aload_n 0, 1, (0, 0, 0)), (.getfield 22, 3, (4, 3, 0)), (.iload_n 1, 1, (0, 0, 0)), (.bipush 8, 2, (0, 0, 0)), (.imul, 1, (0, 0, 0)), (.iload_n 2, 1, (0, 0, 0)), (.iadd, 1, (0, 0, 0))] = true ∧ plen 18 [(.aload_n 0, 1, (0, 0, 0)), (.getfield 22, 3, (4, 3, 0)), (.iload_n 1, 1, (0, 0, 0)), (.bipush 8, 2, (0, 0, 0)), (.imul, 1, (0, 0, 0)), (.iload_n 2, 1, (0, 0, 0)), (.iadd, 1, (0, 0, 0))] = 28 := by decide +kernel
theorem ok_X4_get_34_1 : oks m_X4_get.1 m_X4_get.2.2.1 34 [(.iconst (-1), 1, (0, 0, 0))] = true ∧ plen 34 [(.iconst (-1), 1, (0, 0, 0))] = 35 := by decide +kernel
def F_X4_get (a1 : Int) (a2 : Int) (σ : Sg) : Int :=
if (F_X4_has a1 σ) = true then
if (F_X10_isIn a2 0 7) = true then
rdD (-1) σ 26 64 (wrap ((wrap (a1 * 8)) + a2))
else
(-1)
else
(-1)
theorem lk_X4_get (l : Launch) (d : Nat) (hd : 1 ≤ d) (a1 : Int) (a2 : Int) (σ : Sg) (q : Int) (h : F_X4_get a1 a2 σ = q) : CT l d m_X4_get.2.1 m_X4_get.2.2.1 m_X4_get.2.2.2.1 m_X4_get.2.2.2.2 [.inr 24, .inl a1, .inl a2] (LAYC, σ) (some (.inl q)) (LAYC, σ) := by
  obtain ⟨d, rfl⟩ : ∃ e, d = e + 1 := ⟨d - 1, by omega⟩
  have key : Go l m_X4_get (d + 1) LAYC (.inl (some (.inl q))) σ 0 [some (.inr 24), some (.inl a1), some (.inl a2)] [] σ := by
    unfold F_X4_get at h
    refine go_ops ok_X4_get_0_2 (L' := [some (.inr 24), some (.inl a1), some (.inl a2)]) (st' := [.inl a1, .inr 24]) (σ1 := σ) rfl ?_
    refine go_V (M1 := m_X4_has) (as := [.inl a1]) (st := []) (k := 24) (ci := 4) dc_X4_get_2 ln_4_33 im_X4_has (by decide) rfl rfl mk_X4_has rfl (Nat.le_of_ble_eq_true rfl) (Nat.le_refl _) (v := (some (.inl (b2i (F_X4_has a1 σ))))) (σ1 := σ) (lk_X4_has l d (by omega) a1 σ _ rfl) _ rfl ?_
    refine go_ifb_eq dc_X4_get_5 (by rfl) (fun hc => ?_) (fun hc => ?_)
    · replace h := (if_neg hc).symm.trans h
      refine go_ops ok_X4_get_34_1 (L' := [some (.inr 24), some (.inl a1), some (.inl a2)]) (st' := [.inl (-1)]) (σ1 := σ) rfl ?_
      subst h
      exact go_iret dc_X4_get_35 rfl
    · replace h := (if_pos hc).symm.trans h
      refine go_ops ok_X4_get_8_3 (L' := [some (.inr 24), some (.inl a1), some (.inl a2)]) (st' := [.inl 7, .inl 0, .inl a2]) (σ1 := σ) rfl ?_
      refine go_SN (M1 := m_X10_isIn) (as := [.inl a2, .inl 0, .inl 7]) (st := []) dc_X4_get_12 ln_4_25 sm_X10_isIn mk_X10_isIn rfl (Nat.le_of_ble_eq_true rfl) (Nat.le_refl _) (v := (some (.inl (b2i (F_X10_isIn a2 0 7))))) (σ1 := σ) (lk_X10_isIn l d (by omega) a2 0 7 σ _ rfl) _ rfl ?_
      refine go_ifb_eq dc_X4_get_15 (by rfl) (fun hc => ?_) (fun hc => ?_)
      · replace h := (if_neg hc).symm.trans h
        refine go_ops ok_X4_get_34_1 (L' := [some (.inr 24), some (.inl a1), some (.inl a2)]) (st' := [.inl (-1)]) (σ1 := σ) rfl ?_
        subst h
        exact go_iret dc_X4_get_35 rfl
      · replace h := (if_pos hc).symm.trans h
        refine go_ops ok_X4_get_18_7 (L' := [some (.inr 24), some (.inl a1), some (.inl a2)]) (st' := [.inl (wrap ((wrap (a1 * 8)) + a2)), .inr 26]) (σ1 := σ) rfl ?_
        refine go_SN (M1 := m_X10_at) (as := [.inr 26, .inl (wrap ((wrap (a1 * 8)) + a2))]) (st := []) dc_X4_get_28 ln_4_29 sm_X10_at mk_X10_at rfl (Nat.le_of_ble_eq_true rfl) (Nat.le_refl _) (v := some (.inl (rdD (-1) σ 26 64 (wrap ((wrap (a1 * 8)) + a2))))) (σ1 := σ) (lk_X10_at l d LAYC 26 64 rfl σ _) _ rfl ?_
        refine go_goto dc_X4_get_31 (by rfl) ?_
        subst h
        exact go_iret dc_X4_get_35 rfl
  have hf := go_ct (as := [.inr 24, .inl a1, .inl a2]) mk_X4_get (by rfl) (Nat.le_of_ble_eq_true rfl) key
  exact hf
theorem dc_X5_lowOf_5 : decode m_X5_lowOf.2.2.1 5 = .ok (.invokestatic 53, 3) := by decide +kernel
theorem dc_X5_lowOf_8 : decode m_X5_lowOf.2.2.1 8 = .ok (.ireturn, 1) := by decide +kernel
theorem ok_X5_lowOf_0_3 : oks m_X5_lowOf.1 m_X5_lowOf.2.2.1 0 [(.aload_n 0, 1, (0, 0, 0)), (.getfield 22, 3, (5, 3, 0)), (.iload_n 1, 1, (0, 0, 0))] = true ∧ plen 0 [(.aload_n 0, 1, (0, 0, 0)), (.getfield 22, 3, (5, 3, 0)), (.iload_n 1, 1, (0, 0, 0))] = 5 := by decide +kernel
def F_X5_lowOf (a1 : Int) (σ : Sg) : Int :=
rdD (-1) σ 13 60 a1
theorem lk_X5_lowOf (l : Launch) (d : Nat) (hd : 1 ≤ d) (a1 : Int) (σ : Sg) (q : Int) (h : F_X5_lowOf a1 σ = q) : CT l d m_X5_lowOf.2.1 m_X5_lowOf.2.2.1 m_X5_lowOf.2.2.2.1 m_X5_lowOf.2.2.2.2 [.inr 10, .inl a1] (LAYC, σ) (some (.inl q)) (LAYC, σ) := by
  obtain ⟨d, rfl⟩ : ∃ e, d = e + 1 := ⟨d - 1, by omega⟩
  have key : Go l m_X5_lowOf (d + 1) LAYC (.inl (some (.inl q))) σ 0 [some (.inr 10), some (.inl a1)] [] σ := by
    unfold F_X5_lowOf at h
    refine go_ops ok_X5_lowOf_0_3 (L' := [some (.inr 10), some (.inl a1)]) (st' := [.inl a1, .inr 13]) (σ1 := σ) rfl ?_
    refine go_SN (M1 := m_X10_at) (as := [.inr 13, .inl a1]) (st := []) dc_X5_lowOf_5 ln_5_53 sm_X10_at mk_X10_at rfl (Nat.le_of_ble_eq_true rfl) (Nat.le_refl _) (v := some (.inl (rdD (-1) σ 13 60 a1))) (σ1 := σ) (lk_X10_at l d LAYC 13 60 rfl σ _) _ rfl ?_
    subst h
    exact go_iret dc_X5_lowOf_8 rfl
  have hf := go_ct (as := [.inr 10, .inl a1]) mk_X5_lowOf (by rfl) (Nat.le_of_ble_eq_true rfl) key
  exact hf
theorem dc_X5_sortOf_5 : decode m_X5_sortOf.2.2.1 5 = .ok (.invokestatic 53, 3) := by decide +kernel
theorem dc_X5_sortOf_8 : decode m_X5_sortOf.2.2.1 8 = .ok (.ireturn, 1) := by decide +kernel
theorem ok_X5_sortOf_0_3 : oks m_X5_sortOf.1 m_X5_sortOf.2.2.1 0 [(.aload_n 0, 1, (0, 0, 0)), (.getfield 15, 3, (5, 1, 0)), (.iload_n 1, 1, (0, 0, 0))] = true ∧ plen 0 [(.aload_n 0, 1, (0, 0, 0)), (.getfield 15, 3, (5, 1, 0)), (.iload_n 1, 1, (0, 0, 0))] = 5 := by decide +kernel
def F_X5_sortOf (a1 : Int) (σ : Sg) : Int :=
rdD (-1) σ 11 60 a1
theorem lk_X5_sortOf (l : Launch) (d : Nat) (hd : 1 ≤ d) (a1 : Int) (σ : Sg) (q : Int) (h : F_X5_sortOf a1 σ = q) : CT l d m_X5_sortOf.2.1 m_X5_sortOf.2.2.1 m_X5_sortOf.2.2.2.1 m_X5_sortOf.2.2.2.2 [.inr 10, .inl a1] (LAYC, σ) (some (.inl q)) (LAYC, σ) := by
  obtain ⟨d, rfl⟩ : ∃ e, d = e + 1 := ⟨d - 1, by omega⟩
  have key : Go l m_X5_sortOf (d + 1) LAYC (.inl (some (.inl q))) σ 0 [some (.inr 10), some (.inl a1)] [] σ := by
    unfold F_X5_sortOf at h
    refine go_ops ok_X5_sortOf_0_3 (L' := [some (.inr 10), some (.inl a1)]) (st' := [.inl a1, .inr 11]) (σ1 := σ) rfl ?_
    refine go_SN (M1 := m_X10_at) (as := [.inr 11, .inl a1]) (st := []) dc_X5_sortOf_5 ln_5_53 sm_X10_at mk_X10_at rfl (Nat.le_of_ble_eq_true rfl) (Nat.le_refl _) (v := some (.inl (rdD (-1) σ 11 60 a1))) (σ1 := σ) (lk_X10_at l d LAYC 11 60 rfl σ _) _ rfl ?_
    subst h
    exact go_iret dc_X5_sortOf_8 rfl
  have hf := go_ct (as := [.inr 10, .inl a1]) mk_X5_sortOf (by rfl) (Nat.le_of_ble_eq_true rfl) key
  exact hf
theorem dc_X5_partOf_1 : decode m_X5_partOf.2.2.1 1 = .ok (.ifCond .lt 27, 3) := by decide +kernel
theorem dc_X5_partOf_7 : decode m_X5_partOf.2.2.1 7 = .ok (.invokestatic 49, 3) := by decide +kernel
theorem dc_X5_partOf_10 : decode m_X5_partOf.2.2.1 10 = .ok (.ifCond .eq 18, 3) := by decide +kernel
theorem dc_X5_partOf_22 : decode m_X5_partOf.2.2.1 22 = .ok (.invokestatic 53, 3) := by decide +kernel
theorem dc_X5_partOf_25 : decode m_X5_partOf.2.2.1 25 = .ok (.goto 4, 3) := by decide +kernel
theorem dc_X5_partOf_29 : decode m_X5_partOf.2.2.1 29 = .ok (.ireturn, 1) := by decide +kernel
theorem ok_X5_partOf_0_1 : oks m_X5_partOf.1 m_X5_partOf.2.2.1 0 [(.iload_n 1, 1, (0, 0, 0))] = true ∧ plen 0 [(.iload_n 1, 1, (0, 0, 0))] = 1 := by decide +kernel
theorem ok_X5_partOf_4_3 : oks m_X5_partOf.1 m_X5_partOf.2.2.1 4 [(.iload_n 2, 1, (0, 0, 0)), (.iconst 0, 1, (0, 0, 0)), (.iconst 2, 1, (0, 0, 0))] = true ∧ plen 4 [(.iload_n 2, 1, (0, 0, 0)), (.iconst 0, 1, (0, 0, 0)), (.iconst 2, 1, (0, 0, 0))] = 7 := by decide +kernel
theorem ok_X5_partOf_13_7 : oks m_X5_partOf.1 m_X5_partOf.2.2.1 13 [(.aload_n 0, 1, (0, 0, 0)), (.getfield 28, 3, (5, 5, 0)), (.iload_n 1, 1, (0, 0, 0)), (.iconst 3, 1, (0, 0, 0)), (.imul, 1, (0, 0, 0)), (.iload_n 2, 1, (0, 0, 0)), (.iadd, 1, (0, 0, 0))] = true ∧ plen 13 [(.aload_n 0, 1, (0, 0, 0)), (.getfield 28, 3, (5, 5, 0)), (.iload_n 1, 1, (0, 0, 0)), (.iconst 3, 1, (0, 0, 0)), (.imul, 1, (0, 0, 0)), (.iload_n 2, 1, (0, 0, 0)), (.iadd, 1, (0, 0, 0))] = 22 := by decide +kernel
theorem ok_X5_partOf_28_1 : oks m_X5_partOf.1 m_X5_partOf.2.2.1 28 [(.iconst (-1), 1, (0, 0, 0))] = true ∧ plen 28 [(.iconst (-1), 1, (0, 0, 0))] = 29 := by decide +kernel
def F_X5_partOf (a1 : Int) (a2 : Int) (σ : Sg) : Int :=
if a1 < 0 then
(-1)
else
if (F_X10_isIn a2 0 2) = true then
rdD (-1) σ 15 180 (wrap ((wrap (a1 * 3)) + a2))
else
(-1)
theorem lk_X5_partOf (l : Launch) (d : Nat) (hd : 1 ≤ d) (a1 : Int) (a2 : Int) (σ : Sg) (q : Int) (h : F_X5_partOf a1 a2 σ = q) : CT l d m_X5_partOf.2.1 m_X5_partOf.2.2.1 m_X5_partOf.2.2.2.1 m_X5_partOf.2.2.2.2 [.inr 10, .inl a1, .inl a2] (LAYC, σ) (some (.inl q)) (LAYC, σ) := by
  obtain ⟨d, rfl⟩ : ∃ e, d = e + 1 := ⟨d - 1, by omega⟩
  have key : Go l m_X5_partOf (d + 1) LAYC (.inl (some (.inl q))) σ 0 [some (.inr 10), some (.inl a1), some (.inl a2)] [] σ := by
    unfold F_X5_partOf at h
    refine go_ops ok_X5_partOf_0_1 (L' := [some (.inr 10), some (.inl a1), some (.inl a2)]) (st' := [.inl a1]) (σ1 := σ) rfl ?_
    refine go_if_lt dc_X5_partOf_1 (by rfl) (fun hc => ?_) (fun hc => ?_)
    · replace h := (if_pos hc).symm.trans h
      refine go_ops ok_X5_partOf_28_1 (L' := [some (.inr 10), some (.inl a1), some (.inl a2)]) (st' := [.inl (-1)]) (σ1 := σ) rfl ?_
      subst h
      exact go_iret dc_X5_partOf_29 rfl
    · replace h := (if_neg hc).symm.trans h
      refine go_ops ok_X5_partOf_4_3 (L' := [some (.inr 10), some (.inl a1), some (.inl a2)]) (st' := [.inl 2, .inl 0, .inl a2]) (σ1 := σ) rfl ?_
      refine go_SN (M1 := m_X10_isIn) (as := [.inl a2, .inl 0, .inl 2]) (st := []) dc_X5_partOf_7 ln_5_49 sm_X10_isIn mk_X10_isIn rfl (Nat.le_of_ble_eq_true rfl) (Nat.le_refl _) (v := (some (.inl (b2i (F_X10_isIn a2 0 2))))) (σ1 := σ) (lk_X10_isIn l d (by omega) a2 0 2 σ _ rfl) _ rfl ?_
      refine go_ifb_eq dc_X5_partOf_10 (by rfl) (fun hc => ?_) (fun hc => ?_)
      · replace h := (if_neg hc).symm.trans h
        refine go_ops ok_X5_partOf_28_1 (L' := [some (.inr 10), some (.inl a1), some (.inl a2)]) (st' := [.inl (-1)]) (σ1 := σ) rfl ?_
        subst h
        exact go_iret dc_X5_partOf_29 rfl
      · replace h := (if_pos hc).symm.trans h
        refine go_ops ok_X5_partOf_13_7 (L' := [some (.inr 10), some (.inl a1), some (.inl a2)]) (st' := [.inl (wrap ((wrap (a1 * 3)) + a2)), .inr 15]) (σ1 := σ) rfl ?_
        refine go_SN (M1 := m_X10_at) (as := [.inr 15, .inl (wrap ((wrap (a1 * 3)) + a2))]) (st := []) dc_X5_partOf_22 ln_5_53 sm_X10_at mk_X10_at rfl (Nat.le_of_ble_eq_true rfl) (Nat.le_refl _) (v := some (.inl (rdD (-1) σ 15 180 (wrap ((wrap (a1 * 3)) + a2))))) (σ1 := σ) (lk_X10_at l d LAYC 15 180 rfl σ _) _ rfl ?_
        refine go_goto dc_X5_partOf_25 (by rfl) ?_
        subst h
        exact go_iret dc_X5_partOf_29 rfl
  have hf := go_ct (as := [.inr 10, .inl a1, .inl a2]) mk_X5_partOf (by rfl) (Nat.le_of_ble_eq_true rfl) key
  exact hf
theorem dc_X0_land_8 : decode m_X0_land.2.2.1 8 = .ok (.if_icmp .ge 39, 3) := by decide +kernel
theorem dc_X0_land_13 : decode m_X0_land.2.2.1 13 = .ok (.if_icmp .eq 34, 3) := by decide +kernel
theorem dc_X0_land_21 : decode m_X0_land.2.2.1 21 = .ok (.invokestatic 67, 3) := by decide +kernel
theorem dc_X0_land_35 : decode m_X0_land.2.2.1 35 = .ok (.invokestatic 78, 3) := by decide +kernel
theorem dc_X0_land_44 : decode m_X0_land.2.2.1 44 = .ok (.goto (-40), 3) := by decide +kernel
theorem dc_X0_land_47 : decode m_X0_land.2.2.1 47 = .ok (.return_, 1) := by decide +kernel
theorem ok_X0_land_0_4 : oks m_X0_land.1 m_X0_land.2.2.1 0 [(.iload_n 1, 1, (0, 0, 0)), (.istore_n 2, 1, (0, 0, 0)), (.iconst 0, 1, (0, 0, 0)), (.istore_n 3, 1, (0, 0, 0))] = true ∧ plen 0 [(.iload_n 1, 1, (0, 0, 0)), (.istore_n 2, 1, (0, 0, 0)), (.iconst 0, 1, (0, 0, 0)), (.istore_n 3, 1, (0, 0, 0))] = 4 := by decide +kernel
theorem ok_X0_land_4_2 : oks m_X0_land.1 m_X0_land.2.2.1 4 [(.iload_n 3, 1, (0, 0, 0)), (.sipush 1969, 3, (0, 0, 0))] = true ∧ plen 4 [(.iload_n 3, 1, (0, 0, 0)), (.sipush 1969, 3, (0, 0, 0))] = 8 := by decide +kernel
theorem ok_X0_land_11_2 : oks m_X0_land.1 m_X0_land.2.2.1 11 [(.iload_n 2, 1, (0, 0, 0)), (.iconst (-1), 1, (0, 0, 0))] = true ∧ plen 11 [(.iload_n 2, 1, (0, 0, 0)), (.iconst (-1), 1, (0, 0, 0))] = 13 := by decide +kernel
theorem ok_X0_land_16_3 : oks m_X0_land.1 m_X0_land.2.2.1 16 [(.aload_n 0, 1, (0, 0, 0)), (.getfield 26, 3, (0, 7, 0)), (.iload_n 2, 1, (0, 0, 0))] = true ∧ plen 16 [(.aload_n 0, 1, (0, 0, 0)), (.getfield 26, 3, (0, 7, 0)), (.iload_n 2, 1, (0, 0, 0))] = 21 := by decide +kernel
theorem ok_X0_land_24_6 : oks m_X0_land.1 m_X0_land.2.2.1 24 [(.istore 4, 2, (0, 0, 0)), (.aload_n 0, 1, (0, 0, 0)), (.getfield 26, 3, (0, 7, 0)), (.iload_n 2, 1, (0, 0, 0)), (.aload_n 0, 1, (0, 0, 0)), (.getfield 15, 3, (0, 4, 0))] = true ∧ plen 24 [(.istore 4, 2, (0, 0, 0)), (.aload_n 0, 1, (0, 0, 0)), (.getfield 26, 3, (0, 7, 0)), (.iload_n 2, 1, (0, 0, 0)), (.aload_n 0, 1, (0, 0, 0)), (.getfield 15, 3, (0, 4, 0))] = 35 := by decide +kernel
theorem ok_X0_land_38_3 : oks m_X0_land.1 m_X0_land.2.2.1 38 [(.iload 4, 2, (0, 0, 0)), (.istore_n 2, 1, (0, 0, 0)), (.iinc 3 1, 3, (0, 0, 0))] = true ∧ plen 38 [(.iload 4, 2, (0, 0, 0)), (.istore_n 2, 1, (0, 0, 0)), (.iinc 3 1, 3, (0, 0, 0))] = 44 := by decide +kernel
def L_X0_land_4 (x2 : Int) (x3 : Int) (σ : Sg) : Option ((Int × Int × Sg) ⊕ Sg) :=
if 1969 ≤ x3 then
some (.inr σ)
else
if x2 = (-1) then
some (.inr σ)
else
bnd (rdD (-1) σ 35 1969 x2) fun v1 =>
bnd (wrD σ 35 1969 x2 (σ 33 4)) fun s3 =>
some (.inl (v1, wrap (x3 + 1), s3))
def F_X0_land (a1 : Int) (σ : Sg) : Option Sg :=
(iter (fun a : (Int × Int × Sg) => L_X0_land_4 a.1 a.2.1 a.2.2) 1970 (a1, 0, σ)).bind fun y5 =>
some y5
theorem lk_X0_land (l : Launch) (d : Nat) (hd : 1 ≤ d) (a1 : Int) (σ : Sg) (q : Sg) (h : F_X0_land a1 σ = some q) : CT l d m_X0_land.2.1 m_X0_land.2.2.1 m_X0_land.2.2.2.1 m_X0_land.2.2.2.2 [.inr 33, .inl a1] (LAYC, σ) none (LAYC, q) := by
  obtain ⟨d, rfl⟩ : ∃ e, d = e + 1 := ⟨d - 1, by omega⟩
  have key : Go l m_X0_land (d + 1) LAYC (.inl none) q 0 [some (.inr 33), some (.inl a1), none, none, none] [] σ := by
    unfold F_X0_land at h
    have hL_X0_land_4 : ∀ (n : Nat) (a : (Int × Int × Sg)) (y : Sg), iter (fun a : (Int × Int × Sg) => L_X0_land_4 a.1 a.2.1 a.2.2) n a = some y → (fun y : Sg => Go l m_X0_land (d + 1) LAYC (.inl none) q 47 [none, none, none, none, none] [] y) y → (fun a : (Int × Int × Sg) => Go l m_X0_land (d + 1) LAYC (.inl none) q 4 [some (.inr 33), none, some (.inl a.1), some (.inl a.2.1), none] [] a.2.2) a := by
      skip
      refine go_iter (G := fun a : (Int × Int × Sg) => Go l m_X0_land (d + 1) LAYC (.inl none) q 4 [some (.inr 33), none, some (.inl a.1), some (.inl a.2.1), none] [] a.2.2) (K := fun y : Sg => Go l m_X0_land (d + 1) LAYC (.inl none) q 47 [none, none, none, none, none] [] y) ?_
      rintro ⟨x2, x3, σ⟩ w h hK
      replace h : L_X0_land_4 x2 x3 σ = some w := h
      show Go l m_X0_land (d + 1) LAYC (.inl none) q 4 [some (.inr 33), none, some (.inl x2), some (.inl x3), none] [] σ
      unfold L_X0_land_4 at h
      refine go_ops ok_X0_land_4_2 (L' := [some (.inr 33), none, some (.inl x2), some (.inl x3), none]) (st' := [.inl 1969, .inl x3]) (σ1 := σ) rfl ?_
      refine go_icmp_ge dc_X0_land_8 (by rfl) (fun hc => ?_) (fun hc => ?_)
      · replace h := (if_pos hc).symm.trans h
        cases h
        refine go_wk (L' := [none, none, none, none, none]) trivial ?_
        exact hK
      · replace h := (if_neg hc).symm.trans h
        refine go_ops ok_X0_land_11_2 (L' := [some (.inr 33), none, some (.inl x2), some (.inl x3), none]) (st' := [.inl (-1), .inl x2]) (σ1 := σ) rfl ?_
        refine go_icmp_eq dc_X0_land_13 (by rfl) (fun hc => ?_) (fun hc => ?_)
        · replace h := (if_pos hc).symm.trans h
          cases h
          refine go_wk (L' := [none, none, none, none, none]) trivial ?_
          exact hK
        · replace h := (if_neg hc).symm.trans h
          refine go_ops ok_X0_land_16_3 (L' := [some (.inr 33), none, some (.inl x2), some (.inl x3), none]) (st' := [.inl x2, .inr 35]) (σ1 := σ) rfl ?_
          refine go_SN (M1 := m_X10_at) (as := [.inr 35, .inl x2]) (st := []) dc_X0_land_21 ln_0_67 sm_X10_at mk_X10_at rfl (Nat.le_of_ble_eq_true rfl) (Nat.le_refl _) (v := some (.inl (rdD (-1) σ 35 1969 x2))) (σ1 := σ) (lk_X10_at l d LAYC 35 1969 rfl σ _) _ rfl ?_
          obtain ⟨v1, e2, h⟩ := bnd_inv h
          refine go_ops ok_X0_land_24_6 (L' := [some (.inr 33), none, some (.inl x2), some (.inl x3), some (.inl v1)]) (st' := [.inl (σ 33 4), .inl x2, .inr 35]) (σ1 := σ) (by subst e2; rfl) ?_
          obtain ⟨s3, e4, h⟩ := bnd_inv h
          refine go_SN (M1 := m_X10_put) (as := [.inr 35, .inl x2, .inl (σ 33 4)]) (st := []) dc_X0_land_35 ln_0_78 sm_X10_put mk_X10_put rfl (Nat.le_of_ble_eq_true rfl) (Nat.le_refl _) (v := none) (σ1 := s3) (lk_X10_put l d LAYC 35 1969 rfl _ _ s3 e4) _ rfl ?_
          refine go_ops ok_X0_land_38_3 (L' := [some (.inr 33), none, some (.inl v1), some (.inl (wrap (x3 + 1))), some (.inl v1)]) (st' := []) (σ1 := s3) rfl ?_
          refine go_goto dc_X0_land_44 (by rfl) ?_
          cases h
          refine go_wk (L' := [some (.inr 33), none, some (.inl v1), some (.inl (wrap (x3 + 1))), none]) ⟨rfl, rfl, rfl, trivial⟩ ?_
          exact hK
    refine go_ops ok_X0_land_0_4 (L' := [some (.inr 33), some (.inl a1), some (.inl a1), some (.inl 0), none]) (st' := []) (σ1 := σ) rfl ?_
    refine go_wk (L' := [some (.inr 33), none, some (.inl a1), some (.inl 0), none]) ⟨rfl, rfl, rfl, trivial⟩ ?_
    obtain ⟨y5, e6, h⟩ := bind_inv h
    refine hL_X0_land_4  1970 (a1, 0, σ) y5 e6 ?_
    show Go l m_X0_land (d + 1) LAYC (.inl none) q 47 [none, none, none, none, none] [] y5
    have h9 := Option.some.inj h
    subst h9
    exact go_vret dc_X0_land_47 rfl
  have hf := go_ct (as := [.inr 33, .inl a1]) mk_X0_land (by rfl) (Nat.le_of_ble_eq_true rfl) key
  exact hf
theorem dc_X5_highOf_5 : decode m_X5_highOf.2.2.1 5 = .ok (.invokestatic 53, 3) := by decide +kernel
theorem dc_X5_highOf_8 : decode m_X5_highOf.2.2.1 8 = .ok (.ireturn, 1) := by decide +kernel
theorem ok_X5_highOf_0_3 : oks m_X5_highOf.1 m_X5_highOf.2.2.1 0 [(.aload_n 0, 1, (0, 0, 0)), (.getfield 25, 3, (5, 4, 0)), (.iload_n 1, 1, (0, 0, 0))] = true ∧ plen 0 [(.aload_n 0, 1, (0, 0, 0)), (.getfield 25, 3, (5, 4, 0)), (.iload_n 1, 1, (0, 0, 0))] = 5 := by decide +kernel
def F_X5_highOf (a1 : Int) (σ : Sg) : Int :=
rdD (-1) σ 14 60 a1
theorem lk_X5_highOf (l : Launch) (d : Nat) (hd : 1 ≤ d) (a1 : Int) (σ : Sg) (q : Int) (h : F_X5_highOf a1 σ = q) : CT l d m_X5_highOf.2.1 m_X5_highOf.2.2.1 m_X5_highOf.2.2.2.1 m_X5_highOf.2.2.2.2 [.inr 10, .inl a1] (LAYC, σ) (some (.inl q)) (LAYC, σ) := by
  obtain ⟨d, rfl⟩ : ∃ e, d = e + 1 := ⟨d - 1, by omega⟩
  have key : Go l m_X5_highOf (d + 1) LAYC (.inl (some (.inl q))) σ 0 [some (.inr 10), some (.inl a1)] [] σ := by
    unfold F_X5_highOf at h
    refine go_ops ok_X5_highOf_0_3 (L' := [some (.inr 10), some (.inl a1)]) (st' := [.inl a1, .inr 14]) (σ1 := σ) rfl ?_
    refine go_SN (M1 := m_X10_at) (as := [.inr 14, .inl a1]) (st := []) dc_X5_highOf_5 ln_5_53 sm_X10_at mk_X10_at rfl (Nat.le_of_ble_eq_true rfl) (Nat.le_refl _) (v := some (.inl (rdD (-1) σ 14 60 a1))) (σ1 := σ) (lk_X10_at l d LAYC 14 60 rfl σ _) _ rfl ?_
    subst h
    exact go_iret dc_X5_highOf_8 rfl
  have hf := go_ct (as := [.inr 10, .inl a1]) mk_X5_highOf (by rfl) (Nat.le_of_ble_eq_true rfl) key
  exact hf
theorem dc_X0_writeNumbers_9 : decode m_X0_writeNumbers.2.2.1 9 = .ok (.if_icmp .gt 12, 3) := by decide +kernel
theorem dc_X0_writeNumbers_15 : decode m_X0_writeNumbers.2.2.1 15 = .ok (.invokevirtual 132, 3) := by decide +kernel
theorem dc_X0_writeNumbers_18 : decode m_X0_writeNumbers.2.2.1 18 = .ok (.ifCond .ne 5, 3) := by decide +kernel
theorem dc_X0_writeNumbers_22 : decode m_X0_writeNumbers.2.2.1 22 = .ok (.ireturn, 1) := by decide +kernel
theorem dc_X0_writeNumbers_26 : decode m_X0_writeNumbers.2.2.1 26 = .ok (.invokevirtual 132, 3) := by decide +kernel
theorem dc_X0_writeNumbers_30 : decode m_X0_writeNumbers.2.2.1 30 = .ok (.if_icmp .eq 24, 3) := by decide +kernel
theorem dc_X0_writeNumbers_40 : decode m_X0_writeNumbers.2.2.1 40 = .ok (.invokevirtual 127, 3) := by decide +kernel
theorem dc_X0_writeNumbers_46 : decode m_X0_writeNumbers.2.2.1 46 = .ok (.invokevirtual 146, 3) := by decide +kernel
theorem dc_X0_writeNumbers_50 : decode m_X0_writeNumbers.2.2.1 50 = .ok (.invokevirtual 110, 3) := by decide +kernel
theorem dc_X0_writeNumbers_53 : decode m_X0_writeNumbers.2.2.1 53 = .ok (.ireturn, 1) := by decide +kernel
theorem dc_X0_writeNumbers_59 : decode m_X0_writeNumbers.2.2.1 59 = .ok (.invokevirtual 135, 3) := by decide +kernel
theorem dc_X0_writeNumbers_66 : decode m_X0_writeNumbers.2.2.1 66 = .ok (.invokestatic 142, 3) := by decide +kernel
theorem dc_X0_writeNumbers_78 : decode m_X0_writeNumbers.2.2.1 78 = .ok (.invokevirtual 110, 3) := by decide +kernel
theorem dc_X0_writeNumbers_86 : decode m_X0_writeNumbers.2.2.1 86 = .ok (.invokevirtual 124, 3) := by decide +kernel
theorem dc_X0_writeNumbers_94 : decode m_X0_writeNumbers.2.2.1 94 = .ok (.invokevirtual 135, 3) := by decide +kernel
theorem dc_X0_writeNumbers_101 : decode m_X0_writeNumbers.2.2.1 101 = .ok (.invokestatic 142, 3) := by decide +kernel
theorem dc_X0_writeNumbers_109 : decode m_X0_writeNumbers.2.2.1 109 = .ok (.invokevirtual 124, 3) := by decide +kernel
theorem dc_X0_writeNumbers_114 : decode m_X0_writeNumbers.2.2.1 114 = .ok (.ireturn, 1) := by decide +kernel
theorem ok_X0_writeNumbers_0_5 : oks m_X0_writeNumbers.1 m_X0_writeNumbers.2.2.1 0 [(.aload_n 0, 1, (0, 0, 0)), (.getfield 32, 3, (0, 0, 0)), (.astore 4, 2, (0, 0, 0)), (.iload_n 3, 1, (0, 0, 0)), (.bipush 40, 2, (0, 0, 0))] = true ∧ plen 0 [(.aload_n 0, 1, (0, 0, 0)), (.getfield 32, 3, (0, 0, 0)), (.astore 4, 2, (0, 0, 0)), (.iload_n 3, 1, (0, 0, 0)), (.bipush 40, 2, (0, 0, 0))] = 9 := by decide +kernel
theorem ok_X0_writeNumbers_12_2 : oks m_X0_writeNumbers.1 m_X0_writeNumbers.2.2.1 12 [(.aload 4, 2, (0, 0, 0)), (.iload_n 1, 1, (0, 0, 0))] = true ∧ plen 12 [(.aload 4, 2, (0, 0, 0)), (.iload_n 1, 1, (0, 0, 0))] = 15 := by decide +kernel
theorem ok_X0_writeNumbers_21_1 : oks m_X0_writeNumbers.1 m_X0_writeNumbers.2.2.1 21 [(.iload_n 2, 1, (0, 0, 0))] = true ∧ plen 21 [(.iload_n 2, 1, (0, 0, 0))] = 22 := by decide +kernel
theorem ok_X0_writeNumbers_23_2 : oks m_X0_writeNumbers.1 m_X0_writeNumbers.2.2.1 23 [(.aload 4, 2, (0, 0, 0)), (.iload_n 1, 1, (0, 0, 0))] = true ∧ plen 23 [(.aload 4, 2, (0, 0, 0)), (.iload_n 1, 1, (0, 0, 0))] = 26 := by decide +kernel
theorem ok_X0_writeNumbers_29_1 : oks m_X0_writeNumbers.1 m_X0_writeNumbers.2.2.1 29 [(.iconst 4, 1, (0, 0, 0))] = true ∧ plen 29 [(.iconst 4, 1, (0, 0, 0))] = 30 := by decide +kernel
theorem ok_X0_writeNumbers_33_5 : oks m_X0_writeNumbers.1 m_X0_writeNumbers.2.2.1 33 [(.aload_n 0, 1, (0, 0, 0)), (.bipush 7, 2, (0, 0, 0)), (.iconst 0, 1, (0, 0, 0)), (.aload 4, 2, (0, 0, 0)), (.iload_n 1, 1, (0, 0, 0))] = true ∧ plen 33 [(.aload_n 0, 1, (0, 0, 0)), (.bipush 7, 2, (0, 0, 0)), (.iconst 0, 1, (0, 0, 0)), (.aload 4, 2, (0, 0, 0)), (.iload_n 1, 1, (0, 0, 0))] = 40 := by decide +kernel
theorem ok_X0_writeNumbers_43_2 : oks m_X0_writeNumbers.1 m_X0_writeNumbers.2.2.1 43 [(.aload 4, 2, (0, 0, 0)), (.iload_n 1, 1, (0, 0, 0))] = true ∧ plen 43 [(.aload 4, 2, (0, 0, 0)), (.iload_n 1, 1, (0, 0, 0))] = 46 := by decide +kernel
theorem ok_X0_writeNumbers_49_1 : oks m_X0_writeNumbers.1 m_X0_writeNumbers.2.2.1 49 [(.iload_n 2, 1, (0, 0, 0))] = true ∧ plen 49 [(.iload_n 2, 1, (0, 0, 0))] = 50 := by decide +kernel
theorem ok_X0_writeNumbers_54_4 : oks m_X0_writeNumbers.1 m_X0_writeNumbers.2.2.1 54 [(.aload_n 0, 1, (0, 0, 0)), (.aload 4, 2, (0, 0, 0)), (.iload_n 1, 1, (0, 0, 0)), (.iconst 0, 1, (0, 0, 0))] = true ∧ plen 54 [(.aload_n 0, 1, (0, 0, 0)), (.aload 4, 2, (0, 0, 0)), (.iload_n 1, 1, (0, 0, 0)), (.iconst 0, 1, (0, 0, 0))] = 59 := by decide +kernel
theorem ok_X0_writeNumbers_62_4 : oks m_X0_writeNumbers.1 m_X0_writeNumbers.2.2.1 62 [(.iconst (-1), 1, (0, 0, 0)), (.iload_n 3, 1, (0, 0, 0)), (.iconst 1, 1, (0, 0, 0)), (.iadd, 1, (0, 0, 0))] = true ∧ plen 62 [(.iconst (-1), 1, (0, 0, 0)), (.iload_n 3, 1, (0, 0, 0)), (.iconst 1, 1, (0, 0, 0)), (.iadd, 1, (0, 0, 0))] = 66 := by decide +kernel
theorem ok_X0_writeNumbers_69_7 : oks m_X0_writeNumbers.1 m_X0_writeNumbers.2.2.1 69 [(.istore 5, 2, (0, 0, 0)), (.aload_n 0, 1, (0, 0, 0)), (.bipush 8, 2, (0, 0, 0)), (.iconst 0, 1, (0, 0, 0)), (.iconst 0, 1, (0, 0, 0)), (.iconst 0, 1, (0, 0, 0)), (.iconst (-1), 1, (0, 0, 0))] = true ∧ plen 69 [(.istore 5, 2, (0, 0, 0)), (.aload_n 0, 1, (0, 0, 0)), (.bipush 8, 2, (0, 0, 0)), (.iconst 0, 1, (0, 0, 0)), (.iconst 0, 1, (0, 0, 0)), (.iconst 0, 1, (0, 0, 0)), (.iconst (-1), 1, (0, 0, 0))] = 78 := by decide +kernel
theorem ok_X0_writeNumbers_81_3 : oks m_X0_writeNumbers.1 m_X0_writeNumbers.2.2.1 81 [(.istore 6, 2, (0, 0, 0)), (.aload_n 0, 1, (0, 0, 0)), (.iload 5, 2, (0, 0, 0))] = true ∧ plen 81 [(.istore 6, 2, (0, 0, 0)), (.aload_n 0, 1, (0, 0, 0)), (.iload 5, 2, (0, 0, 0))] = 86 := by decide +kernel
theorem ok_X0_writeNumbers_89_4 : oks m_X0_writeNumbers.1 m_X0_writeNumbers.2.2.1 89 [(.aload_n 0, 1, (0, 0, 0)), (.aload 4, 2, (0, 0, 0)), (.iload_n 1, 1, (0, 0, 0)), (.iconst 1, 1, (0, 0, 0))] = true ∧ plen 89 [(.aload_n 0, 1, (0, 0, 0)), (.aload 4, 2, (0, 0, 0)), (.iload_n 1, 1, (0, 0, 0)), (.iconst 1, 1, (0, 0, 0))] = 94 := by decide +kernel
theorem ok_X0_writeNumbers_97_4 : oks m_X0_writeNumbers.1 m_X0_writeNumbers.2.2.1 97 [(.iload_n 2, 1, (0, 0, 0)), (.iload_n 3, 1, (0, 0, 0)), (.iconst 1, 1, (0, 0, 0)), (.iadd, 1, (0, 0, 0))] = true ∧ plen 97 [(.iload_n 2, 1, (0, 0, 0)), (.iload_n 3, 1, (0, 0, 0)), (.iconst 1, 1, (0, 0, 0)), (.iadd, 1, (0, 0, 0))] = 101 := by decide +kernel
theorem ok_X0_writeNumbers_104_3 : oks m_X0_writeNumbers.1 m_X0_writeNumbers.2.2.1 104 [(.istore 7, 2, (0, 0, 0)), (.aload_n 0, 1, (0, 0, 0)), (.iload 6, 2, (0, 0, 0))] = true ∧ plen 104 [(.istore 7, 2, (0, 0, 0)), (.aload_n 0, 1, (0, 0, 0)), (.iload 6, 2, (0, 0, 0))] = 109 := by decide +kernel
theorem ok_X0_writeNumbers_112_1 : oks m_X0_writeNumbers.1 m_X0_writeNumbers.2.2.1 112 [(.iload 7, 2, (0, 0, 0))] = true ∧ plen 112 [(.iload 7, 2, (0, 0, 0))] = 114 := by decide +kernel
def G_X0_writeNumbers (rec : Int → Int → Int → Sg → Option (Int × Sg)) (a1 : Int) (a2 : Int) (a3 : Int) (σ : Sg) : Option (Int × Sg) :=
if 40 < a3 then
some (a2, σ)
else
if (F_X5_sortOf a1 σ) = 0 then
some (a2, σ)
else
if (F_X5_sortOf a1 σ) = 4 then
(rec (F_X5_partOf a1 0 σ) (-1) (wrap (a3 + 1)) σ).bind fun q1 =>
bnd (F_X0_write 8 0 0 0 (-1) q1.2) fun q3 =>
(F_X0_land q1.1 q3.2).bind fun q5 =>
(rec (F_X5_partOf a1 1 q5) a2 (wrap (a3 + 1)) q5).bind fun q7 =>
(F_X0_land q3.1 q7.2).bind fun q9 =>
some (q7.1, q9)
else
bnd (F_X0_write 7 0 (F_X5_lowOf a1 σ) (F_X5_highOf a1 σ) a2 σ) fun q11 =>
some (q11.1, q11.2)
theorem lk_X0_writeNumbers (l : Launch) (Dr : Nat) (rec : Int → Int → Int → Sg → Option (Int × Sg)) (hrec : ∀ d, Dr ≤ d → ∀ (a1 : Int) (a2 : Int) (a3 : Int) (σ : Sg) (q : (Int × Sg)), rec a1 a2 a3 σ = some q → CT l d m_X0_writeNumbers.2.1 m_X0_writeNumbers.2.2.1 m_X0_writeNumbers.2.2.2.1 m_X0_writeNumbers.2.2.2.2 [.inr 33, .inl a1, .inl a2, .inl a3] (LAYC, σ) (some (.inl q.1)) (LAYC, q.2)) (d : Nat) (hd : Dr + 1 ≤ d) (hdB : 3 ≤ d) (a1 : Int) (a2 : Int) (a3 : Int) (σ : Sg) (q : (Int × Sg)) (h : G_X0_writeNumbers rec a1 a2 a3 σ = some q) : CT l d m_X0_writeNumbers.2.1 m_X0_writeNumbers.2.2.1 m_X0_writeNumbers.2.2.2.1 m_X0_writeNumbers.2.2.2.2 [.inr 33, .inl a1, .inl a2, .inl a3] (LAYC, σ) (some (.inl q.1)) (LAYC, q.2) := by
  obtain ⟨d, rfl⟩ : ∃ e, d = e + 1 := ⟨d - 1, by omega⟩
  have key : Go l m_X0_writeNumbers (d + 1) LAYC (.inl (some (.inl q.1))) q.2 0 [some (.inr 33), some (.inl a1), some (.inl a2), some (.inl a3), none, none, none, none] [] σ := by
    unfold G_X0_writeNumbers at h
    refine go_ops ok_X0_writeNumbers_0_5 (L' := [some (.inr 33), some (.inl a1), some (.inl a2), some (.inl a3), some (.inr 10), none, none, none]) (st' := [.inl 40, .inl a3]) (σ1 := σ) rfl ?_
    refine go_icmp_gt dc_X0_writeNumbers_9 (by rfl) (fun hc => ?_) (fun hc => ?_)
    · replace h := (if_pos hc).symm.trans h
      refine go_ops ok_X0_writeNumbers_21_1 (L' := [some (.inr 33), some (.inl a1), some (.inl a2), some (.inl a3), some (.inr 10), none, none, none]) (st' := [.inl a2]) (σ1 := σ) rfl ?_
      have h9 := Option.some.inj h
      subst h9
      exact go_iret dc_X0_writeNumbers_22 rfl
    · replace h := (if_neg hc).symm.trans h
      refine go_ops ok_X0_writeNumbers_12_2 (L' := [some (.inr 33), some (.inl a1), some (.inl a2), some (.inl a3), some (.inr 10), none, none, none]) (st' := [.inl a1, .inr 10]) (σ1 := σ) rfl ?_
      refine go_V (M1 := m_X5_sortOf) (as := [.inl a1]) (st := []) (k := 10) (ci := 5) dc_X0_writeNumbers_15 ln_0_132 im_X5_sortOf (by decide) rfl rfl mk_X5_sortOf rfl (Nat.le_of_ble_eq_true rfl) (Nat.le_refl _) (v := (some (.inl (F_X5_sortOf a1 σ)))) (σ1 := σ) (lk_X5_sortOf l d (by omega) a1 σ _ rfl) _ rfl ?_
      refine go_if_ne dc_X0_writeNumbers_18 (by rfl) (fun hc => ?_) (fun hc => ?_)
      · replace h := (if_neg hc).symm.trans h
        refine go_ops ok_X0_writeNumbers_23_2 (L' := [some (.inr 33), some (.inl a1), some (.inl a2), some (.inl a3), some (.inr 10), none, none, none]) (st' := [.inl a1, .inr 10]) (σ1 := σ) rfl ?_
        refine go_V (M1 := m_X5_sortOf) (as := [.inl a1]) (st := []) (k := 10) (ci := 5) dc_X0_writeNumbers_26 ln_0_132 im_X5_sortOf (by decide) rfl rfl mk_X5_sortOf rfl (Nat.le_of_ble_eq_true rfl) (Nat.le_refl _) (v := (some (.inl (F_X5_sortOf a1 σ)))) (σ1 := σ) (lk_X5_sortOf l d (by omega) a1 σ _ rfl) _ rfl ?_
        refine go_ops ok_X0_writeNumbers_29_1 (L' := [some (.inr 33), some (.inl a1), some (.inl a2), some (.inl a3), some (.inr 10), none, none, none]) (st' := [.inl 4, .inl (F_X5_sortOf a1 σ)]) (σ1 := σ) rfl ?_
        refine go_icmp_eq dc_X0_writeNumbers_30 (by rfl) (fun hc => ?_) (fun hc => ?_)
        · replace h := (if_pos hc).symm.trans h
          refine go_ops ok_X0_writeNumbers_54_4 (L' := [some (.inr 33), some (.inl a1), some (.inl a2), some (.inl a3), some (.inr 10), none, none, none]) (st' := [.inl 0, .inl a1, .inr 10, .inr 33]) (σ1 := σ) rfl ?_
          refine go_V (M1 := m_X5_partOf) (as := [.inl a1, .inl 0]) (st := [.inr 33]) (k := 10) (ci := 5) dc_X0_writeNumbers_59 ln_0_135 im_X5_partOf (by decide) rfl rfl mk_X5_partOf rfl (Nat.le_of_ble_eq_true rfl) (Nat.le_refl _) (v := (some (.inl (F_X5_partOf a1 0 σ)))) (σ1 := σ) (lk_X5_partOf l d (by omega) a1 0 σ _ rfl) _ rfl ?_
          refine go_ops ok_X0_writeNumbers_62_4 (L' := [some (.inr 33), some (.inl a1), some (.inl a2), some (.inl a3), some (.inr 10), none, none, none]) (st' := [.inl (wrap (a3 + 1)), .inl (-1), .inl (F_X5_partOf a1 0 σ), .inr 33]) (σ1 := σ) rfl ?_
          obtain ⟨q1, e2, h⟩ := bind_inv h
          refine go_S (M1 := m_X0_writeNumbers) (as := [.inr 33, .inl (F_X5_partOf a1 0 σ), .inl (-1), .inl (wrap (a3 + 1))]) (st := []) dc_X0_writeNumbers_66 ln_0_142 sm_X0_writeNumbers mk_X0_writeNumbers rfl (Nat.le_of_ble_eq_true rfl) (Nat.le_refl _) (v := (some (.inl q1.1))) (σ1 := q1.2) (hrec d (by omega) (F_X5_partOf a1 0 σ) (-1) (wrap (a3 + 1)) σ q1 e2) _ rfl ?_
          refine go_ops ok_X0_writeNumbers_69_7 (L' := [some (.inr 33), some (.inl a1), some (.inl a2), some (.inl a3), some (.inr 10), some (.inl q1.1), none, none]) (st' := [.inl (-1), .inl 0, .inl 0, .inl 0, .inl 8, .inr 33]) (σ1 := q1.2) rfl ?_
          obtain ⟨q3, e4, h⟩ := bnd_inv h
          refine go_V (M1 := m_X0_write) (as := [.inl 8, .inl 0, .inl 0, .inl 0, .inl (-1)]) (st := []) (k := 33) (ci := 0) dc_X0_writeNumbers_78 ln_0_110 im_X0_write (by decide) rfl rfl mk_X0_write rfl (Nat.le_of_ble_eq_true rfl) (Nat.le_refl _) (v := (some (.inl q3.1))) (σ1 := q3.2) (lk_X0_write l d (by omega) 8 0 0 0 (-1) q1.2 q3 e4.symm) _ rfl ?_
          refine go_ops ok_X0_writeNumbers_81_3 (L' := [some (.inr 33), some (.inl a1), some (.inl a2), some (.inl a3), some (.inr 10), some (.inl q1.1), some (.inl q3.1), none]) (st' := [.inl q1.1, .inr 33]) (σ1 := q3.2) rfl ?_
          obtain ⟨q5, e6, h⟩ := bind_inv h
          refine go_V (M1 := m_X0_land) (as := [.inl q1.1]) (st := []) (k := 33) (ci := 0) dc_X0_writeNumbers_86 ln_0_124 im_X0_land (by decide) rfl rfl mk_X0_land rfl (Nat.le_of_ble_eq_true rfl) (Nat.le_refl _) (v := none) (σ1 := q5) (lk_X0_land l d (by omega) q1.1 q3.2 q5 e6) _ rfl ?_
          refine go_ops ok_X0_writeNumbers_89_4 (L' := [some (.inr 33), some (.inl a1), some (.inl a2), some (.inl a3), some (.inr 10), some (.inl q1.1), some (.inl q3.1), none]) (st' := [.inl 1, .inl a1, .inr 10, .inr 33]) (σ1 := q5) rfl ?_
          refine go_V (M1 := m_X5_partOf) (as := [.inl a1, .inl 1]) (st := [.inr 33]) (k := 10) (ci := 5) dc_X0_writeNumbers_94 ln_0_135 im_X5_partOf (by decide) rfl rfl mk_X5_partOf rfl (Nat.le_of_ble_eq_true rfl) (Nat.le_refl _) (v := (some (.inl (F_X5_partOf a1 1 q5)))) (σ1 := q5) (lk_X5_partOf l d (by omega) a1 1 q5 _ rfl) _ rfl ?_
          refine go_ops ok_X0_writeNumbers_97_4 (L' := [some (.inr 33), some (.inl a1), some (.inl a2), some (.inl a3), some (.inr 10), some (.inl q1.1), some (.inl q3.1), none]) (st' := [.inl (wrap (a3 + 1)), .inl a2, .inl (F_X5_partOf a1 1 q5), .inr 33]) (σ1 := q5) rfl ?_
          obtain ⟨q7, e8, h⟩ := bind_inv h
          refine go_S (M1 := m_X0_writeNumbers) (as := [.inr 33, .inl (F_X5_partOf a1 1 q5), .inl a2, .inl (wrap (a3 + 1))]) (st := []) dc_X0_writeNumbers_101 ln_0_142 sm_X0_writeNumbers mk_X0_writeNumbers rfl (Nat.le_of_ble_eq_true rfl) (Nat.le_refl _) (v := (some (.inl q7.1))) (σ1 := q7.2) (hrec d (by omega) (F_X5_partOf a1 1 q5) a2 (wrap (a3 + 1)) q5 q7 e8) _ rfl ?_
          refine go_ops ok_X0_writeNumbers_104_3 (L' := [some (.inr 33), some (.inl a1), some (.inl a2), some (.inl a3), some (.inr 10), some (.inl q1.1), some (.inl q3.1), some (.inl q7.1)]) (st' := [.inl q3.1, .inr 33]) (σ1 := q7.2) rfl ?_
          obtain ⟨q9, e10, h⟩ := bind_inv h
          refine go_V (M1 := m_X0_land) (as := [.inl q3.1]) (st := []) (k := 33) (ci := 0) dc_X0_writeNumbers_109 ln_0_124 im_X0_land (by decide) rfl rfl mk_X0_land rfl (Nat.le_of_ble_eq_true rfl) (Nat.le_refl _) (v := none) (σ1 := q9) (lk_X0_land l d (by omega) q3.1 q7.2 q9 e10) _ rfl ?_
          refine go_ops ok_X0_writeNumbers_112_1 (L' := [some (.inr 33), some (.inl a1), some (.inl a2), some (.inl a3), some (.inr 10), some (.inl q1.1), some (.inl q3.1), some (.inl q7.1)]) (st' := [.inl q7.1]) (σ1 := q9) rfl ?_
          have h9 := Option.some.inj h
          subst h9
          exact go_iret dc_X0_writeNumbers_114 rfl
        · replace h := (if_neg hc).symm.trans h
          refine go_ops ok_X0_writeNumbers_33_5 (L' := [some (.inr 33), some (.inl a1), some (.inl a2), some (.inl a3), some (.inr 10), none, none, none]) (st' := [.inl a1, .inr 10, .inl 0, .inl 7, .inr 33]) (σ1 := σ) rfl ?_
          refine go_V (M1 := m_X5_lowOf) (as := [.inl a1]) (st := [.inl 0, .inl 7, .inr 33]) (k := 10) (ci := 5) dc_X0_writeNumbers_40 ln_0_127 im_X5_lowOf (by decide) rfl rfl mk_X5_lowOf rfl (Nat.le_of_ble_eq_true rfl) (Nat.le_refl _) (v := (some (.inl (F_X5_lowOf a1 σ)))) (σ1 := σ) (lk_X5_lowOf l d (by omega) a1 σ _ rfl) _ rfl ?_
          refine go_ops ok_X0_writeNumbers_43_2 (L' := [some (.inr 33), some (.inl a1), some (.inl a2), some (.inl a3), some (.inr 10), none, none, none]) (st' := [.inl a1, .inr 10, .inl (F_X5_lowOf a1 σ), .inl 0, .inl 7, .inr 33]) (σ1 := σ) rfl ?_
          refine go_V (M1 := m_X5_highOf) (as := [.inl a1]) (st := [.inl (F_X5_lowOf a1 σ), .inl 0, .inl 7, .inr 33]) (k := 10) (ci := 5) dc_X0_writeNumbers_46 ln_0_146 im_X5_highOf (by decide) rfl rfl mk_X5_highOf rfl (Nat.le_of_ble_eq_true rfl) (Nat.le_refl _) (v := (some (.inl (F_X5_highOf a1 σ)))) (σ1 := σ) (lk_X5_highOf l d (by omega) a1 σ _ rfl) _ rfl ?_
          refine go_ops ok_X0_writeNumbers_49_1 (L' := [some (.inr 33), some (.inl a1), some (.inl a2), some (.inl a3), some (.inr 10), none, none, none]) (st' := [.inl a2, .inl (F_X5_highOf a1 σ), .inl (F_X5_lowOf a1 σ), .inl 0, .inl 7, .inr 33]) (σ1 := σ) rfl ?_
          obtain ⟨q11, e12, h⟩ := bnd_inv h
          refine go_V (M1 := m_X0_write) (as := [.inl 7, .inl 0, .inl (F_X5_lowOf a1 σ), .inl (F_X5_highOf a1 σ), .inl a2]) (st := []) (k := 33) (ci := 0) dc_X0_writeNumbers_50 ln_0_110 im_X0_write (by decide) rfl rfl mk_X0_write rfl (Nat.le_of_ble_eq_true rfl) (Nat.le_refl _) (v := (some (.inl q11.1))) (σ1 := q11.2) (lk_X0_write l d (by omega) 7 0 (F_X5_lowOf a1 σ) (F_X5_highOf a1 σ) a2 σ q11 e12.symm) _ rfl ?_
          have h9 := Option.some.inj h
          subst h9
          exact go_iret dc_X0_writeNumbers_53 rfl
      · replace h := (if_pos hc).symm.trans h
        refine go_ops ok_X0_writeNumbers_21_1 (L' := [some (.inr 33), some (.inl a1), some (.inl a2), some (.inl a3), some (.inr 10), none, none, none]) (st' := [.inl a2]) (σ1 := σ) rfl ?_
        have h9 := Option.some.inj h
        subst h9
        exact go_iret dc_X0_writeNumbers_22 rfl
  have hf := go_ct (as := [.inr 33, .inl a1, .inl a2, .inl a3]) mk_X0_writeNumbers (by rfl) (Nat.le_of_ble_eq_true rfl) key
  exact hf
def F_X0_writeNumbers : Nat → Int → Int → Int → Sg → Option (Int × Sg)
  | 0 => fun _ _ _ _ => none
  | n + 1 => G_X0_writeNumbers (F_X0_writeNumbers n)
theorem lkr_X0_writeNumbers (l : Launch) : ∀ (n d : Nat), 1 * n + 3 ≤ d → ∀ (a1 : Int) (a2 : Int) (a3 : Int) (σ : Sg) (q : (Int × Sg)), F_X0_writeNumbers n a1 a2 a3 σ = some q → CT l d m_X0_writeNumbers.2.1 m_X0_writeNumbers.2.2.1 m_X0_writeNumbers.2.2.2.1 m_X0_writeNumbers.2.2.2.2 [.inr 33, .inl a1, .inl a2, .inl a3] (LAYC, σ) (some (.inl q.1)) (LAYC, q.2)
  | 0, d, hd, a1, a2, a3, σ, q, h => by cases h
  | n + 1, d, hd, a1, a2, a3, σ, q, h => lk_X0_writeNumbers l (1 * n + 3) (F_X0_writeNumbers n) (fun d hd => lkr_X0_writeNumbers l n d hd) d (by omega) (by omega) a1 a2 a3 σ q h
theorem dc_X5_partCount_5 : decode m_X5_partCount.2.2.1 5 = .ok (.invokestatic 57, 3) := by decide +kernel
theorem dc_X5_partCount_8 : decode m_X5_partCount.2.2.1 8 = .ok (.ireturn, 1) := by decide +kernel
theorem ok_X5_partCount_0_3 : oks m_X5_partCount.1 m_X5_partCount.2.2.1 0 [(.aload_n 0, 1, (0, 0, 0)), (.getfield 31, 3, (5, 6, 0)), (.iload_n 1, 1, (0, 0, 0))] = true ∧ plen 0 [(.aload_n 0, 1, (0, 0, 0)), (.getfield 31, 3, (5, 6, 0)), (.iload_n 1, 1, (0, 0, 0))] = 5 := by decide +kernel
def F_X5_partCount (a1 : Int) (σ : Sg) : Int :=
rdD 0 σ 16 60 a1
theorem lk_X5_partCount (l : Launch) (d : Nat) (hd : 1 ≤ d) (a1 : Int) (σ : Sg) (q : Int) (h : F_X5_partCount a1 σ = q) : CT l d m_X5_partCount.2.1 m_X5_partCount.2.2.1 m_X5_partCount.2.2.2.1 m_X5_partCount.2.2.2.2 [.inr 10, .inl a1] (LAYC, σ) (some (.inl q)) (LAYC, σ) := by
  obtain ⟨d, rfl⟩ : ∃ e, d = e + 1 := ⟨d - 1, by omega⟩
  have key : Go l m_X5_partCount (d + 1) LAYC (.inl (some (.inl q))) σ 0 [some (.inr 10), some (.inl a1)] [] σ := by
    unfold F_X5_partCount at h
    refine go_ops ok_X5_partCount_0_3 (L' := [some (.inr 10), some (.inl a1)]) (st' := [.inl a1, .inr 16]) (σ1 := σ) rfl ?_
    refine go_SN (M1 := m_X10_atOrZero) (as := [.inr 16, .inl a1]) (st := []) dc_X5_partCount_5 ln_5_57 sm_X10_atOrZero mk_X10_atOrZero rfl (Nat.le_of_ble_eq_true rfl) (Nat.le_refl _) (v := some (.inl (rdD 0 σ 16 60 a1))) (σ1 := σ) (lk_X10_atOrZero l d LAYC 16 60 rfl σ _) _ rfl ?_
    subst h
    exact go_iret dc_X5_partCount_8 rfl
  have hf := go_ct (as := [.inr 10, .inl a1]) mk_X5_partCount (by rfl) (Nat.le_of_ble_eq_true rfl) key
  exact hf
theorem dc_X0_writePatternAndGo_7 : decode m_X0_writePatternAndGo.2.2.1 7 = .ok (.invokevirtual 135, 3) := by decide +kernel
theorem dc_X0_writePatternAndGo_15 : decode m_X0_writePatternAndGo.2.2.1 15 = .ok (.invokevirtual 120, 3) := by decide +kernel
theorem dc_X0_writePatternAndGo_27 : decode m_X0_writePatternAndGo.2.2.1 27 = .ok (.invokevirtual 110, 3) := by decide +kernel
theorem dc_X0_writePatternAndGo_33 : decode m_X0_writePatternAndGo.2.2.1 33 = .ok (.ireturn, 1) := by decide +kernel
theorem ok_X0_writePatternAndGo_0_5 : oks m_X0_writePatternAndGo.1 m_X0_writePatternAndGo.2.2.1 0 [(.aload_n 0, 1, (0, 0, 0)), (.aload_n 0, 1, (0, 0, 0)), (.getfield 32, 3, (0, 0, 0)), (.iload_n 1, 1, (0, 0, 0)), (.iconst 0, 1, (0, 0, 0))] = true ∧ plen 0 [(.aload_n 0, 1, (0, 0, 0)), (.aload_n 0, 1, (0, 0, 0)), (.getfield 32, 3, (0, 0, 0)), (.iload_n 1, 1, (0, 0, 0)), (.iconst 0, 1, (0, 0, 0))] = 7 := by decide +kernel
theorem ok_X0_writePatternAndGo_10_5 : oks m_X0_writePatternAndGo.1 m_X0_writePatternAndGo.2.2.1 10 [(.iload_n 2, 1, (0, 0, 0)), (.iconst (-1), 1, (0, 0, 0)), (.iload_n 3, 1, (0, 0, 0)), (.iconst 1, 1, (0, 0, 0)), (.iadd, 1, (0, 0, 0))] = true ∧ plen 10 [(.iload_n 2, 1, (0, 0, 0)), (.iconst (-1), 1, (0, 0, 0)), (.iload_n 3, 1, (0, 0, 0)), (.iconst 1, 1, (0, 0, 0)), (.iadd, 1, (0, 0, 0))] = 15 := by decide +kernel
theorem ok_X0_writePatternAndGo_18_7 : oks m_X0_writePatternAndGo.1 m_X0_writePatternAndGo.2.2.1 18 [(.istore 4, 2, (0, 0, 0)), (.aload_n 0, 1, (0, 0, 0)), (.bipush 8, 2, (0, 0, 0)), (.iconst 0, 1, (0, 0, 0)), (.iconst 0, 1, (0, 0, 0)), (.iconst 0, 1, (0, 0, 0)), (.iconst (-1), 1, (0, 0, 0))] = true ∧ plen 18 [(.istore 4, 2, (0, 0, 0)), (.aload_n 0, 1, (0, 0, 0)), (.bipush 8, 2, (0, 0, 0)), (.iconst 0, 1, (0, 0, 0)), (.iconst 0, 1, (0, 0, 0)), (.iconst 0, 1, (0, 0, 0)), (.iconst (-1), 1, (0, 0, 0))] = 27 := by decide +kernel
theorem ok_X0_writePatternAndGo_30_2 : oks m_X0_writePatternAndGo.1 m_X0_writePatternAndGo.2.2.1 30 [(.pop, 1, (0, 0, 0)), (.iload 4, 2, (0, 0, 0))] = true ∧ plen 30 [(.pop, 1, (0, 0, 0)), (.iload 4, 2, (0, 0, 0))] = 33 := by decide +kernel
def G_X0_writePatternAndGo (rec : Int → Int → Int → Int → Sg → Option (Int × Sg)) (a1 : Int) (a2 : Int) (a3 : Int) (σ : Sg) : Option (Int × Sg) :=
(rec (F_X5_partOf a1 0 σ) a2 (-1) (wrap (a3 + 1)) σ).bind fun q1 =>
bnd (F_X0_write 8 0 0 0 (-1) q1.2) fun q3 =>
some (q1.1, q3.2)
theorem lk_X0_writePatternAndGo (l : Launch) (Dr : Nat) (rec : Int → Int → Int → Int → Sg → Option (Int × Sg)) (hrec : ∀ d, Dr ≤ d → ∀ (a1 : Int) (a2 : Int) (a3 : Int) (a4 : Int) (σ : Sg) (q : (Int × Sg)), rec a1 a2 a3 a4 σ = some q → CT l d m_X0_writePattern.2.1 m_X0_writePattern.2.2.1 m_X0_writePattern.2.2.2.1 m_X0_writePattern.2.2.2.2 [.inr 33, .inl a1, .inl a2, .inl a3, .inl a4] (LAYC, σ) (some (.inl q.1)) (LAYC, q.2)) (d : Nat) (hd : Dr + 1 ≤ d) (hdB : 55 ≤ d) (a1 : Int) (a2 : Int) (a3 : Int) (σ : Sg) (q : (Int × Sg)) (h : G_X0_writePatternAndGo rec a1 a2 a3 σ = some q) : CT l d m_X0_writePatternAndGo.2.1 m_X0_writePatternAndGo.2.2.1 m_X0_writePatternAndGo.2.2.2.1 m_X0_writePatternAndGo.2.2.2.2 [.inr 33, .inl a1, .inl a2, .inl a3] (LAYC, σ) (some (.inl q.1)) (LAYC, q.2) := by
  obtain ⟨d, rfl⟩ : ∃ e, d = e + 1 := ⟨d - 1, by omega⟩
  have key : Go l m_X0_writePatternAndGo (d + 1) LAYC (.inl (some (.inl q.1))) q.2 0 [some (.inr 33), some (.inl a1), some (.inl a2), some (.inl a3), none] [] σ := by
    unfold G_X0_writePatternAndGo at h
    refine go_ops ok_X0_writePatternAndGo_0_5 (L' := [some (.inr 33), some (.inl a1), some (.inl a2), some (.inl a3), none]) (st' := [.inl 0, .inl a1, .inr 10, .inr 33]) (σ1 := σ) rfl ?_
    refine go_V (M1 := m_X5_partOf) (as := [.inl a1, .inl 0]) (st := [.inr 33]) (k := 10) (ci := 5) dc_X0_writePatternAndGo_7 ln_0_135 im_X5_partOf (by decide) rfl rfl mk_X5_partOf rfl (Nat.le_of_ble_eq_true rfl) (Nat.le_refl _) (v := (some (.inl (F_X5_partOf a1 0 σ)))) (σ1 := σ) (lk_X5_partOf l d (by omega) a1 0 σ _ rfl) _ rfl ?_
    refine go_ops ok_X0_writePatternAndGo_10_5 (L' := [some (.inr 33), some (.inl a1), some (.inl a2), some (.inl a3), none]) (st' := [.inl (wrap (a3 + 1)), .inl (-1), .inl a2, .inl (F_X5_partOf a1 0 σ), .inr 33]) (σ1 := σ) rfl ?_
    obtain ⟨q1, e2, h⟩ := bind_inv h
    refine go_V (M1 := m_X0_writePattern) (as := [.inl (F_X5_partOf a1 0 σ), .inl a2, .inl (-1), .inl (wrap (a3 + 1))]) (st := []) (k := 33) (ci := 0) dc_X0_writePatternAndGo_15 ln_0_120 im_X0_writePattern (by decide) rfl rfl mk_X0_writePattern rfl (Nat.le_of_ble_eq_true rfl) (Nat.le_refl _) (v := (some (.inl q1.1))) (σ1 := q1.2) (hrec d (by omega) (F_X5_partOf a1 0 σ) a2 (-1) (wrap (a3 + 1)) σ q1 e2) _ rfl ?_
    refine go_ops ok_X0_writePatternAndGo_18_7 (L' := [some (.inr 33), some (.inl a1), some (.inl a2), some (.inl a3), some (.inl q1.1)]) (st' := [.inl (-1), .inl 0, .inl 0, .inl 0, .inl 8, .inr 33]) (σ1 := q1.2) rfl ?_
    obtain ⟨q3, e4, h⟩ := bnd_inv h
    refine go_V (M1 := m_X0_write) (as := [.inl 8, .inl 0, .inl 0, .inl 0, .inl (-1)]) (st := []) (k := 33) (ci := 0) dc_X0_writePatternAndGo_27 ln_0_110 im_X0_write (by decide) rfl rfl mk_X0_write rfl (Nat.le_of_ble_eq_true rfl) (Nat.le_refl _) (v := (some (.inl q3.1))) (σ1 := q3.2) (lk_X0_write l d (by omega) 8 0 0 0 (-1) q1.2 q3 e4.symm) _ rfl ?_
    refine go_ops ok_X0_writePatternAndGo_30_2 (L' := [some (.inr 33), some (.inl a1), some (.inl a2), some (.inl a3), some (.inl q1.1)]) (st' := [.inl q1.1]) (σ1 := q3.2) rfl ?_
    have h9 := Option.some.inj h
    subst h9
    exact go_iret dc_X0_writePatternAndGo_33 rfl
  have hf := go_ct (as := [.inr 33, .inl a1, .inl a2, .inl a3]) mk_X0_writePatternAndGo (by rfl) (Nat.le_of_ble_eq_true rfl) key
  exact hf
theorem dc_X0_writeParts_5 : decode m_X0_writeParts.2.2.1 5 = .ok (.invokevirtual 152, 3) := by decide +kernel
theorem dc_X0_writeParts_20 : decode m_X0_writeParts.2.2.1 20 = .ok (.if_icmp .ge 75, 3) := by decide +kernel
theorem dc_X0_writeParts_28 : decode m_X0_writeParts.2.2.1 28 = .ok (.invokevirtual 132, 3) := by decide +kernel
theorem dc_X0_writeParts_33 : decode m_X0_writeParts.2.2.1 33 = .ok (.if_icmp .ne 20, 3) := by decide +kernel
theorem dc_X0_writeParts_46 : decode m_X0_writeParts.2.2.1 46 = .ok (.invokevirtual 110, 3) := by decide +kernel
theorem dc_X0_writeParts_50 : decode m_X0_writeParts.2.2.1 50 = .ok (.goto 14, 3) := by decide +kernel
theorem dc_X0_writeParts_60 : decode m_X0_writeParts.2.2.1 60 = .ok (.invokevirtual 110, 3) := by decide +kernel
theorem dc_X0_writeParts_72 : decode m_X0_writeParts.2.2.1 72 = .ok (.invokevirtual 135, 3) := by decide +kernel
theorem dc_X0_writeParts_84 : decode m_X0_writeParts.2.2.1 84 = .ok (.invokevirtual 120, 3) := by decide +kernel
theorem dc_X0_writeParts_92 : decode m_X0_writeParts.2.2.1 92 = .ok (.goto (-76), 3) := by decide +kernel
theorem dc_X0_writeParts_97 : decode m_X0_writeParts.2.2.1 97 = .ok (.ireturn, 1) := by decide +kernel
theorem ok_X0_writeParts_0_3 : oks m_X0_writeParts.1 m_X0_writeParts.2.2.1 0 [(.aload_n 0, 1, (0, 0, 0)), (.getfield 32, 3, (0, 0, 0)), (.iload_n 1, 1, (0, 0, 0))] = true ∧ plen 0 [(.aload_n 0, 1, (0, 0, 0)), (.getfield 32, 3, (0, 0, 0)), (.iload_n 1, 1, (0, 0, 0))] = 5 := by decide +kernel
theorem ok_X0_writeParts_8_5 : oks m_X0_writeParts.1 m_X0_writeParts.2.2.1 8 [(.istore 5, 2, (0, 0, 0)), (.iload_n 3, 1, (0, 0, 0)), (.istore 6, 2, (0, 0, 0)), (.iconst 0, 1, (0, 0, 0)), (.istore 7, 2, (0, 0, 0))] = true ∧ plen 8 [(.istore 5, 2, (0, 0, 0)), (.iload_n 3, 1, (0, 0, 0)), (.istore 6, 2, (0, 0, 0)), (.iconst 0, 1, (0, 0, 0)), (.istore 7, 2, (0, 0, 0))] = 16 := by decide +kernel
theorem ok_X0_writeParts_16_2 : oks m_X0_writeParts.1 m_X0_writeParts.2.2.1 16 [(.iload 7, 2, (0, 0, 0)), (.iload 5, 2, (0, 0, 0))] = true ∧ plen 16 [(.iload 7, 2, (0, 0, 0)), (.iload 5, 2, (0, 0, 0))] = 20 := by decide +kernel
theorem ok_X0_writeParts_23_3 : oks m_X0_writeParts.1 m_X0_writeParts.2.2.1 23 [(.aload_n 0, 1, (0, 0, 0)), (.getfield 32, 3, (0, 0, 0)), (.iload_n 1, 1, (0, 0, 0))] = true ∧ plen 23 [(.aload_n 0, 1, (0, 0, 0)), (.getfield 32, 3, (0, 0, 0)), (.iload_n 1, 1, (0, 0, 0))] = 28 := by decide +kernel
theorem ok_X0_writeParts_31_1 : oks m_X0_writeParts.1 m_X0_writeParts.2.2.1 31 [(.bipush 7, 2, (0, 0, 0))] = true ∧ plen 31 [(.bipush 7, 2, (0, 0, 0))] = 33 := by decide +kernel
theorem ok_X0_writeParts_36_8 : oks m_X0_writeParts.1 m_X0_writeParts.2.2.1 36 [(.aload_n 0, 1, (0, 0, 0)), (.iconst 3, 1, (0, 0, 0)), (.iload_n 2, 1, (0, 0, 0)), (.iload 5, 2, (0, 0, 0)), (.iload 7, 2, (0, 0, 0)), (.isub, 1, (0, 0, 0)), (.iconst 0, 1, (0, 0, 0)), (.iconst (-1), 1, (0, 0, 0))] = true ∧ plen 36 [(.aload_n 0, 1, (0, 0, 0)), (.iconst 3, 1, (0, 0, 0)), (.iload_n 2, 1, (0, 0, 0)), (.iload 5, 2, (0, 0, 0)), (.iload 7, 2, (0, 0, 0)), (.isub, 1, (0, 0, 0)), (.iconst 0, 1, (0, 0, 0)), (.iconst (-1), 1, (0, 0, 0))] = 46 := by decide +kernel
theorem ok_X0_writeParts_49_1 : oks m_X0_writeParts.1 m_X0_writeParts.2.2.1 49 [(.pop, 1, (0, 0, 0))] = true ∧ plen 49 [(.pop, 1, (0, 0, 0))] = 50 := by decide +kernel
theorem ok_X0_writeParts_53_6 : oks m_X0_writeParts.1 m_X0_writeParts.2.2.1 53 [(.aload_n 0, 1, (0, 0, 0)), (.iconst 2, 1, (0, 0, 0)), (.iload_n 2, 1, (0, 0, 0)), (.iload 7, 2, (0, 0, 0)), (.iconst 0, 1, (0, 0, 0)), (.iconst (-1), 1, (0, 0, 0))] = true ∧ plen 53 [(.aload_n 0, 1, (0, 0, 0)), (.iconst 2, 1, (0, 0, 0)), (.iload_n 2, 1, (0, 0, 0)), (.iload 7, 2, (0, 0, 0)), (.iconst 0, 1, (0, 0, 0)), (.iconst (-1), 1, (0, 0, 0))] = 60 := by decide +kernel
theorem ok_X0_writeParts_63_1 : oks m_X0_writeParts.1 m_X0_writeParts.2.2.1 63 [(.pop, 1, (0, 0, 0))] = true ∧ plen 63 [(.pop, 1, (0, 0, 0))] = 64 := by decide +kernel
theorem ok_X0_writeParts_64_5 : oks m_X0_writeParts.1 m_X0_writeParts.2.2.1 64 [(.aload_n 0, 1, (0, 0, 0)), (.aload_n 0, 1, (0, 0, 0)), (.getfield 32, 3, (0, 0, 0)), (.iload_n 1, 1, (0, 0, 0)), (.iload 7, 2, (0, 0, 0))] = true ∧ plen 64 [(.aload_n 0, 1, (0, 0, 0)), (.aload_n 0, 1, (0, 0, 0)), (.getfield 32, 3, (0, 0, 0)), (.iload_n 1, 1, (0, 0, 0)), (.iload 7, 2, (0, 0, 0))] = 72 := by decide +kernel
theorem ok_X0_writeParts_75_7 : oks m_X0_writeParts.1 m_X0_writeParts.2.2.1 75 [(.iload_n 2, 1, (0, 0, 0)), (.iconst 1, 1, (0, 0, 0)), (.iadd, 1, (0, 0, 0)), (.iload 6, 2, (0, 0, 0)), (.iload 4, 2, (0, 0, 0)), (.iconst 1, 1, (0, 0, 0)), (.iadd, 1, (0, 0, 0))] = true ∧ plen 75 [(.iload_n 2, 1, (0, 0, 0)), (.iconst 1, 1, (0, 0, 0)), (.iadd, 1, (0, 0, 0)), (.iload 6, 2, (0, 0, 0)), (.iload 4, 2, (0, 0, 0)), (.iconst 1, 1, (0, 0, 0)), (.iadd, 1, (0, 0, 0))] = 84 := by decide +kernel
theorem ok_X0_writeParts_87_2 : oks m_X0_writeParts.1 m_X0_writeParts.2.2.1 87 [(.istore 6, 2, (0, 0, 0)), (.iinc 7 1, 3, (0, 0, 0))] = true ∧ plen 87 [(.istore 6, 2, (0, 0, 0)), (.iinc 7 1, 3, (0, 0, 0))] = 92 := by decide +kernel
theorem ok_X0_writeParts_95_1 : oks m_X0_writeParts.1 m_X0_writeParts.2.2.1 95 [(.iload 6, 2, (0, 0, 0))] = true ∧ plen 95 [(.iload 6, 2, (0, 0, 0))] = 97 := by decide +kernel
def B_X0_writeParts_64 (rec : Int → Int → Int → Int → Sg → Option (Int × Sg)) (x1 : Int) (x2 : Int) (x4 : Int) (x6 : Int) (x7 : Int) (σ : Sg) : Option ((Int × Int × Sg) ⊕ (Int × Sg)) :=
(rec (F_X5_partOf x1 x7 σ) (wrap (x2 + 1)) x6 (wrap (x4 + 1)) σ).bind fun q5 =>
some (.inl (q5.1, wrap (x7 + 1), q5.2))
def L_X0_writeParts_16 (rec : Int → Int → Int → Int → Sg → Option (Int × Sg)) (x1 : Int) (x2 : Int) (x4 : Int) (x5 : Int) (x6 : Int) (x7 : Int) (σ : Sg) : Option ((Int × Int × Sg) ⊕ (Int × Sg)) :=
if x5 ≤ x7 then
some (.inr (x6, σ))
else
if (F_X5_sortOf x1 σ) = 7 then
bnd (F_X0_write 3 x2 (wrap (x5 - x7)) 0 (-1) σ) fun q7 =>
B_X0_writeParts_64 rec x1 x2 x4 x6 x7 q7.2
else
bnd (F_X0_write 2 x2 x7 0 (-1) σ) fun q3 =>
B_X0_writeParts_64 rec x1 x2 x4 x6 x7 q3.2
def G_X0_writeParts (rec : Int → Int → Int → Int → Sg → Option (Int × Sg)) (a1 : Int) (a2 : Int) (a3 : Int) (a4 : Int) (σ : Sg) : Option (Int × Sg) :=
bnd (F_X5_partCount a1 σ) fun v1 =>
(iter (fun a : (Int × Int × Sg) => L_X0_writeParts_16 rec a1 a2 a4 v1 a.1 a.2.1 a.2.2) 3000 (a3, 0, σ)).bind fun y9 =>
some (y9.1, y9.2)
theorem lk_X0_writeParts (l : Launch) (Dr : Nat) (rec : Int → Int → Int → Int → Sg → Option (Int × Sg)) (hrec : ∀ d, Dr ≤ d → ∀ (a1 : Int) (a2 : Int) (a3 : Int) (a4 : Int) (σ : Sg) (q : (Int × Sg)), rec a1 a2 a3 a4 σ = some q → CT l d m_X0_writePattern.2.1 m_X0_writePattern.2.2.1 m_X0_writePattern.2.2.2.1 m_X0_writePattern.2.2.2.2 [.inr 33, .inl a1, .inl a2, .inl a3, .inl a4] (LAYC, σ) (some (.inl q.1)) (LAYC, q.2)) (d : Nat) (hd : Dr + 1 ≤ d) (hdB : 55 ≤ d) (a1 : Int) (a2 : Int) (a3 : Int) (a4 : Int) (σ : Sg) (q : (Int × Sg)) (h : G_X0_writeParts rec a1 a2 a3 a4 σ = some q) : CT l d m_X0_writeParts.2.1 m_X0_writeParts.2.2.1 m_X0_writeParts.2.2.2.1 m_X0_writeParts.2.2.2.2 [.inr 33, .inl a1, .inl a2, .inl a3, .inl a4] (LAYC, σ) (some (.inl q.1)) (LAYC, q.2) := by
  obtain ⟨d, rfl⟩ : ∃ e, d = e + 1 := ⟨d - 1, by omega⟩
  have key : Go l m_X0_writeParts (d + 1) LAYC (.inl (some (.inl q.1))) q.2 0 [some (.inr 33), some (.inl a1), some (.inl a2), some (.inl a3), some (.inl a4), none, none, none] [] σ := by
    unfold G_X0_writeParts at h
    have hL_X0_writeParts_16 : ∀ (x1 : Int) (x2 : Int) (x4 : Int) (x5 : Int) (n : Nat) (a : (Int × Int × Sg)) (y : (Int × Sg)), iter (fun a : (Int × Int × Sg) => L_X0_writeParts_16 rec x1 x2 x4 x5 a.1 a.2.1 a.2.2) n a = some y → (fun y : (Int × Sg) => Go l m_X0_writeParts (d + 1) LAYC (.inl (some (.inl q.1))) q.2 95 [none, none, none, none, none, none, some (.inl y.1), none] [] y.2) y → (fun a : (Int × Int × Sg) => Go l m_X0_writeParts (d + 1) LAYC (.inl (some (.inl q.1))) q.2 16 [some (.inr 33), some (.inl x1), some (.inl x2), none, some (.inl x4), some (.inl x5), some (.inl a.1), some (.inl a.2.1)] [] a.2.2) a := by
      intro x1 x2 x4 x5
      refine go_iter (G := fun a : (Int × Int × Sg) => Go l m_X0_writeParts (d + 1) LAYC (.inl (some (.inl q.1))) q.2 16 [some (.inr 33), some (.inl x1), some (.inl x2), none, some (.inl x4), some (.inl x5), some (.inl a.1), some (.inl a.2.1)] [] a.2.2) (K := fun y : (Int × Sg) => Go l m_X0_writeParts (d + 1) LAYC (.inl (some (.inl q.1))) q.2 95 [none, none, none, none, none, none, some (.inl y.1), none] [] y.2) ?_
      rintro ⟨x6, x7, σ⟩ w h hK
      replace h : L_X0_writeParts_16 rec x1 x2 x4 x5 x6 x7 σ = some w := h
      show Go l m_X0_writeParts (d + 1) LAYC (.inl (some (.inl q.1))) q.2 16 [some (.inr 33), some (.inl x1), some (.inl x2), none, some (.inl x4), some (.inl x5), some (.inl x6), some (.inl x7)] [] σ
      unfold L_X0_writeParts_16 at h
      have hB_X0_writeParts_64 : ∀ (x6 : Int) (x7 : Int) (σ : Sg), B_X0_writeParts_64 rec x1 x2 x4 x6 x7 σ = some w → Go l m_X0_writeParts (d + 1) LAYC (.inl (some (.inl q.1))) q.2 64 [some (.inr 33), some (.inl x1), some (.inl x2), none, some (.inl x4), some (.inl x5), some (.inl x6), some (.inl x7)] [] σ := by
        intro x6 x7 σ h
        unfold B_X0_writeParts_64 at h
        refine go_ops ok_X0_writeParts_64_5 (L' := [some (.inr 33), some (.inl x1), some (.inl x2), none, some (.inl x4), some (.inl x5), some (.inl x6), some (.inl x7)]) (st' := [.inl x7, .inl x1, .inr 10, .inr 33]) (σ1 := σ) rfl ?_
        refine go_V (M1 := m_X5_partOf) (as := [.inl x1, .inl x7]) (st := [.inr 33]) (k := 10) (ci := 5) dc_X0_writeParts_72 ln_0_135 im_X5_partOf (by decide) rfl rfl mk_X5_partOf rfl (Nat.le_of_ble_eq_true rfl) (Nat.le_refl _) (v := (some (.inl (F_X5_partOf x1 x7 σ)))) (σ1 := σ) (lk_X5_partOf l d (by omega) x1 x7 σ _ rfl) _ rfl ?_
        refine go_ops ok_X0_writeParts_75_7 (L' := [some (.inr 33), some (.inl x1), some (.inl x2), none, some (.inl x4), some (.inl x5), some (.inl x6), some (.inl x7)]) (st' := [.inl (wrap (x4 + 1)), .inl x6, .inl (wrap (x2 + 1)), .inl (F_X5_partOf x1 x7 σ), .inr 33]) (σ1 := σ) rfl ?_
        obtain ⟨q5, e6, h⟩ := bind_inv h
        refine go_V (M1 := m_X0_writePattern) (as := [.inl (F_X5_partOf x1 x7 σ), .inl (wrap (x2 + 1)), .inl x6, .inl (wrap (x4 + 1))]) (st := []) (k := 33) (ci := 0) dc_X0_writeParts_84 ln_0_120 im_X0_writePattern (by decide) rfl rfl mk_X0_writePattern rfl (Nat.le_of_ble_eq_true rfl) (Nat.le_refl _) (v := (some (.inl q5.1))) (σ1 := q5.2) (hrec d (by omega) (F_X5_partOf x1 x7 σ) (wrap (x2 + 1)) x6 (wrap (x4 + 1)) σ q5 e6) _ rfl ?_
        refine go_ops ok_X0_writeParts_87_2 (L' := [some (.inr 33), some (.inl x1), some (.inl x2), none, some (.inl x4), some (.inl x5), some (.inl q5.1), some (.inl (wrap (x7 + 1)))]) (st' := []) (σ1 := q5.2) rfl ?_
        refine go_goto dc_X0_writeParts_92 (by rfl) ?_
        cases h
        exact hK
      refine go_ops ok_X0_writeParts_16_2 (L' := [some (.inr 33), some (.inl x1), some (.inl x2), none, some (.inl x4), some (.inl x5), some (.inl x6), some (.inl x7)]) (st' := [.inl x5, .inl x7]) (σ1 := σ) rfl ?_
      refine go_icmp_ge dc_X0_writeParts_20 (by rfl) (fun hc => ?_) (fun hc => ?_)
      · replace h := (if_pos hc).symm.trans h
        cases h
        refine go_wk (L' := [none, none, none, none, none, none, some (.inl x6), none]) ⟨rfl, trivial⟩ ?_
        exact hK
      · replace h := (if_neg hc).symm.trans h
        refine go_ops ok_X0_writeParts_23_3 (L' := [some (.inr 33), some (.inl x1), some (.inl x2), none, some (.inl x4), some (.inl x5), some (.inl x6), some (.inl x7)]) (st' := [.inl x1, .inr 10]) (σ1 := σ) rfl ?_
        refine go_V (M1 := m_X5_sortOf) (as := [.inl x1]) (st := []) (k := 10) (ci := 5) dc_X0_writeParts_28 ln_0_132 im_X5_sortOf (by decide) rfl rfl mk_X5_sortOf rfl (Nat.le_of_ble_eq_true rfl) (Nat.le_refl _) (v := (some (.inl (F_X5_sortOf x1 σ)))) (σ1 := σ) (lk_X5_sortOf l d (by omega) x1 σ _ rfl) _ rfl ?_
        refine go_ops ok_X0_writeParts_31_1 (L' := [some (.inr 33), some (.inl x1), some (.inl x2), none, some (.inl x4), some (.inl x5), some (.inl x6), some (.inl x7)]) (st' := [.inl 7, .inl (F_X5_sortOf x1 σ)]) (σ1 := σ) rfl ?_
        refine go_icmp_ne dc_X0_writeParts_33 (by rfl) (fun hc => ?_) (fun hc => ?_)
        · replace h := (if_neg hc).symm.trans h
          refine go_ops ok_X0_writeParts_53_6 (L' := [some (.inr 33), some (.inl x1), some (.inl x2), none, some (.inl x4), some (.inl x5), some (.inl x6), some (.inl x7)]) (st' := [.inl (-1), .inl 0, .inl x7, .inl x2, .inl 2, .inr 33]) (σ1 := σ) rfl ?_
          obtain ⟨q3, e4, h⟩ := bnd_inv h
          refine go_V (M1 := m_X0_write) (as := [.inl 2, .inl x2, .inl x7, .inl 0, .inl (-1)]) (st := []) (k := 33) (ci := 0) dc_X0_writeParts_60 ln_0_110 im_X0_write (by decide) rfl rfl mk_X0_write rfl (Nat.le_of_ble_eq_true rfl) (Nat.le_refl _) (v := (some (.inl q3.1))) (σ1 := q3.2) (lk_X0_write l d (by omega) 2 x2 x7 0 (-1) σ q3 e4.symm) _ rfl ?_
          refine go_ops ok_X0_writeParts_63_1 (L' := [some (.inr 33), some (.inl x1), some (.inl x2), none, some (.inl x4), some (.inl x5), some (.inl x6), some (.inl x7)]) (st' := []) (σ1 := q3.2) rfl ?_
          exact hB_X0_writeParts_64 x6 x7 q3.2 h
        · replace h := (if_pos hc).symm.trans h
          refine go_ops ok_X0_writeParts_36_8 (L' := [some (.inr 33), some (.inl x1), some (.inl x2), none, some (.inl x4), some (.inl x5), some (.inl x6), some (.inl x7)]) (st' := [.inl (-1), .inl 0, .inl (wrap (x5 - x7)), .inl x2, .inl 3, .inr 33]) (σ1 := σ) rfl ?_
          obtain ⟨q7, e8, h⟩ := bnd_inv h
          refine go_V (M1 := m_X0_write) (as := [.inl 3, .inl x2, .inl (wrap (x5 - x7)), .inl 0, .inl (-1)]) (st := []) (k := 33) (ci := 0) dc_X0_writeParts_46 ln_0_110 im_X0_write (by decide) rfl rfl mk_X0_write rfl (Nat.le_of_ble_eq_true rfl) (Nat.le_refl _) (v := (some (.inl q7.1))) (σ1 := q7.2) (lk_X0_write l d (by omega) 3 x2 (wrap (x5 - x7)) 0 (-1) σ q7 e8.symm) _ rfl ?_
          refine go_ops ok_X0_writeParts_49_1 (L' := [some (.inr 33), some (.inl x1), some (.inl x2), none, some (.inl x4), some (.inl x5), some (.inl x6), some (.inl x7)]) (st' := []) (σ1 := q7.2) rfl ?_
          refine go_goto dc_X0_writeParts_50 (by rfl) ?_
          exact hB_X0_writeParts_64 x6 x7 q7.2 h
    refine go_ops ok_X0_writeParts_0_3 (L' := [some (.inr 33), some (.inl a1), some (.inl a2), some (.inl a3), some (.inl a4), none, none, none]) (st' := [.inl a1, .inr 10]) (σ1 := σ) rfl ?_
    refine go_V (M1 := m_X5_partCount) (as := [.inl a1]) (st := []) (k := 10) (ci := 5) dc_X0_writeParts_5 ln_0_152 im_X5_partCount (by decide) rfl rfl mk_X5_partCount rfl (Nat.le_of_ble_eq_true rfl) (Nat.le_refl _) (v := (some (.inl (F_X5_partCount a1 σ)))) (σ1 := σ) (lk_X5_partCount l d (by omega) a1 σ _ rfl) _ rfl ?_
    obtain ⟨v1, e2, h⟩ := bnd_inv h
    refine go_ops ok_X0_writeParts_8_5 (L' := [some (.inr 33), some (.inl a1), some (.inl a2), some (.inl a3), some (.inl a4), some (.inl v1), some (.inl a3), some (.inl 0)]) (st' := []) (σ1 := σ) (by subst e2; rfl) ?_
    refine go_wk (L' := [some (.inr 33), some (.inl a1), some (.inl a2), none, some (.inl a4), some (.inl v1), some (.inl a3), some (.inl 0)]) ⟨rfl, rfl, rfl, rfl, rfl, rfl, rfl, trivial⟩ ?_
    obtain ⟨y9, e10, h⟩ := bind_inv h
    refine hL_X0_writeParts_16 a1 a2 a4 v1 3000 (a3, 0, σ) y9 e10 ?_
    show Go l m_X0_writeParts (d + 1) LAYC (.inl (some (.inl q.1))) q.2 95 [none, none, none, none, none, none, some (.inl y9.1), none] [] y9.2
    refine go_ops ok_X0_writeParts_95_1 (L' := [none, none, none, none, none, none, some (.inl y9.1), none]) (st' := [.inl y9.1]) (σ1 := y9.2) rfl ?_
    have h9 := Option.some.inj h
    subst h9
    exact go_iret dc_X0_writeParts_97 rfl
  have hf := go_ct (as := [.inr 33, .inl a1, .inl a2, .inl a3, .inl a4]) mk_X0_writeParts (by rfl) (Nat.le_of_ble_eq_true rfl) key
  exact hf
theorem dc_X0_writePattern_4 : decode m_X0_writePattern.2.2.1 4 = .ok (.if_icmp .le 5, 3) := by decide +kernel
theorem dc_X0_writePattern_8 : decode m_X0_writePattern.2.2.1 8 = .ok (.ireturn, 1) := by decide +kernel
theorem dc_X0_writePattern_14 : decode m_X0_writePattern.2.2.1 14 = .ok (.invokevirtual 127, 3) := by decide +kernel
theorem dc_X0_writePattern_24 : decode m_X0_writePattern.2.2.1 24 = .ok (.invokevirtual 132, 3) := by decide +kernel
theorem dc_X0_writePattern_27 : decode m_X0_writePattern.2.2.1 27 = .ok (.tableswitch 151 0 5 #[37, 39, 151, 151, 70, 120], 37) := by decide +kernel
theorem dc_X0_writePattern_65 : decode m_X0_writePattern.2.2.1 65 = .ok (.ireturn, 1) := by decide +kernel
theorem dc_X0_writePattern_73 : decode m_X0_writePattern.2.2.1 73 = .ok (.invokevirtual 110, 3) := by decide +kernel
theorem dc_X0_writePattern_84 : decode m_X0_writePattern.2.2.1 84 = .ok (.invokevirtual 135, 3) := by decide +kernel
theorem dc_X0_writePattern_93 : decode m_X0_writePattern.2.2.1 93 = .ok (.invokevirtual 120, 3) := by decide +kernel
theorem dc_X0_writePattern_96 : decode m_X0_writePattern.2.2.1 96 = .ok (.ireturn, 1) := by decide +kernel
theorem dc_X0_writePattern_103 : decode m_X0_writePattern.2.2.1 103 = .ok (.invokevirtual 138, 3) := by decide +kernel
theorem dc_X0_writePattern_106 : decode m_X0_writePattern.2.2.1 106 = .ok (.invokevirtual 124, 3) := by decide +kernel
theorem dc_X0_writePattern_124 : decode m_X0_writePattern.2.2.1 124 = .ok (.invokevirtual 135, 3) := by decide +kernel
theorem dc_X0_writePattern_133 : decode m_X0_writePattern.2.2.1 133 = .ok (.invokevirtual 120, 3) := by decide +kernel
theorem dc_X0_writePattern_141 : decode m_X0_writePattern.2.2.1 141 = .ok (.invokevirtual 124, 3) := by decide +kernel
theorem dc_X0_writePattern_146 : decode m_X0_writePattern.2.2.1 146 = .ok (.ireturn, 1) := by decide +kernel
theorem dc_X0_writePattern_155 : decode m_X0_writePattern.2.2.1 155 = .ok (.invokevirtual 110, 3) := by decide +kernel
theorem dc_X0_writePattern_166 : decode m_X0_writePattern.2.2.1 166 = .ok (.invokevirtual 135, 3) := by decide +kernel
theorem dc_X0_writePattern_174 : decode m_X0_writePattern.2.2.1 174 = .ok (.invokestatic 142, 3) := by decide +kernel
theorem dc_X0_writePattern_177 : decode m_X0_writePattern.2.2.1 177 = .ok (.ireturn, 1) := by decide +kernel
theorem dc_X0_writePattern_191 : decode m_X0_writePattern.2.2.1 191 = .ok (.invokevirtual 146, 3) := by decide +kernel
theorem dc_X0_writePattern_195 : decode m_X0_writePattern.2.2.1 195 = .ok (.invokevirtual 110, 3) := by decide +kernel
theorem dc_X0_writePattern_200 : decode m_X0_writePattern.2.2.1 200 = .ok (.invokevirtual 149, 3) := by decide +kernel
theorem dc_X0_writePattern_203 : decode m_X0_writePattern.2.2.1 203 = .ok (.ireturn, 1) := by decide +kernel
theorem ok_X0_writePattern_0_2 : oks m_X0_writePattern.1 m_X0_writePattern.2.2.1 0 [(.iload 4, 2, (0, 0, 0)), (.bipush 40, 2, (0, 0, 0))] = true ∧ plen 0 [(.iload 4, 2, (0, 0, 0)), (.bipush 40, 2, (0, 0, 0))] = 4 := by decide +kernel
theorem ok_X0_writePattern_7_1 : oks m_X0_writePattern.1 m_X0_writePattern.2.2.1 7 [(.iload_n 3, 1, (0, 0, 0))] = true ∧ plen 7 [(.iload_n 3, 1, (0, 0, 0))] = 8 := by decide +kernel
theorem ok_X0_writePattern_9_3 : oks m_X0_writePattern.1 m_X0_writePattern.2.2.1 9 [(.aload_n 0, 1, (0, 0, 0)), (.getfield 32, 3, (0, 0, 0)), (.iload_n 1, 1, (0, 0, 0))] = true ∧ plen 9 [(.aload_n 0, 1, (0, 0, 0)), (.getfield 32, 3, (0, 0, 0)), (.iload_n 1, 1, (0, 0, 0))] = 14 := by decide +kernel
theorem ok_X0_writePattern_17_4 : oks m_X0_writePattern.1 m_X0_writePattern.2.2.1 17 [(.istore 5, 2, (0, 0, 0)), (.aload_n 0, 1, (0, 0, 0)), (.getfield 32, 3, (0, 0, 0)), (.iload_n 1, 1, (0, 0, 0))] = true ∧ plen 17 [(.istore 5, 2, (0, 0, 0)), (.aload_n 0, 1, (0, 0, 0)), (.getfield 32, 3, (0, 0, 0)), (.iload_n 1, 1, (0, 0, 0))] = 24 := by decide +kernel
theorem ok_X0_writePattern_64_1 : oks m_X0_writePattern.1 m_X0_writePattern.2.2.1 64 [(.iload_n 3, 1, (0, 0, 0))] = true ∧ plen 64 [(.iload_n 3, 1, (0, 0, 0))] = 65 := by decide +kernel
theorem ok_X0_writePattern_66_6 : oks m_X0_writePattern.1 m_X0_writePattern.2.2.1 66 [(.aload_n 0, 1, (0, 0, 0)), (.iconst 4, 1, (0, 0, 0)), (.iload_n 2, 1, (0, 0, 0)), (.iload 5, 2, (0, 0, 0)), (.iconst 0, 1, (0, 0, 0)), (.iconst (-1), 1, (0, 0, 0))] = true ∧ plen 66 [(.aload_n 0, 1, (0, 0, 0)), (.iconst 4, 1, (0, 0, 0)), (.iload_n 2, 1, (0, 0, 0)), (.iload 5, 2, (0, 0, 0)), (.iconst 0, 1, (0, 0, 0)), (.iconst (-1), 1, (0, 0, 0))] = 73 := by decide +kernel
theorem ok_X0_writePattern_76_6 : oks m_X0_writePattern.1 m_X0_writePattern.2.2.1 76 [(.pop, 1, (0, 0, 0)), (.aload_n 0, 1, (0, 0, 0)), (.aload_n 0, 1, (0, 0, 0)), (.getfield 32, 3, (0, 0, 0)), (.iload_n 1, 1, (0, 0, 0)), (.iconst 0, 1, (0, 0, 0))] = true ∧ plen 76 [(.pop, 1, (0, 0, 0)), (.aload_n 0, 1, (0, 0, 0)), (.aload_n 0, 1, (0, 0, 0)), (.getfield 32, 3, (0, 0, 0)), (.iload_n 1, 1, (0, 0, 0)), (.iconst 0, 1, (0, 0, 0))] = 84 := by decide +kernel
theorem ok_X0_writePattern_87_5 : oks m_X0_writePattern.1 m_X0_writePattern.2.2.1 87 [(.iload_n 2, 1, (0, 0, 0)), (.iload_n 3, 1, (0, 0, 0)), (.iload 4, 2, (0, 0, 0)), (.iconst 1, 1, (0, 0, 0)), (.iadd, 1, (0, 0, 0))] = true ∧ plen 87 [(.iload_n 2, 1, (0, 0, 0)), (.iload_n 3, 1, (0, 0, 0)), (.iload 4, 2, (0, 0, 0)), (.iconst 1, 1, (0, 0, 0)), (.iadd, 1, (0, 0, 0))] = 93 := by decide +kernel
theorem ok_X0_writePattern_97_5 : oks m_X0_writePattern.1 m_X0_writePattern.2.2.1 97 [(.aload_n 0, 1, (0, 0, 0)), (.aload_n 0, 1, (0, 0, 0)), (.iload_n 1, 1, (0, 0, 0)), (.iload_n 2, 1, (0, 0, 0)), (.iload 4, 2, (0, 0, 0))] = true ∧ plen 97 [(.aload_n 0, 1, (0, 0, 0)), (.aload_n 0, 1, (0, 0, 0)), (.iload_n 1, 1, (0, 0, 0)), (.iload_n 2, 1, (0, 0, 0)), (.iload 4, 2, (0, 0, 0))] = 103 := by decide +kernel
theorem ok_X0_writePattern_109_10 : oks m_X0_writePattern.1 m_X0_writePattern.2.2.1 109 [(.aload_n 0, 1, (0, 0, 0)), (.getfield 15, 3, (0, 4, 0)), (.iconst 1, 1, (0, 0, 0)), (.isub, 1, (0, 0, 0)), (.istore 6, 2, (0, 0, 0)), (.aload_n 0, 1, (0, 0, 0)), (.aload_n 0, 1, (0, 0, 0)), (.getfield 32, 3, (0, 0, 0)), (.iload_n 1, 1, (0, 0, 0)), (.iconst 1, 1, (0, 0, 0))] = true ∧ plen 109 [(.aload_n 0, 1, (0, 0, 0)), (.getfield 15, 3, (0, 4, 0)), (.iconst 1, 1, (0, 0, 0)), (.isub, 1, (0, 0, 0)), (.istore 6, 2, (0, 0, 0)), (.aload_n 0, 1, (0, 0, 0)), (.aload_n 0, 1, (0, 0, 0)), (.getfield 32, 3, (0, 0, 0)), (.iload_n 1, 1, (0, 0, 0)), (.iconst 1, 1, (0, 0, 0))] = 124 := by decide +kernel
theorem ok_X0_writePattern_127_5 : oks m_X0_writePattern.1 m_X0_writePattern.2.2.1 127 [(.iload_n 2, 1, (0, 0, 0)), (.iload_n 3, 1, (0, 0, 0)), (.iload 4, 2, (0, 0, 0)), (.iconst 1, 1, (0, 0, 0)), (.iadd, 1, (0, 0, 0))] = true ∧ plen 127 [(.iload_n 2, 1, (0, 0, 0)), (.iload_n 3, 1, (0, 0, 0)), (.iload 4, 2, (0, 0, 0)), (.iconst 1, 1, (0, 0, 0)), (.iadd, 1, (0, 0, 0))] = 133 := by decide +kernel
theorem ok_X0_writePattern_136_3 : oks m_X0_writePattern.1 m_X0_writePattern.2.2.1 136 [(.istore 7, 2, (0, 0, 0)), (.aload_n 0, 1, (0, 0, 0)), (.iload 6, 2, (0, 0, 0))] = true ∧ plen 136 [(.istore 7, 2, (0, 0, 0)), (.aload_n 0, 1, (0, 0, 0)), (.iload 6, 2, (0, 0, 0))] = 141 := by decide +kernel
theorem ok_X0_writePattern_144_1 : oks m_X0_writePattern.1 m_X0_writePattern.2.2.1 144 [(.iload 7, 2, (0, 0, 0))] = true ∧ plen 144 [(.iload 7, 2, (0, 0, 0))] = 146 := by decide +kernel
theorem ok_X0_writePattern_147_6 : oks m_X0_writePattern.1 m_X0_writePattern.2.2.1 147 [(.aload_n 0, 1, (0, 0, 0)), (.bipush 6, 2, (0, 0, 0)), (.iload_n 2, 1, (0, 0, 0)), (.iload 5, 2, (0, 0, 0)), (.iconst 0, 1, (0, 0, 0)), (.iconst (-1), 1, (0, 0, 0))] = true ∧ plen 147 [(.aload_n 0, 1, (0, 0, 0)), (.bipush 6, 2, (0, 0, 0)), (.iload_n 2, 1, (0, 0, 0)), (.iload 5, 2, (0, 0, 0)), (.iconst 0, 1, (0, 0, 0)), (.iconst (-1), 1, (0, 0, 0))] = 155 := by decide +kernel
theorem ok_X0_writePattern_158_6 : oks m_X0_writePattern.1 m_X0_writePattern.2.2.1 158 [(.pop, 1, (0, 0, 0)), (.aload_n 0, 1, (0, 0, 0)), (.aload_n 0, 1, (0, 0, 0)), (.getfield 32, 3, (0, 0, 0)), (.iload_n 1, 1, (0, 0, 0)), (.iconst 0, 1, (0, 0, 0))] = true ∧ plen 158 [(.pop, 1, (0, 0, 0)), (.aload_n 0, 1, (0, 0, 0)), (.aload_n 0, 1, (0, 0, 0)), (.getfield 32, 3, (0, 0, 0)), (.iload_n 1, 1, (0, 0, 0)), (.iconst 0, 1, (0, 0, 0))] = 166 := by decide +kernel
theorem ok_X0_writePattern_169_4 : oks m_X0_writePattern.1 m_X0_writePattern.2.2.1 169 [(.iload_n 3, 1, (0, 0, 0)), (.iload 4, 2, (0, 0, 0)), (.iconst 1, 1, (0, 0, 0)), (.iadd, 1, (0, 0, 0))] = true ∧ plen 169 [(.iload_n 3, 1, (0, 0, 0)), (.iload 4, 2, (0, 0, 0)), (.iconst 1, 1, (0, 0, 0)), (.iadd, 1, (0, 0, 0))] = 174 := by decide +kernel
theorem ok_X0_writePattern_178_10 : oks m_X0_writePattern.1 m_X0_writePattern.2.2.1 178 [(.aload_n 0, 1, (0, 0, 0)), (.iload_n 1, 1, (0, 0, 0)), (.iload_n 2, 1, (0, 0, 0)), (.aload_n 0, 1, (0, 0, 0)), (.iconst 5, 1, (0, 0, 0)), (.iload_n 2, 1, (0, 0, 0)), (.iload 5, 2, (0, 0, 0)), (.aload_n 0, 1, (0, 0, 0)), (.getfield 32, 3, (0, 0, 0)), (.iload_n 1, 1, (0, 0, 0))] = true ∧ plen 178 [(.aload_n 0, 1, (0, 0, 0)), (.iload_n 1, 1, (0, 0, 0)), (.iload_n 2, 1, (0, 0, 0)), (.aload_n 0, 1, (0, 0, 0)), (.iconst 5, 1, (0, 0, 0)), (.iload_n 2, 1, (0, 0, 0)), (.iload 5, 2, (0, 0, 0)), (.aload_n 0, 1, (0, 0, 0)), (.getfield 32, 3, (0, 0, 0)), (.iload_n 1, 1, (0, 0, 0))] = 191 := by decide +kernel
theorem ok_X0_writePattern_194_1 : oks m_X0_writePattern.1 m_X0_writePattern.2.2.1 194 [(.iload_n 3, 1, (0, 0, 0))] = true ∧ plen 194 [(.iload_n 3, 1, (0, 0, 0))] = 195 := by decide +kernel
theorem ok_X0_writePattern_198_1 : oks m_X0_writePattern.1 m_X0_writePattern.2.2.1 198 [(.iload 4, 2, (0, 0, 0))] = true ∧ plen 198 [(.iload 4, 2, (0, 0, 0))] = 200 := by decide +kernel
def B_X0_writePattern_178 (rec : Int → Int → Int → Int → Sg → Option (Int × Sg)) (x1 : Int) (x2 : Int) (x3 : Int) (x4 : Int) (x5 : Int) (σ : Sg) : Option (Int × Sg) :=
bnd (F_X0_write 5 x2 x5 (F_X5_highOf x1 σ) x3 σ) fun q25 =>
(G_X0_writeParts rec x1 x2 q25.1 x4 q25.2).bind fun q27 =>
some (q27.1, q27.2)
def G_X0_writePattern (rec : Int → Int → Int → Int → Sg → Option (Int × Sg)) (a1 : Int) (a2 : Int) (a3 : Int) (a4 : Int) (σ : Sg) : Option (Int × Sg) :=
if a4 ≤ 40 then
bnd (F_X5_lowOf a1 σ) fun v1 =>
if (F_X5_sortOf a1 σ) = 0 then
some (a3, σ)
else if (F_X5_sortOf a1 σ) = 1 then
bnd (F_X0_write 4 a2 v1 0 (-1) σ) fun q4 =>
(rec (F_X5_partOf a1 0 q4.2) a2 a3 (wrap (a4 + 1)) q4.2).bind fun q6 =>
some (q6.1, q6.2)
else if (F_X5_sortOf a1 σ) = 4 then
(G_X0_writePatternAndGo rec a1 a2 a4 σ).bind fun q9 =>
(F_X0_land q9.1 q9.2).bind fun q11 =>
bnd (wrap ((q11 33 4) - 1)) fun v13 =>
(rec (F_X5_partOf a1 1 q11) a2 a3 (wrap (a4 + 1)) q11).bind fun q15 =>
(F_X0_land v13 q15.2).bind fun q17 =>
some (q15.1, q17)
else if (F_X5_sortOf a1 σ) = 5 then
bnd (F_X0_write 6 a2 v1 0 (-1) σ) fun q20 =>
(F_X0_writeNumbers 50 (F_X5_partOf a1 0 q20.2) a3 (wrap (a4 + 1)) q20.2).bind fun q22 =>
some (q22.1, q22.2)
else B_X0_writePattern_178 rec a1 a2 a3 a4 v1 σ
else
some (a3, σ)
theorem lk_X0_writePattern (l : Launch) (Dr : Nat) (rec : Int → Int → Int → Int → Sg → Option (Int × Sg)) (hrec : ∀ d, Dr ≤ d → ∀ (a1 : Int) (a2 : Int) (a3 : Int) (a4 : Int) (σ : Sg) (q : (Int × Sg)), rec a1 a2 a3 a4 σ = some q → CT l d m_X0_writePattern.2.1 m_X0_writePattern.2.2.1 m_X0_writePattern.2.2.2.1 m_X0_writePattern.2.2.2.2 [.inr 33, .inl a1, .inl a2, .inl a3, .inl a4] (LAYC, σ) (some (.inl q.1)) (LAYC, q.2)) (d : Nat) (hd : Dr + 2 ≤ d) (hdB : 56 ≤ d) (a1 : Int) (a2 : Int) (a3 : Int) (a4 : Int) (σ : Sg) (q : (Int × Sg)) (h : G_X0_writePattern rec a1 a2 a3 a4 σ = some q) : CT l d m_X0_writePattern.2.1 m_X0_writePattern.2.2.1 m_X0_writePattern.2.2.2.1 m_X0_writePattern.2.2.2.2 [.inr 33, .inl a1, .inl a2, .inl a3, .inl a4] (LAYC, σ) (some (.inl q.1)) (LAYC, q.2) := by
  obtain ⟨d, rfl⟩ : ∃ e, d = e + 1 := ⟨d - 1, by omega⟩
  have key : Go l m_X0_writePattern (d + 1) LAYC (.inl (some (.inl q.1))) q.2 0 [some (.inr 33), some (.inl a1), some (.inl a2), some (.inl a3), some (.inl a4), none, none, none] [] σ := by
    unfold G_X0_writePattern at h
    have hB_X0_writePattern_178 : ∀ (x1 : Int) (x2 : Int) (x3 : Int) (x4 : Int) (x5 : Int) (σ : Sg), B_X0_writePattern_178 rec x1 x2 x3 x4 x5 σ = some q → Go l m_X0_writePattern (d + 1) LAYC (.inl (some (.inl q.1))) q.2 178 [some (.inr 33), some (.inl x1), some (.inl x2), some (.inl x3), some (.inl x4), some (.inl x5), none, none] [] σ := by
      intro x1 x2 x3 x4 x5 σ h
      unfold B_X0_writePattern_178 at h
      refine go_ops ok_X0_writePattern_178_10 (L' := [some (.inr 33), some (.inl x1), some (.inl x2), some (.inl x3), some (.inl x4), some (.inl x5), none, none]) (st' := [.inl x1, .inr 10, .inl x5, .inl x2, .inl 5, .inr 33, .inl x2, .inl x1, .inr 33]) (σ1 := σ) rfl ?_
      refine go_V (M1 := m_X5_highOf) (as := [.inl x1]) (st := [.inl x5, .inl x2, .inl 5, .inr 33, .inl x2, .inl x1, .inr 33]) (k := 10) (ci := 5) dc_X0_writePattern_191 ln_0_146 im_X5_highOf (by decide) rfl rfl mk_X5_highOf rfl (Nat.le_of_ble_eq_true rfl) (Nat.le_refl _) (v := (some (.inl (F_X5_highOf x1 σ)))) (σ1 := σ) (lk_X5_highOf l d (by omega) x1 σ _ rfl) _ rfl ?_
      refine go_ops ok_X0_writePattern_194_1 (L' := [some (.inr 33), some (.inl x1), some (.inl x2), some (.inl x3), some (.inl x4), some (.inl x5), none, none]) (st' := [.inl x3, .inl (F_X5_highOf x1 σ), .inl x5, .inl x2, .inl 5, .inr 33, .inl x2, .inl x1, .inr 33]) (σ1 := σ) rfl ?_
      obtain ⟨q25, e26, h⟩ := bnd_inv h
      refine go_V (M1 := m_X0_write) (as := [.inl 5, .inl x2, .inl x5, .inl (F_X5_highOf x1 σ), .inl x3]) (st := [.inl x2, .inl x1, .inr 33]) (k := 33) (ci := 0) dc_X0_writePattern_195 ln_0_110 im_X0_write (by decide) rfl rfl mk_X0_write rfl (Nat.le_of_ble_eq_true rfl) (Nat.le_refl _) (v := (some (.inl q25.1))) (σ1 := q25.2) (lk_X0_write l d (by omega) 5 x2 x5 (F_X5_highOf x1 σ) x3 σ q25 e26.symm) _ rfl ?_
      refine go_ops ok_X0_writePattern_198_1 (L' := [some (.inr 33), some (.inl x1), some (.inl x2), some (.inl x3), some (.inl x4), some (.inl x5), none, none]) (st' := [.inl x4, .inl q25.1, .inl x2, .inl x1, .inr 33]) (σ1 := q25.2) rfl ?_
      obtain ⟨q27, e28, h⟩ := bind_inv h
      refine go_V (M1 := m_X0_writeParts) (as := [.inl x1, .inl x2, .inl q25.1, .inl x4]) (st := []) (k := 33) (ci := 0) dc_X0_writePattern_200 ln_0_149 im_X0_writeParts (by decide) rfl rfl mk_X0_writeParts rfl (Nat.le_of_ble_eq_true rfl) (Nat.le_refl _) (v := (some (.inl q27.1))) (σ1 := q27.2) (lk_X0_writeParts l Dr rec hrec d (by omega) (by omega) x1 x2 q25.1 x4 q25.2 q27 e28) _ rfl ?_
      have h9 := Option.some.inj h
      subst h9
      exact go_iret dc_X0_writePattern_203 rfl
    refine go_ops ok_X0_writePattern_0_2 (L' := [some (.inr 33), some (.inl a1), some (.inl a2), some (.inl a3), some (.inl a4), none, none, none]) (st' := [.inl 40, .inl a4]) (σ1 := σ) rfl ?_
    refine go_icmp_le dc_X0_writePattern_4 (by rfl) (fun hc => ?_) (fun hc => ?_)
    · replace h := (if_pos hc).symm.trans h
      refine go_ops ok_X0_writePattern_9_3 (L' := [some (.inr 33), some (.inl a1), some (.inl a2), some (.inl a3), some (.inl a4), none, none, none]) (st' := [.inl a1, .inr 10]) (σ1 := σ) rfl ?_
      refine go_V (M1 := m_X5_lowOf) (as := [.inl a1]) (st := []) (k := 10) (ci := 5) dc_X0_writePattern_14 ln_0_127 im_X5_lowOf (by decide) rfl rfl mk_X5_lowOf rfl (Nat.le_of_ble_eq_true rfl) (Nat.le_refl _) (v := (some (.inl (F_X5_lowOf a1 σ)))) (σ1 := σ) (lk_X5_lowOf l d (by omega) a1 σ _ rfl) _ rfl ?_
      obtain ⟨v1, e2, h⟩ := bnd_inv h
      refine go_ops ok_X0_writePattern_17_4 (L' := [some (.inr 33), some (.inl a1), some (.inl a2), some (.inl a3), some (.inl a4), some (.inl v1), none, none]) (st' := [.inl a1, .inr 10]) (σ1 := σ) (by subst e2; rfl) ?_
      refine go_V (M1 := m_X5_sortOf) (as := [.inl a1]) (st := []) (k := 10) (ci := 5) dc_X0_writePattern_24 ln_0_132 im_X5_sortOf (by decide) rfl rfl mk_X5_sortOf rfl (Nat.le_of_ble_eq_true rfl) (Nat.le_refl _) (v := (some (.inl (F_X5_sortOf a1 σ)))) (σ1 := σ) (lk_X5_sortOf l d (by omega) a1 σ _ rfl) _ rfl ?_
      rcases Decidable.em ((F_X5_sortOf a1 σ) = 0) with hs3 | hs3
      · replace h := (if_pos hs3).symm.trans h
        refine go_tsw (off := 37) dc_X0_writePattern_27 (by decide) (by decide) (tsk hs3 (by decide +kernel)) (by rfl) ?_
        refine go_ops ok_X0_writePattern_64_1 (L' := [some (.inr 33), some (.inl a1), some (.inl a2), some (.inl a3), some (.inl a4), some (.inl v1), none, none]) (st' := [.inl a3]) (σ1 := σ) rfl ?_
        have h9 := Option.some.inj h
        subst h9
        exact go_iret dc_X0_writePattern_65 rfl
      replace h := (if_neg hs3).symm.trans h
      rcases Decidable.em ((F_X5_sortOf a1 σ) = 1) with hs8 | hs8
      · replace h := (if_pos hs8).symm.trans h
        refine go_tsw (off := 39) dc_X0_writePattern_27 (by decide) (by decide) (tsk hs8 (by decide +kernel)) (by rfl) ?_
        refine go_ops ok_X0_writePattern_66_6 (L' := [some (.inr 33), some (.inl a1), some (.inl a2), some (.inl a3), some (.inl a4), some (.inl v1), none, none]) (st' := [.inl (-1), .inl 0, .inl v1, .inl a2, .inl 4, .inr 33]) (σ1 := σ) rfl ?_
        obtain ⟨q4, e5, h⟩ := bnd_inv h
        refine go_V (M1 := m_X0_write) (as := [.inl 4, .inl a2, .inl v1, .inl 0, .inl (-1)]) (st := []) (k := 33) (ci := 0) dc_X0_writePattern_73 ln_0_110 im_X0_write (by decide) rfl rfl mk_X0_write rfl (Nat.le_of_ble_eq_true rfl) (Nat.le_refl _) (v := (some (.inl q4.1))) (σ1 := q4.2) (lk_X0_write l d (by omega) 4 a2 v1 0 (-1) σ q4 e5.symm) _ rfl ?_
        refine go_ops ok_X0_writePattern_76_6 (L' := [some (.inr 33), some (.inl a1), some (.inl a2), some (.inl a3), some (.inl a4), some (.inl v1), none, none]) (st' := [.inl 0, .inl a1, .inr 10, .inr 33]) (σ1 := q4.2) rfl ?_
        refine go_V (M1 := m_X5_partOf) (as := [.inl a1, .inl 0]) (st := [.inr 33]) (k := 10) (ci := 5) dc_X0_writePattern_84 ln_0_135 im_X5_partOf (by decide) rfl rfl mk_X5_partOf rfl (Nat.le_of_ble_eq_true rfl) (Nat.le_refl _) (v := (some (.inl (F_X5_partOf a1 0 q4.2)))) (σ1 := q4.2) (lk_X5_partOf l d (by omega) a1 0 q4.2 _ rfl) _ rfl ?_
        refine go_ops ok_X0_writePattern_87_5 (L' := [some (.inr 33), some (.inl a1), some (.inl a2), some (.inl a3), some (.inl a4), some (.inl v1), none, none]) (st' := [.inl (wrap (a4 + 1)), .inl a3, .inl a2, .inl (F_X5_partOf a1 0 q4.2), .inr 33]) (σ1 := q4.2) rfl ?_
        obtain ⟨q6, e7, h⟩ := bind_inv h
        refine go_V (M1 := m_X0_writePattern) (as := [.inl (F_X5_partOf a1 0 q4.2), .inl a2, .inl a3, .inl (wrap (a4 + 1))]) (st := []) (k := 33) (ci := 0) dc_X0_writePattern_93 ln_0_120 im_X0_writePattern (by decide) rfl rfl mk_X0_writePattern rfl (Nat.le_of_ble_eq_true rfl) (Nat.le_refl _) (v := (some (.inl q6.1))) (σ1 := q6.2) (hrec d (by omega) (F_X5_partOf a1 0 q4.2) a2 a3 (wrap (a4 + 1)) q4.2 q6 e7) _ rfl ?_
        have h9 := Option.some.inj h
        subst h9
        exact go_iret dc_X0_writePattern_96 rfl
      replace h := (if_neg hs8).symm.trans h
      rcases Decidable.em ((F_X5_sortOf a1 σ) = 4) with hs19 | hs19
      · replace h := (if_pos hs19).symm.trans h
        refine go_tsw (off := 70) dc_X0_writePattern_27 (by decide) (by decide) (tsk hs19 (by decide +kernel)) (by rfl) ?_
        refine go_ops ok_X0_writePattern_97_5 (L' := [some (.inr 33), some (.inl a1), some (.inl a2), some (.inl a3), some (.inl a4), some (.inl v1), none, none]) (st' := [.inl a4, .inl a2, .inl a1, .inr 33, .inr 33]) (σ1 := σ) rfl ?_
        obtain ⟨q9, e10, h⟩ := bind_inv h
        refine go_V (M1 := m_X0_writePatternAndGo) (as := [.inl a1, .inl a2, .inl a4]) (st := [.inr 33]) (k := 33) (ci := 0) dc_X0_writePattern_103 ln_0_138 im_X0_writePatternAndGo (by decide) rfl rfl mk_X0_writePatternAndGo rfl (Nat.le_of_ble_eq_true rfl) (Nat.le_refl _) (v := (some (.inl q9.1))) (σ1 := q9.2) (lk_X0_writePatternAndGo l Dr rec hrec d (by omega) (by omega) a1 a2 a4 σ q9 e10) _ rfl ?_
        obtain ⟨q11, e12, h⟩ := bind_inv h
        refine go_V (M1 := m_X0_land) (as := [.inl q9.1]) (st := []) (k := 33) (ci := 0) dc_X0_writePattern_106 ln_0_124 im_X0_land (by decide) rfl rfl mk_X0_land rfl (Nat.le_of_ble_eq_true rfl) (Nat.le_refl _) (v := none) (σ1 := q11) (lk_X0_land l d (by omega) q9.1 q9.2 q11 e12) _ rfl ?_
        obtain ⟨v13, e14, h⟩ := bnd_inv h
        refine go_ops ok_X0_writePattern_109_10 (L' := [some (.inr 33), some (.inl a1), some (.inl a2), some (.inl a3), some (.inl a4), some (.inl v1), some (.inl v13), none]) (st' := [.inl 1, .inl a1, .inr 10, .inr 33]) (σ1 := q11) (by subst e14; rfl) ?_
        refine go_V (M1 := m_X5_partOf) (as := [.inl a1, .inl 1]) (st := [.inr 33]) (k := 10) (ci := 5) dc_X0_writePattern_124 ln_0_135 im_X5_partOf (by decide) rfl rfl mk_X5_partOf rfl (Nat.le_of_ble_eq_true rfl) (Nat.le_refl _) (v := (some (.inl (F_X5_partOf a1 1 q11)))) (σ1 := q11) (lk_X5_partOf l d (by omega) a1 1 q11 _ rfl) _ rfl ?_
        refine go_ops ok_X0_writePattern_127_5 (L' := [some (.inr 33), some (.inl a1), some (.inl a2), some (.inl a3), some (.inl a4), some (.inl v1), some (.inl v13), none]) (st' := [.inl (wrap (a4 + 1)), .inl a3, .inl a2, .inl (F_X5_partOf a1 1 q11), .inr 33]) (σ1 := q11) rfl ?_
        obtain ⟨q15, e16, h⟩ := bind_inv h
        refine go_V (M1 := m_X0_writePattern) (as := [.inl (F_X5_partOf a1 1 q11), .inl a2, .inl a3, .inl (wrap (a4 + 1))]) (st := []) (k := 33) (ci := 0) dc_X0_writePattern_133 ln_0_120 im_X0_writePattern (by decide) rfl rfl mk_X0_writePattern rfl (Nat.le_of_ble_eq_true rfl) (Nat.le_refl _) (v := (some (.inl q15.1))) (σ1 := q15.2) (hrec d (by omega) (F_X5_partOf a1 1 q11) a2 a3 (wrap (a4 + 1)) q11 q15 e16) _ rfl ?_
        refine go_ops ok_X0_writePattern_136_3 (L' := [some (.inr 33), some (.inl a1), some (.inl a2), some (.inl a3), some (.inl a4), some (.inl v1), some (.inl v13), some (.inl q15.1)]) (st' := [.inl v13, .inr 33]) (σ1 := q15.2) rfl ?_
        obtain ⟨q17, e18, h⟩ := bind_inv h
        refine go_V (M1 := m_X0_land) (as := [.inl v13]) (st := []) (k := 33) (ci := 0) dc_X0_writePattern_141 ln_0_124 im_X0_land (by decide) rfl rfl mk_X0_land rfl (Nat.le_of_ble_eq_true rfl) (Nat.le_refl _) (v := none) (σ1 := q17) (lk_X0_land l d (by omega) v13 q15.2 q17 e18) _ rfl ?_
        refine go_ops ok_X0_writePattern_144_1 (L' := [some (.inr 33), some (.inl a1), some (.inl a2), some (.inl a3), some (.inl a4), some (.inl v1), some (.inl v13), some (.inl q15.1)]) (st' := [.inl q15.1]) (σ1 := q17) rfl ?_
        have h9 := Option.some.inj h
        subst h9
        exact go_iret dc_X0_writePattern_146 rfl
      replace h := (if_neg hs19).symm.trans h
      rcases Decidable.em ((F_X5_sortOf a1 σ) = 5) with hs24 | hs24
      · replace h := (if_pos hs24).symm.trans h
        refine go_tsw (off := 120) dc_X0_writePattern_27 (by decide) (by decide) (tsk hs24 (by decide +kernel)) (by rfl) ?_
        refine go_ops ok_X0_writePattern_147_6 (L' := [some (.inr 33), some (.inl a1), some (.inl a2), some (.inl a3), some (.inl a4), some (.inl v1), none, none]) (st' := [.inl (-1), .inl 0, .inl v1, .inl a2, .inl 6, .inr 33]) (σ1 := σ) rfl ?_
        obtain ⟨q20, e21, h⟩ := bnd_inv h
        refine go_V (M1 := m_X0_write) (as := [.inl 6, .inl a2, .inl v1, .inl 0, .inl (-1)]) (st := []) (k := 33) (ci := 0) dc_X0_writePattern_155 ln_0_110 im_X0_write (by decide) rfl rfl mk_X0_write rfl (Nat.le_of_ble_eq_true rfl) (Nat.le_refl _) (v := (some (.inl q20.1))) (σ1 := q20.2) (lk_X0_write l d (by omega) 6 a2 v1 0 (-1) σ q20 e21.symm) _ rfl ?_
        refine go_ops ok_X0_writePattern_158_6 (L' := [some (.inr 33), some (.inl a1), some (.inl a2), some (.inl a3), some (.inl a4), some (.inl v1), none, none]) (st' := [.inl 0, .inl a1, .inr 10, .inr 33]) (σ1 := q20.2) rfl ?_
        refine go_V (M1 := m_X5_partOf) (as := [.inl a1, .inl 0]) (st := [.inr 33]) (k := 10) (ci := 5) dc_X0_writePattern_166 ln_0_135 im_X5_partOf (by decide) rfl rfl mk_X5_partOf rfl (Nat.le_of_ble_eq_true rfl) (Nat.le_refl _) (v := (some (.inl (F_X5_partOf a1 0 q20.2)))) (σ1 := q20.2) (lk_X5_partOf l d (by omega) a1 0 q20.2 _ rfl) _ rfl ?_
        refine go_ops ok_X0_writePattern_169_4 (L' := [some (.inr 33), some (.inl a1), some (.inl a2), some (.inl a3), some (.inl a4), some (.inl v1), none, none]) (st' := [.inl (wrap (a4 + 1)), .inl a3, .inl (F_X5_partOf a1 0 q20.2), .inr 33]) (σ1 := q20.2) rfl ?_
        obtain ⟨q22, e23, h⟩ := bind_inv h
        refine go_S (M1 := m_X0_writeNumbers) (as := [.inr 33, .inl (F_X5_partOf a1 0 q20.2), .inl a3, .inl (wrap (a4 + 1))]) (st := []) dc_X0_writePattern_174 ln_0_142 sm_X0_writeNumbers mk_X0_writeNumbers rfl (Nat.le_of_ble_eq_true rfl) (Nat.le_refl _) (v := (some (.inl q22.1))) (σ1 := q22.2) (lkr_X0_writeNumbers l 50 d (by omega) (F_X5_partOf a1 0 q20.2) a3 (wrap (a4 + 1)) q20.2 q22 e23) _ rfl ?_
        have h9 := Option.some.inj h
        subst h9
        exact go_iret dc_X0_writePattern_177 rfl
      replace h := (if_neg hs24).symm.trans h
      refine go_tsw (off := 151) dc_X0_writePattern_27 (by decide) (by decide) (ts_d [0, 1, 4, 5] (nn1 hs3 (nn1 hs8 (nn1 hs19 (nn1 hs24 nn0)))) (by decide +kernel)) (by rfl) ?_
      exact hB_X0_writePattern_178 a1 a2 a3 a4 v1 σ h
    · replace h := (if_neg hc).symm.trans h
      refine go_ops ok_X0_writePattern_7_1 (L' := [some (.inr 33), some (.inl a1), some (.inl a2), some (.inl a3), some (.inl a4), none, none, none]) (st' := [.inl a3]) (σ1 := σ) rfl ?_
      have h9 := Option.some.inj h
      subst h9
      exact go_iret dc_X0_writePattern_8 rfl
  have hf := go_ct (as := [.inr 33, .inl a1, .inl a2, .inl a3, .inl a4]) mk_X0_writePattern (by rfl) (Nat.le_of_ble_eq_true rfl) key
  exact hf
def F_X0_writePattern : Nat → Int → Int → Int → Int → Sg → Option (Int × Sg)
  | 0 => fun _ _ _ _ _ => none
  | n + 1 => G_X0_writePattern (F_X0_writePattern n)
theorem lkr_X0_writePattern (l : Launch) : ∀ (n d : Nat), 2 * n + 56 ≤ d → ∀ (a1 : Int) (a2 : Int) (a3 : Int) (a4 : Int) (σ : Sg) (q : (Int × Sg)), F_X0_writePattern n a1 a2 a3 a4 σ = some q → CT l d m_X0_writePattern.2.1 m_X0_writePattern.2.2.1 m_X0_writePattern.2.2.2.1 m_X0_writePattern.2.2.2.2 [.inr 33, .inl a1, .inl a2, .inl a3, .inl a4] (LAYC, σ) (some (.inl q.1)) (LAYC, q.2)
  | 0, d, hd, a1, a2, a3, a4, σ, q, h => by cases h
  | n + 1, d, hd, a1, a2, a3, a4, σ, q, h => lk_X0_writePattern l (2 * n + 56) (F_X0_writePattern n) (fun d hd => lkr_X0_writePattern l n d hd) d (by omega) (by omega) a1 a2 a3 a4 σ q h
theorem dc_X0_compile_12 : decode m_X0_compile.2.2.1 12 = .ok (.invokevirtual 106, 3) := by decide +kernel
theorem dc_X0_compile_15 : decode m_X0_compile.2.2.1 15 = .ok (.if_icmp .ge 109, 3) := by decide +kernel
theorem dc_X0_compile_24 : decode m_X0_compile.2.2.1 24 = .ok (.invokevirtual 110, 3) := by decide +kernel
theorem dc_X0_compile_37 : decode m_X0_compile.2.2.1 37 = .ok (.invokevirtual 114, 3) := by decide +kernel
theorem dc_X0_compile_40 : decode m_X0_compile.2.2.1 40 = .ok (.if_icmp .ge 38, 3) := by decide +kernel
theorem dc_X0_compile_51 : decode m_X0_compile.2.2.1 51 = .ok (.invokevirtual 110, 3) := by decide +kernel
theorem dc_X0_compile_62 : decode m_X0_compile.2.2.1 62 = .ok (.invokevirtual 117, 3) := by decide +kernel
theorem dc_X0_compile_68 : decode m_X0_compile.2.2.1 68 = .ok (.invokevirtual 120, 3) := by decide +kernel
theorem dc_X0_compile_75 : decode m_X0_compile.2.2.1 75 = .ok (.goto (-43), 3) := by decide +kernel
theorem dc_X0_compile_84 : decode m_X0_compile.2.2.1 84 = .ok (.invokevirtual 117, 3) := by decide +kernel
theorem dc_X0_compile_88 : decode m_X0_compile.2.2.1 88 = .ok (.if_icmp .eq 14, 3) := by decide +kernel
theorem dc_X0_compile_98 : decode m_X0_compile.2.2.1 98 = .ok (.invokevirtual 110, 3) := by decide +kernel
theorem dc_X0_compile_109 : decode m_X0_compile.2.2.1 109 = .ok (.invokevirtual 110, 3) := by decide +kernel
theorem dc_X0_compile_115 : decode m_X0_compile.2.2.1 115 = .ok (.invokevirtual 124, 3) := by decide +kernel
theorem dc_X0_compile_121 : decode m_X0_compile.2.2.1 121 = .ok (.goto (-114), 3) := by decide +kernel
theorem dc_X0_compile_131 : decode m_X0_compile.2.2.1 131 = .ok (.invokevirtual 110, 3) := by decide +kernel
theorem dc_X0_compile_135 : decode m_X0_compile.2.2.1 135 = .ok (.return_, 1) := by decide +kernel
theorem ok_X0_compile_0_5 : oks m_X0_compile.1 m_X0_compile.2.2.1 0 [(.aload_n 0, 1, (0, 0, 0)), (.iconst 0, 1, (0, 0, 0)), (.putfield 15, 3, (0, 4, 0)), (.iconst 0, 1, (0, 0, 0)), (.istore_n 1, 1, (0, 0, 0))] = true ∧ plen 0 [(.aload_n 0, 1, (0, 0, 0)), (.iconst 0, 1, (0, 0, 0)), (.putfield 15, 3, (0, 4, 0)), (.iconst 0, 1, (0, 0, 0)), (.istore_n 1, 1, (0, 0, 0))] = 7 := by decide +kernel
theorem ok_X0_compile_7_3 : oks m_X0_compile.1 m_X0_compile.2.2.1 7 [(.iload_n 1, 1, (0, 0, 0)), (.aload_n 0, 1, (0, 0, 0)), (.getfield 36, 3, (0, 1, 0))] = true ∧ plen 7 [(.iload_n 1, 1, (0, 0, 0)), (.aload_n 0, 1, (0, 0, 0)), (.getfield 36, 3, (0, 1, 0))] = 12 := by decide +kernel
theorem ok_X0_compile_18_6 : oks m_X0_compile.1 m_X0_compile.2.2.1 18 [(.aload_n 0, 1, (0, 0, 0)), (.iconst 0, 1, (0, 0, 0)), (.iconst 0, 1, (0, 0, 0)), (.iload_n 1, 1, (0, 0, 0)), (.iconst 0, 1, (0, 0, 0)), (.iconst (-1), 1, (0, 0, 0))] = true ∧ plen 18 [(.aload_n 0, 1, (0, 0, 0)), (.iconst 0, 1, (0, 0, 0)), (.iconst 0, 1, (0, 0, 0)), (.iload_n 1, 1, (0, 0, 0)), (.iconst 0, 1, (0, 0, 0)), (.iconst (-1), 1, (0, 0, 0))] = 24 := by decide +kernel
theorem ok_X0_compile_27_5 : oks m_X0_compile.1 m_X0_compile.2.2.1 27 [(.pop, 1, (0, 0, 0)), (.iconst (-1), 1, (0, 0, 0)), (.istore_n 2, 1, (0, 0, 0)), (.iconst 0, 1, (0, 0, 0)), (.istore_n 3, 1, (0, 0, 0))] = true ∧ plen 27 [(.pop, 1, (0, 0, 0)), (.iconst (-1), 1, (0, 0, 0)), (.istore_n 2, 1, (0, 0, 0)), (.iconst 0, 1, (0, 0, 0)), (.istore_n 3, 1, (0, 0, 0))] = 32 := by decide +kernel
theorem ok_X0_compile_32_3 : oks m_X0_compile.1 m_X0_compile.2.2.1 32 [(.iload_n 3, 1, (0, 0, 0)), (.aload_n 0, 1, (0, 0, 0)), (.getfield 36, 3, (0, 1, 0))] = true ∧ plen 32 [(.iload_n 3, 1, (0, 0, 0)), (.aload_n 0, 1, (0, 0, 0)), (.getfield 36, 3, (0, 1, 0))] = 37 := by decide +kernel
theorem ok_X0_compile_43_8 : oks m_X0_compile.1 m_X0_compile.2.2.1 43 [(.aload_n 0, 1, (0, 0, 0)), (.iconst 1, 1, (0, 0, 0)), (.iconst 0, 1, (0, 0, 0)), (.iload_n 3, 1, (0, 0, 0)), (.iconst 1, 1, (0, 0, 0)), (.iadd, 1, (0, 0, 0)), (.iconst 0, 1, (0, 0, 0)), (.iconst (-1), 1, (0, 0, 0))] = true ∧ plen 43 [(.aload_n 0, 1, (0, 0, 0)), (.iconst 1, 1, (0, 0, 0)), (.iconst 0, 1, (0, 0, 0)), (.iload_n 3, 1, (0, 0, 0)), (.iconst 1, 1, (0, 0, 0)), (.iadd, 1, (0, 0, 0)), (.iconst 0, 1, (0, 0, 0)), (.iconst (-1), 1, (0, 0, 0))] = 51 := by decide +kernel
theorem ok_X0_compile_54_6 : oks m_X0_compile.1 m_X0_compile.2.2.1 54 [(.pop, 1, (0, 0, 0)), (.aload_n 0, 1, (0, 0, 0)), (.aload_n 0, 1, (0, 0, 0)), (.getfield 36, 3, (0, 1, 0)), (.iload_n 1, 1, (0, 0, 0)), (.iload_n 3, 1, (0, 0, 0))] = true ∧ plen 54 [(.pop, 1, (0, 0, 0)), (.aload_n 0, 1, (0, 0, 0)), (.aload_n 0, 1, (0, 0, 0)), (.getfield 36, 3, (0, 1, 0)), (.iload_n 1, 1, (0, 0, 0)), (.iload_n 3, 1, (0, 0, 0))] = 62 := by decide +kernel
theorem ok_X0_compile_65_3 : oks m_X0_compile.1 m_X0_compile.2.2.1 65 [(.iconst 0, 1, (0, 0, 0)), (.iload_n 2, 1, (0, 0, 0)), (.iconst 0, 1, (0, 0, 0))] = true ∧ plen 65 [(.iconst 0, 1, (0, 0, 0)), (.iload_n 2, 1, (0, 0, 0)), (.iconst 0, 1, (0, 0, 0))] = 68 := by decide +kernel
theorem ok_X0_compile_71_2 : oks m_X0_compile.1 m_X0_compile.2.2.1 71 [(.istore_n 2, 1, (0, 0, 0)), (.iinc 3 1, 3, (0, 0, 0))] = true ∧ plen 71 [(.istore_n 2, 1, (0, 0, 0)), (.iinc 3 1, 3, (0, 0, 0))] = 75 := by decide +kernel
theorem ok_X0_compile_78_4 : oks m_X0_compile.1 m_X0_compile.2.2.1 78 [(.aload_n 0, 1, (0, 0, 0)), (.getfield 36, 3, (0, 1, 0)), (.iload_n 1, 1, (0, 0, 0)), (.iconst 4, 1, (0, 0, 0))] = true ∧ plen 78 [(.aload_n 0, 1, (0, 0, 0)), (.getfield 36, 3, (0, 1, 0)), (.iload_n 1, 1, (0, 0, 0)), (.iconst 4, 1, (0, 0, 0))] = 84 := by decide +kernel
theorem ok_X0_compile_87_1 : oks m_X0_compile.1 m_X0_compile.2.2.1 87 [(.iconst (-1), 1, (0, 0, 0))] = true ∧ plen 87 [(.iconst (-1), 1, (0, 0, 0))] = 88 := by decide +kernel
theorem ok_X0_compile_91_6 : oks m_X0_compile.1 m_X0_compile.2.2.1 91 [(.aload_n 0, 1, (0, 0, 0)), (.bipush 9, 2, (0, 0, 0)), (.iconst 0, 1, (0, 0, 0)), (.iload_n 1, 1, (0, 0, 0)), (.iconst 0, 1, (0, 0, 0)), (.iload_n 2, 1, (0, 0, 0))] = true ∧ plen 91 [(.aload_n 0, 1, (0, 0, 0)), (.bipush 9, 2, (0, 0, 0)), (.iconst 0, 1, (0, 0, 0)), (.iload_n 1, 1, (0, 0, 0)), (.iconst 0, 1, (0, 0, 0)), (.iload_n 2, 1, (0, 0, 0))] = 98 := by decide +kernel
theorem ok_X0_compile_101_1 : oks m_X0_compile.1 m_X0_compile.2.2.1 101 [(.istore_n 2, 1, (0, 0, 0))] = true ∧ plen 101 [(.istore_n 2, 1, (0, 0, 0))] = 102 := by decide +kernel
theorem ok_X0_compile_102_6 : oks m_X0_compile.1 m_X0_compile.2.2.1 102 [(.aload_n 0, 1, (0, 0, 0)), (.bipush 10, 2, (0, 0, 0)), (.iconst 0, 1, (0, 0, 0)), (.iload_n 1, 1, (0, 0, 0)), (.iconst 0, 1, (0, 0, 0)), (.iconst (-1), 1, (0, 0, 0))] = true ∧ plen 102 [(.aload_n 0, 1, (0, 0, 0)), (.bipush 10, 2, (0, 0, 0)), (.iconst 0, 1, (0, 0, 0)), (.iload_n 1, 1, (0, 0, 0)), (.iconst 0, 1, (0, 0, 0)), (.iconst (-1), 1, (0, 0, 0))] = 109 := by decide +kernel
theorem ok_X0_compile_112_3 : oks m_X0_compile.1 m_X0_compile.2.2.1 112 [(.pop, 1, (0, 0, 0)), (.aload_n 0, 1, (0, 0, 0)), (.iload_n 2, 1, (0, 0, 0))] = true ∧ plen 112 [(.pop, 1, (0, 0, 0)), (.aload_n 0, 1, (0, 0, 0)), (.iload_n 2, 1, (0, 0, 0))] = 115 := by decide +kernel
theorem ok_X0_compile_118_1 : oks m_X0_compile.1 m_X0_compile.2.2.1 118 [(.iinc 1 1, 3, (0, 0, 0))] = true ∧ plen 118 [(.iinc 1 1, 3, (0, 0, 0))] = 121 := by decide +kernel
theorem ok_X0_compile_124_6 : oks m_X0_compile.1 m_X0_compile.2.2.1 124 [(.aload_n 0, 1, (0, 0, 0)), (.bipush 11, 2, (0, 0, 0)), (.iconst 0, 1, (0, 0, 0)), (.iconst 0, 1, (0, 0, 0)), (.iconst 0, 1, (0, 0, 0)), (.iconst (-1), 1, (0, 0, 0))] = true ∧ plen 124 [(.aload_n 0, 1, (0, 0, 0)), (.bipush 11, 2, (0, 0, 0)), (.iconst 0, 1, (0, 0, 0)), (.iconst 0, 1, (0, 0, 0)), (.iconst 0, 1, (0, 0, 0)), (.iconst (-1), 1, (0, 0, 0))] = 131 := by decide +kernel
theorem ok_X0_compile_134_1 : oks m_X0_compile.1 m_X0_compile.2.2.1 134 [(.pop, 1, (0, 0, 0))] = true ∧ plen 134 [(.pop, 1, (0, 0, 0))] = 135 := by decide +kernel
def L_X0_compile_32 (x1 : Int) (x2 : Int) (x3 : Int) (σ : Sg) : Option ((Int × Int × Sg) ⊕ (Int × Sg)) :=
if (F_X4_columns σ) ≤ x3 then
some (.inr (x2, σ))
else
bnd (F_X0_write 1 0 (wrap (x3 + 1)) 0 (-1) σ) fun q5 =>
(F_X0_writePattern 50 (F_X4_get x1 x3 q5.2) 0 x2 0 q5.2).bind fun q7 =>
some (.inl (q7.1, wrap (x3 + 1), q7.2))
def B_X0_compile_102 (x1 : Int) (x2 : Int) (σ : Sg) : Option ((Int × Sg) ⊕ Sg) :=
bnd (F_X0_write 10 0 x1 0 (-1) σ) fun q11 =>
(F_X0_land x2 q11.2).bind fun q13 =>
some (.inl (wrap (x1 + 1), q13))
def L_X0_compile_7 (x1 : Int) (σ : Sg) : Option ((Int × Sg) ⊕ Sg) :=
if (F_X4_count σ) ≤ x1 then
some (.inr σ)
else
bnd (F_X0_write 0 0 x1 0 (-1) σ) fun q3 =>
(iter (fun a : (Int × Int × Sg) => L_X0_compile_32 x1 a.1 a.2.1 a.2.2) 3000 ((-1), 0, q3.2)).bind fun y9 =>
if (F_X4_get x1 4 y9.2) = (-1) then
B_X0_compile_102 x1 y9.1 y9.2
else
bnd (F_X0_write 9 0 x1 0 y9.1 y9.2) fun q15 =>
B_X0_compile_102 x1 q15.1 q15.2
def F_X0_compile (σ : Sg) : Option Sg :=
bnd (up2 σ 33 4 0) fun s1 =>
(iter (fun a : (Int × Sg) => L_X0_compile_7 a.1 a.2) 3000 (0, s1)).bind fun y17 =>
bnd (F_X0_write 11 0 0 0 (-1) y17) fun q19 =>
some q19.2
theorem lk_X0_compile (l : Launch) (d : Nat) (hd : 157 ≤ d) (σ : Sg) (q : Sg) (h : F_X0_compile σ = some q) : CT l d m_X0_compile.2.1 m_X0_compile.2.2.1 m_X0_compile.2.2.2.1 m_X0_compile.2.2.2.2 [.inr 33] (LAYC, σ) none (LAYC, q) := by
  obtain ⟨d, rfl⟩ : ∃ e, d = e + 1 := ⟨d - 1, by omega⟩
  have key : Go l m_X0_compile (d + 1) LAYC (.inl none) q 0 [some (.inr 33), none, none, none] [] σ := by
    unfold F_X0_compile at h
    have hL_X0_compile_7 : ∀ (n : Nat) (a : (Int × Sg)) (y : Sg), iter (fun a : (Int × Sg) => L_X0_compile_7 a.1 a.2) n a = some y → (fun y : Sg => Go l m_X0_compile (d + 1) LAYC (.inl none) q 124 [some (.inr 33), none, none, none] [] y) y → (fun a : (Int × Sg) => Go l m_X0_compile (d + 1) LAYC (.inl none) q 7 [some (.inr 33), some (.inl a.1), none, none] [] a.2) a := by
      skip
      refine go_iter (G := fun a : (Int × Sg) => Go l m_X0_compile (d + 1) LAYC (.inl none) q 7 [some (.inr 33), some (.inl a.1), none, none] [] a.2) (K := fun y : Sg => Go l m_X0_compile (d + 1) LAYC (.inl none) q 124 [some (.inr 33), none, none, none] [] y) ?_
      rintro ⟨x1, σ⟩ w h hK
      replace h : L_X0_compile_7 x1 σ = some w := h
      show Go l m_X0_compile (d + 1) LAYC (.inl none) q 7 [some (.inr 33), some (.inl x1), none, none] [] σ
      unfold L_X0_compile_7 at h
      have hL_X0_compile_32 : ∀ (x1 : Int) (n : Nat) (a : (Int × Int × Sg)) (y : (Int × Sg)), iter (fun a : (Int × Int × Sg) => L_X0_compile_32 x1 a.1 a.2.1 a.2.2) n a = some y → (fun y : (Int × Sg) => Go l m_X0_compile (d + 1) LAYC (.inl none) q 78 [some (.inr 33), some (.inl x1), some (.inl y.1), none] [] y.2) y → (fun a : (Int × Int × Sg) => Go l m_X0_compile (d + 1) LAYC (.inl none) q 32 [some (.inr 33), some (.inl x1), some (.inl a.1), some (.inl a.2.1)] [] a.2.2) a := by
        intro x1
        refine go_iter (G := fun a : (Int × Int × Sg) => Go l m_X0_compile (d + 1) LAYC (.inl none) q 32 [some (.inr 33), some (.inl x1), some (.inl a.1), some (.inl a.2.1)] [] a.2.2) (K := fun y : (Int × Sg) => Go l m_X0_compile (d + 1) LAYC (.inl none) q 78 [some (.inr 33), some (.inl x1), some (.inl y.1), none] [] y.2) ?_
        rintro ⟨x2, x3, σ⟩ w h hK
        replace h : L_X0_compile_32 x1 x2 x3 σ = some w := h
        show Go l m_X0_compile (d + 1) LAYC (.inl none) q 32 [some (.inr 33), some (.inl x1), some (.inl x2), some (.inl x3)] [] σ
        unfold L_X0_compile_32 at h
        refine go_ops ok_X0_compile_32_3 (L' := [some (.inr 33), some (.inl x1), some (.inl x2), some (.inl x3)]) (st' := [.inr 24, .inl x3]) (σ1 := σ) rfl ?_
        refine go_V (M1 := m_X4_columns) (as := []) (st := [.inl x3]) (k := 24) (ci := 4) dc_X0_compile_37 ln_0_114 im_X4_columns (by decide) rfl rfl mk_X4_columns rfl (Nat.le_of_ble_eq_true rfl) (Nat.le_refl _) (v := (some (.inl (F_X4_columns σ)))) (σ1 := σ) (lk_X4_columns l d (by omega) σ _ rfl) _ rfl ?_
        refine go_icmp_ge dc_X0_compile_40 (by rfl) (fun hc => ?_) (fun hc => ?_)
        · replace h := (if_pos hc).symm.trans h
          cases h
          refine go_wk (L' := [some (.inr 33), some (.inl x1), some (.inl x2), none]) ⟨rfl, rfl, rfl, trivial⟩ ?_
          exact hK
        · replace h := (if_neg hc).symm.trans h
          refine go_ops ok_X0_compile_43_8 (L' := [some (.inr 33), some (.inl x1), some (.inl x2), some (.inl x3)]) (st' := [.inl (-1), .inl 0, .inl (wrap (x3 + 1)), .inl 0, .inl 1, .inr 33]) (σ1 := σ) rfl ?_
          obtain ⟨q5, e6, h⟩ := bnd_inv h
          refine go_V (M1 := m_X0_write) (as := [.inl 1, .inl 0, .inl (wrap (x3 + 1)), .inl 0, .inl (-1)]) (st := []) (k := 33) (ci := 0) dc_X0_compile_51 ln_0_110 im_X0_write (by decide) rfl rfl mk_X0_write rfl (Nat.le_of_ble_eq_true rfl) (Nat.le_refl _) (v := (some (.inl q5.1))) (σ1 := q5.2) (lk_X0_write l d (by omega) 1 0 (wrap (x3 + 1)) 0 (-1) σ q5 e6.symm) _ rfl ?_
          refine go_ops ok_X0_compile_54_6 (L' := [some (.inr 33), some (.inl x1), some (.inl x2), some (.inl x3)]) (st' := [.inl x3, .inl x1, .inr 24, .inr 33]) (σ1 := q5.2) rfl ?_
          refine go_V (M1 := m_X4_get) (as := [.inl x1, .inl x3]) (st := [.inr 33]) (k := 24) (ci := 4) dc_X0_compile_62 ln_0_117 im_X4_get (by decide) rfl rfl mk_X4_get rfl (Nat.le_of_ble_eq_true rfl) (Nat.le_refl _) (v := (some (.inl (F_X4_get x1 x3 q5.2)))) (σ1 := q5.2) (lk_X4_get l d (by omega) x1 x3 q5.2 _ rfl) _ rfl ?_
          refine go_ops ok_X0_compile_65_3 (L' := [some (.inr 33), some (.inl x1), some (.inl x2), some (.inl x3)]) (st' := [.inl 0, .inl x2, .inl 0, .inl (F_X4_get x1 x3 q5.2), .inr 33]) (σ1 := q5.2) rfl ?_
          obtain ⟨q7, e8, h⟩ := bind_inv h
          refine go_V (M1 := m_X0_writePattern) (as := [.inl (F_X4_get x1 x3 q5.2), .inl 0, .inl x2, .inl 0]) (st := []) (k := 33) (ci := 0) dc_X0_compile_68 ln_0_120 im_X0_writePattern (by decide) rfl rfl mk_X0_writePattern rfl (Nat.le_of_ble_eq_true rfl) (Nat.le_refl _) (v := (some (.inl q7.1))) (σ1 := q7.2) (lkr_X0_writePattern l 50 d (by omega) (F_X4_get x1 x3 q5.2) 0 x2 0 q5.2 q7 e8) _ rfl ?_
          refine go_ops ok_X0_compile_71_2 (L' := [some (.inr 33), some (.inl x1), some (.inl q7.1), some (.inl (wrap (x3 + 1)))]) (st' := []) (σ1 := q7.2) rfl ?_
          refine go_goto dc_X0_compile_75 (by rfl) ?_
          cases h
          exact hK
      have hB_X0_compile_102 : ∀ (x1 : Int) (x2 : Int) (σ : Sg), B_X0_compile_102 x1 x2 σ = some w → Go l m_X0_compile (d + 1) LAYC (.inl none) q 102 [some (.inr 33), some (.inl x1), some (.inl x2), none] [] σ := by
        intro x1 x2 σ h
        unfold B_X0_compile_102 at h
        refine go_ops ok_X0_compile_102_6 (L' := [some (.inr 33), some (.inl x1), some (.inl x2), none]) (st' := [.inl (-1), .inl 0, .inl x1, .inl 0, .inl 10, .inr 33]) (σ1 := σ) rfl ?_
        obtain ⟨q11, e12, h⟩ := bnd_inv h
        refine go_V (M1 := m_X0_write) (as := [.inl 10, .inl 0, .inl x1, .inl 0, .inl (-1)]) (st := []) (k := 33) (ci := 0) dc_X0_compile_109 ln_0_110 im_X0_write (by decide) rfl rfl mk_X0_write rfl (Nat.le_of_ble_eq_true rfl) (Nat.le_refl _) (v := (some (.inl q11.1))) (σ1 := q11.2) (lk_X0_write l d (by omega) 10 0 x1 0 (-1) σ q11 e12.symm) _ rfl ?_
        refine go_ops ok_X0_compile_112_3 (L' := [some (.inr 33), some (.inl x1), some (.inl x2), none]) (st' := [.inl x2, .inr 33]) (σ1 := q11.2) rfl ?_
        obtain ⟨q13, e14, h⟩ := bind_inv h
        refine go_V (M1 := m_X0_land) (as := [.inl x2]) (st := []) (k := 33) (ci := 0) dc_X0_compile_115 ln_0_124 im_X0_land (by decide) rfl rfl mk_X0_land rfl (Nat.le_of_ble_eq_true rfl) (Nat.le_refl _) (v := none) (σ1 := q13) (lk_X0_land l d (by omega) x2 q11.2 q13 e14) _ rfl ?_
        refine go_ops ok_X0_compile_118_1 (L' := [some (.inr 33), some (.inl (wrap (x1 + 1))), some (.inl x2), none]) (st' := []) (σ1 := q13) rfl ?_
        refine go_goto dc_X0_compile_121 (by rfl) ?_
        cases h
        refine go_wk (L' := [some (.inr 33), some (.inl (wrap (x1 + 1))), none, none]) ⟨rfl, rfl, trivial⟩ ?_
        exact hK
      refine go_ops ok_X0_compile_7_3 (L' := [some (.inr 33), some (.inl x1), none, none]) (st' := [.inr 24, .inl x1]) (σ1 := σ) rfl ?_
      refine go_V (M1 := m_X4_count) (as := []) (st := [.inl x1]) (k := 24) (ci := 4) dc_X0_compile_12 ln_0_106 im_X4_count (by decide) rfl rfl mk_X4_count rfl (Nat.le_of_ble_eq_true rfl) (Nat.le_refl _) (v := (some (.inl (F_X4_count σ)))) (σ1 := σ) (lk_X4_count l d (by omega) σ _ rfl) _ rfl ?_
      refine go_icmp_ge dc_X0_compile_15 (by rfl) (fun hc => ?_) (fun hc => ?_)
      · replace h := (if_pos hc).symm.trans h
        cases h
        refine go_wk (L' := [some (.inr 33), none, none, none]) ⟨rfl, trivial⟩ ?_
        exact hK
      · replace h := (if_neg hc).symm.trans h
        refine go_ops ok_X0_compile_18_6 (L' := [some (.inr 33), some (.inl x1), none, none]) (st' := [.inl (-1), .inl 0, .inl x1, .inl 0, .inl 0, .inr 33]) (σ1 := σ) rfl ?_
        obtain ⟨q3, e4, h⟩ := bnd_inv h
        refine go_V (M1 := m_X0_write) (as := [.inl 0, .inl 0, .inl x1, .inl 0, .inl (-1)]) (st := []) (k := 33) (ci := 0) dc_X0_compile_24 ln_0_110 im_X0_write (by decide) rfl rfl mk_X0_write rfl (Nat.le_of_ble_eq_true rfl) (Nat.le_refl _) (v := (some (.inl q3.1))) (σ1 := q3.2) (lk_X0_write l d (by omega) 0 0 x1 0 (-1) σ q3 e4.symm) _ rfl ?_
        refine go_ops ok_X0_compile_27_5 (L' := [some (.inr 33), some (.inl x1), some (.inl (-1)), some (.inl 0)]) (st' := []) (σ1 := q3.2) rfl ?_
        obtain ⟨y9, e10, h⟩ := bind_inv h
        refine hL_X0_compile_32 x1 3000 ((-1), 0, q3.2) y9 e10 ?_
        show Go l m_X0_compile (d + 1) LAYC (.inl none) q 78 [some (.inr 33), some (.inl x1), some (.inl y9.1), none] [] y9.2
        refine go_ops ok_X0_compile_78_4 (L' := [some (.inr 33), some (.inl x1), some (.inl y9.1), none]) (st' := [.inl 4, .inl x1, .inr 24]) (σ1 := y9.2) rfl ?_
        refine go_V (M1 := m_X4_get) (as := [.inl x1, .inl 4]) (st := []) (k := 24) (ci := 4) dc_X0_compile_84 ln_0_117 im_X4_get (by decide) rfl rfl mk_X4_get rfl (Nat.le_of_ble_eq_true rfl) (Nat.le_refl _) (v := (some (.inl (F_X4_get x1 4 y9.2)))) (σ1 := y9.2) (lk_X4_get l d (by omega) x1 4 y9.2 _ rfl) _ rfl ?_
        refine go_ops ok_X0_compile_87_1 (L' := [some (.inr 33), some (.inl x1), some (.inl y9.1), none]) (st' := [.inl (-1), .inl (F_X4_get x1 4 y9.2)]) (σ1 := y9.2) rfl ?_
        refine go_icmp_eq dc_X0_compile_88 (by rfl) (fun hc => ?_) (fun hc => ?_)
        · replace h := (if_pos hc).symm.trans h
          exact hB_X0_compile_102 x1 y9.1 y9.2 h
        · replace h := (if_neg hc).symm.trans h
          refine go_ops ok_X0_compile_91_6 (L' := [some (.inr 33), some (.inl x1), some (.inl y9.1), none]) (st' := [.inl y9.1, .inl 0, .inl x1, .inl 0, .inl 9, .inr 33]) (σ1 := y9.2) rfl ?_
          obtain ⟨q15, e16, h⟩ := bnd_inv h
          refine go_V (M1 := m_X0_write) (as := [.inl 9, .inl 0, .inl x1, .inl 0, .inl y9.1]) (st := []) (k := 33) (ci := 0) dc_X0_compile_98 ln_0_110 im_X0_write (by decide) rfl rfl mk_X0_write rfl (Nat.le_of_ble_eq_true rfl) (Nat.le_refl _) (v := (some (.inl q15.1))) (σ1 := q15.2) (lk_X0_write l d (by omega) 9 0 x1 0 y9.1 y9.2 q15 e16.symm) _ rfl ?_
          refine go_ops ok_X0_compile_101_1 (L' := [some (.inr 33), some (.inl x1), some (.inl q15.1), none]) (st' := []) (σ1 := q15.2) rfl ?_
          exact hB_X0_compile_102 x1 q15.1 q15.2 h
    obtain ⟨s1, e2, h⟩ := bnd_inv h
    refine go_ops ok_X0_compile_0_5 (L' := [some (.inr 33), some (.inl 0), none, none]) (st' := []) (σ1 := s1) (by subst e2; rfl) ?_
    obtain ⟨y17, e18, h⟩ := bind_inv h
    refine hL_X0_compile_7  3000 (0, s1) y17 e18 ?_
    show Go l m_X0_compile (d + 1) LAYC (.inl none) q 124 [some (.inr 33), none, none, none] [] y17
    refine go_ops ok_X0_compile_124_6 (L' := [some (.inr 33), none, none, none]) (st' := [.inl (-1), .inl 0, .inl 0, .inl 0, .inl 11, .inr 33]) (σ1 := y17) rfl ?_
    obtain ⟨q19, e20, h⟩ := bnd_inv h
    refine go_V (M1 := m_X0_write) (as := [.inl 11, .inl 0, .inl 0, .inl 0, .inl (-1)]) (st := []) (k := 33) (ci := 0) dc_X0_compile_131 ln_0_110 im_X0_write (by decide) rfl rfl mk_X0_write rfl (Nat.le_of_ble_eq_true rfl) (Nat.le_refl _) (v := (some (.inl q19.1))) (σ1 := q19.2) (lk_X0_write l d (by omega) 11 0 0 0 (-1) y17 q19 e20.symm) _ rfl ?_
    refine go_ops ok_X0_compile_134_1 (L' := [some (.inr 33), none, none, none]) (st' := []) (σ1 := q19.2) rfl ?_
    have h9 := Option.some.inj h
    subst h9
    exact go_vret dc_X0_compile_135 rfl
  have hf := go_ct (as := [.inr 33]) mk_X0_compile (by rfl) (Nat.le_of_ble_eq_true rfl) key
  exact hf
theorem dc_X0_numberIn_5 : decode m_X0_numberIn.2.2.1 5 = .ok (.invokestatic 67, 3) := by decide +kernel
theorem dc_X0_numberIn_14 : decode m_X0_numberIn.2.2.1 14 = .ok (.ireturn, 1) := by decide +kernel
theorem ok_X0_numberIn_0_3 : oks m_X0_numberIn.1 m_X0_numberIn.2.2.1 0 [(.aload_n 0, 1, (0, 0, 0)), (.getfield 22, 3, (0, 6, 0)), (.iload_n 1, 1, (0, 0, 0))] = true ∧ plen 0 [(.aload_n 0, 1, (0, 0, 0)), (.getfield 22, 3, (0, 6, 0)), (.iload_n 1, 1, (0, 0, 0))] = 5 := by decide +kernel
theorem ok_X0_numberIn_8_4 : oks m_X0_numberIn.1 m_X0_numberIn.2.2.1 8 [(.iload_n 2, 1, (0, 0, 0)), (.ishr, 1, (0, 0, 0)), (.sipush 255, 3, (0, 0, 0)), (.iand, 1, (0, 0, 0))] = true ∧ plen 8 [(.iload_n 2, 1, (0, 0, 0)), (.ishr, 1, (0, 0, 0)), (.sipush 255, 3, (0, 0, 0)), (.iand, 1, (0, 0, 0))] = 14 := by decide +kernel
def F_X0_numberIn (a1 : Int) (a2 : Int) (σ : Sg) : Int :=
jand (jshr (rdD (-1) σ 34 1969 a1) a2) 255
theorem lk_X0_numberIn (l : Launch) (d : Nat) (hd : 1 ≤ d) (a1 : Int) (a2 : Int) (σ : Sg) (q : Int) (h : F_X0_numberIn a1 a2 σ = q) : CT l d m_X0_numberIn.2.1 m_X0_numberIn.2.2.1 m_X0_numberIn.2.2.2.1 m_X0_numberIn.2.2.2.2 [.inr 33, .inl a1, .inl a2] (LAYC, σ) (some (.inl q)) (LAYC, σ) := by
  obtain ⟨d, rfl⟩ : ∃ e, d = e + 1 := ⟨d - 1, by omega⟩
  have key : Go l m_X0_numberIn (d + 1) LAYC (.inl (some (.inl q))) σ 0 [some (.inr 33), some (.inl a1), some (.inl a2)] [] σ := by
    unfold F_X0_numberIn at h
    refine go_ops ok_X0_numberIn_0_3 (L' := [some (.inr 33), some (.inl a1), some (.inl a2)]) (st' := [.inl a1, .inr 34]) (σ1 := σ) rfl ?_
    refine go_SN (M1 := m_X10_at) (as := [.inr 34, .inl a1]) (st := []) dc_X0_numberIn_5 ln_0_67 sm_X10_at mk_X10_at rfl (Nat.le_of_ble_eq_true rfl) (Nat.le_refl _) (v := some (.inl (rdD (-1) σ 34 1969 a1))) (σ1 := σ) (lk_X10_at l d LAYC 34 1969 rfl σ _) _ rfl ?_
    refine go_ops ok_X0_numberIn_8_4 (L' := [some (.inr 33), some (.inl a1), some (.inl a2)]) (st' := [.inl (jand (jshr (rdD (-1) σ 34 1969 a1) a2) 255)]) (σ1 := σ) rfl ?_
    subst h
    exact go_iret dc_X0_numberIn_14 rfl
  have hf := go_ct (as := [.inr 33, .inl a1, .inl a2]) mk_X0_numberIn (by rfl) (Nat.le_of_ble_eq_true rfl) key
  exact hf
theorem dc_X0_operationIn_5 : decode m_X0_operationIn.2.2.1 5 = .ok (.invokestatic 67, 3) := by decide +kernel
theorem dc_X0_operationIn_11 : decode m_X0_operationIn.2.2.1 11 = .ok (.ireturn, 1) := by decide +kernel
theorem ok_X0_operationIn_0_3 : oks m_X0_operationIn.1 m_X0_operationIn.2.2.1 0 [(.aload_n 0, 1, (0, 0, 0)), (.getfield 22, 3, (0, 6, 0)), (.iload_n 1, 1, (0, 0, 0))] = true ∧ plen 0 [(.aload_n 0, 1, (0, 0, 0)), (.getfield 22, 3, (0, 6, 0)), (.iload_n 1, 1, (0, 0, 0))] = 5 := by decide +kernel
theorem ok_X0_operationIn_8_2 : oks m_X0_operationIn.1 m_X0_operationIn.2.2.1 8 [(.bipush 15, 2, (0, 0, 0)), (.iand, 1, (0, 0, 0))] = true ∧ plen 8 [(.bipush 15, 2, (0, 0, 0)), (.iand, 1, (0, 0, 0))] = 11 := by decide +kernel
def F_X0_operationIn (a1 : Int) (σ : Sg) : Int :=
jand (rdD (-1) σ 34 1969 a1) 15
theorem lk_X0_operationIn (l : Launch) (d : Nat) (hd : 1 ≤ d) (a1 : Int) (σ : Sg) (q : Int) (h : F_X0_operationIn a1 σ = q) : CT l d m_X0_operationIn.2.1 m_X0_operationIn.2.2.1 m_X0_operationIn.2.2.2.1 m_X0_operationIn.2.2.2.2 [.inr 33, .inl a1] (LAYC, σ) (some (.inl q)) (LAYC, σ) := by
  obtain ⟨d, rfl⟩ : ∃ e, d = e + 1 := ⟨d - 1, by omega⟩
  have key : Go l m_X0_operationIn (d + 1) LAYC (.inl (some (.inl q))) σ 0 [some (.inr 33), some (.inl a1)] [] σ := by
    unfold F_X0_operationIn at h
    refine go_ops ok_X0_operationIn_0_3 (L' := [some (.inr 33), some (.inl a1)]) (st' := [.inl a1, .inr 34]) (σ1 := σ) rfl ?_
    refine go_SN (M1 := m_X10_at) (as := [.inr 34, .inl a1]) (st := []) dc_X0_operationIn_5 ln_0_67 sm_X10_at mk_X10_at rfl (Nat.le_of_ble_eq_true rfl) (Nat.le_refl _) (v := some (.inl (rdD (-1) σ 34 1969 a1))) (σ1 := σ) (lk_X10_at l d LAYC 34 1969 rfl σ _) _ rfl ?_
    refine go_ops ok_X0_operationIn_8_2 (L' := [some (.inr 33), some (.inl a1)]) (st' := [.inl (jand (rdD (-1) σ 34 1969 a1) 15)]) (σ1 := σ) rfl ?_
    subst h
    exact go_iret dc_X0_operationIn_11 rfl
  have hf := go_ct (as := [.inr 33, .inl a1]) mk_X0_operationIn (by rfl) (Nat.le_of_ble_eq_true rfl) key
  exact hf
theorem dc_X4_set_2 : decode m_X4_set.2.2.1 2 = .ok (.invokevirtual 33, 3) := by decide +kernel
theorem dc_X4_set_5 : decode m_X4_set.2.2.1 5 = .ok (.ifCond .eq 27, 3) := by decide +kernel
theorem dc_X4_set_12 : decode m_X4_set.2.2.1 12 = .ok (.invokestatic 25, 3) := by decide +kernel
theorem dc_X4_set_15 : decode m_X4_set.2.2.1 15 = .ok (.ifCond .eq 17, 3) := by decide +kernel
theorem dc_X4_set_29 : decode m_X4_set.2.2.1 29 = .ok (.invokestatic 37, 3) := by decide +kernel
theorem dc_X4_set_32 : decode m_X4_set.2.2.1 32 = .ok (.return_, 1) := by decide +kernel
theorem ok_X4_set_0_2 : oks m_X4_set.1 m_X4_set.2.2.1 0 [(.aload_n 0, 1, (0, 0, 0)), (.iload_n 1, 1, (0, 0, 0))] = true ∧ plen 0 [(.aload_n 0, 1, (0, 0, 0)), (.iload_n 1, 1, (0, 0, 0))] = 2 := by decide +kernel
theorem ok_X4_set_8_3 : oks m_X4_set.1 m_X4_set.2.2.1 8 [(.iload_n 2, 1, (0, 0, 0)), (.iconst 0, 1, (0, 0, 0)), (.bipush 7, 2, (0, 0, 0))] = true ∧ plen 8 [(.iload_n 2, 1, (0, 0, 0)), (.iconst 0, 1, (0, 0, 0)), (.bipush 7, 2, (0, 0, 0))] = 12 := by decide +kernel
theorem ok_X4_set_18_8 : oks m_X4_set.1 m_X4_set.2.2.1 18 [(.aload_n 0, 1, (0, 0, 0)), (.getfield 22, 3, (4, 3, 0)), (.iload_n 1, 1, (0, 0, 0)), (.bipush 8, 2, (0, 0, 0)), (.imul, 1, (0, 0, 0)), (.iload_n 2, 1, (0, 0, 0)), (.iadd, 1, (0, 0, 0)), (.iload_n 3, 1, (0, 0, 0))] = true ∧ plen 18 [(.aload_n 0, 1, (0, 0, 0)), (.getfield 22, 3, (4, 3, 0)), (.iload_n 1, 1, (0, 0, 0)), (.bipush 8, 2, (0, 0, 0)), (.imul, 1, (0, 0, 0)), (.iload_n 2, 1, (0, 0, 0)), (.iadd, 1, (0, 0, 0)), (.iload_n 3, 1, (0, 0, 0))] = 29 := by decide +kernel
def F_X4_set (a1 : Int) (a2 : Int) (a3 : Int) (σ : Sg) : Sg :=
if (F_X4_has a1 σ) = true then
if (F_X10_isIn a2 0 7) = true then
bnd (wrD σ 26 64 (wrap ((wrap (a1 * 8)) + a2)) a3) fun s1 =>
s1
else
σ
else
σ
theorem lk_X4_set (l : Launch) (d : Nat) (hd : 1 ≤ d) (a1 : Int) (a2 : Int) (a3 : Int) (σ : Sg) (q : Sg) (h : F_X4_set a1 a2 a3 σ = q) : CT l d m_X4_set.2.1 m_X4_set.2.2.1 m_X4_set.2.2.2.1 m_X4_set.2.2.2.2 [.inr 24, .inl a1, .inl a2, .inl a3] (LAYC, σ) none (LAYC, q) := by
  obtain ⟨d, rfl⟩ : ∃ e, d = e + 1 := ⟨d - 1, by omega⟩
  have key : Go l m_X4_set (d + 1) LAYC (.inl none) q 0 [some (.inr 24), some (.inl a1), some (.inl a2), some (.inl a3)] [] σ := by
    unfold F_X4_set at h
    refine go_ops ok_X4_set_0_2 (L' := [some (.inr 24), some (.inl a1), some (.inl a2), some (.inl a3)]) (st' := [.inl a1, .inr 24]) (σ1 := σ) rfl ?_
    refine go_V (M1 := m_X4_has) (as := [.inl a1]) (st := []) (k := 24) (ci := 4) dc_X4_set_2 ln_4_33 im_X4_has (by decide) rfl rfl mk_X4_has rfl (Nat.le_of_ble_eq_true rfl) (Nat.le_refl _) (v := (some (.inl (b2i (F_X4_has a1 σ))))) (σ1 := σ) (lk_X4_has l d (by omega) a1 σ _ rfl) _ rfl ?_
    refine go_ifb_eq dc_X4_set_5 (by rfl) (fun hc => ?_) (fun hc => ?_)
    · replace h := (if_neg hc).symm.trans h
      subst h
      exact go_vret dc_X4_set_32 rfl
    · replace h := (if_pos hc).symm.trans h
      refine go_ops ok_X4_set_8_3 (L' := [some (.inr 24), some (.inl a1), some (.inl a2), some (.inl a3)]) (st' := [.inl 7, .inl 0, .inl a2]) (σ1 := σ) rfl ?_
      refine go_SN (M1 := m_X10_isIn) (as := [.inl a2, .inl 0, .inl 7]) (st := []) dc_X4_set_12 ln_4_25 sm_X10_isIn mk_X10_isIn rfl (Nat.le_of_ble_eq_true rfl) (Nat.le_refl _) (v := (some (.inl (b2i (F_X10_isIn a2 0 7))))) (σ1 := σ) (lk_X10_isIn l d (by omega) a2 0 7 σ _ rfl) _ rfl ?_
      refine go_ifb_eq dc_X4_set_15 (by rfl) (fun hc => ?_) (fun hc => ?_)
      · replace h := (if_neg hc).symm.trans h
        subst h
        exact go_vret dc_X4_set_32 rfl
      · replace h := (if_pos hc).symm.trans h
        refine go_ops ok_X4_set_18_8 (L' := [some (.inr 24), some (.inl a1), some (.inl a2), some (.inl a3)]) (st' := [.inl a3, .inl (wrap ((wrap (a1 * 8)) + a2)), .inr 26]) (σ1 := σ) rfl ?_
        obtain ⟨s1, e2, h⟩ := bnd_inv h
        refine go_SN (M1 := m_X10_put) (as := [.inr 26, .inl (wrap ((wrap (a1 * 8)) + a2)), .inl a3]) (st := []) dc_X4_set_29 ln_4_37 sm_X10_put mk_X10_put rfl (Nat.le_of_ble_eq_true rfl) (Nat.le_refl _) (v := none) (σ1 := s1) (lk_X10_put l d LAYC 26 64 rfl _ _ s1 e2) _ rfl ?_
        subst h
        exact go_vret dc_X4_set_32 rfl
  have hf := go_ct (as := [.inr 24, .inl a1, .inl a2, .inl a3]) mk_X4_set (by rfl) (Nat.le_of_ble_eq_true rfl) key
  exact hf
theorem dc_X1_take_14 : decode m_X1_take.2.2.1 14 = .ok (.invokevirtual 96, 3) := by decide +kernel
theorem dc_X1_take_19 : decode m_X1_take.2.2.1 19 = .ok (.invokevirtual 105, 3) := by decide +kernel
theorem dc_X1_take_28 : decode m_X1_take.2.2.1 28 = .ok (.invokevirtual 96, 3) := by decide +kernel
theorem dc_X1_take_31 : decode m_X1_take.2.2.1 31 = .ok (.ireturn, 1) := by decide +kernel
theorem ok_X1_take_0_8 : oks m_X1_take.1 m_X1_take.2.2.1 0 [(.aload_n 0, 1, (0, 0, 0)), (.getfield 39, 3, (1, 2, 0)), (.iload_n 1, 1, (0, 0, 0)), (.bipush 7, 2, (0, 0, 0)), (.aload_n 0, 1, (0, 0, 0)), (.getfield 39, 3, (1, 2, 0)), (.iload_n 1, 1, (0, 0, 0)), (.bipush 7, 2, (0, 0, 0))] = true ∧ plen 0 [(.aload_n 0, 1, (0, 0, 0)), (.getfield 39, 3, (1, 2, 0)), (.iload_n 1, 1, (0, 0, 0)), (.bipush 7, 2, (0, 0, 0)), (.aload_n 0, 1, (0, 0, 0)), (.getfield 39, 3, (1, 2, 0)), (.iload_n 1, 1, (0, 0, 0)), (.bipush 7, 2, (0, 0, 0))] = 14 := by decide +kernel
theorem ok_X1_take_17_2 : oks m_X1_take.1 m_X1_take.2.2.1 17 [(.iconst 1, 1, (0, 0, 0)), (.iadd, 1, (0, 0, 0))] = true ∧ plen 17 [(.iconst 1, 1, (0, 0, 0)), (.iadd, 1, (0, 0, 0))] = 19 := by decide +kernel
theorem ok_X1_take_22_4 : oks m_X1_take.1 m_X1_take.2.2.1 22 [(.aload_n 0, 1, (0, 0, 0)), (.getfield 39, 3, (1, 2, 0)), (.iload_n 1, 1, (0, 0, 0)), (.iconst 3, 1, (0, 0, 0))] = true ∧ plen 22 [(.aload_n 0, 1, (0, 0, 0)), (.getfield 39, 3, (1, 2, 0)), (.iload_n 1, 1, (0, 0, 0)), (.iconst 3, 1, (0, 0, 0))] = 28 := by decide +kernel
def F_X1_take (a1 : Int) (σ : Sg) : (Int × Sg) :=
bnd (F_X4_set a1 7 (wrap ((F_X4_get a1 7 σ) + 1)) σ) fun q1 =>
(F_X4_get a1 3 q1, q1)
theorem lk_X1_take (l : Launch) (d : Nat) (hd : 2 ≤ d) (a1 : Int) (σ : Sg) (q : (Int × Sg)) (h : F_X1_take a1 σ = q) : CT l d m_X1_take.2.1 m_X1_take.2.2.1 m_X1_take.2.2.2.1 m_X1_take.2.2.2.2 [.inr 27, .inl a1] (LAYC, σ) (some (.inl q.1)) (LAYC, q.2) := by
  obtain ⟨d, rfl⟩ : ∃ e, d = e + 1 := ⟨d - 1, by omega⟩
  have key : Go l m_X1_take (d + 1) LAYC (.inl (some (.inl q.1))) q.2 0 [some (.inr 27), some (.inl a1)] [] σ := by
    unfold F_X1_take at h
    refine go_ops ok_X1_take_0_8 (L' := [some (.inr 27), some (.inl a1)]) (st' := [.inl 7, .inl a1, .inr 24, .inl 7, .inl a1, .inr 24]) (σ1 := σ) rfl ?_
    refine go_V (M1 := m_X4_get) (as := [.inl a1, .inl 7]) (st := [.inl 7, .inl a1, .inr 24]) (k := 24) (ci := 4) dc_X1_take_14 ln_1_96 im_X4_get (by decide) rfl rfl mk_X4_get rfl (Nat.le_of_ble_eq_true rfl) (Nat.le_refl _) (v := (some (.inl (F_X4_get a1 7 σ)))) (σ1 := σ) (lk_X4_get l d (by omega) a1 7 σ _ rfl) _ rfl ?_
    refine go_ops ok_X1_take_17_2 (L' := [some (.inr 27), some (.inl a1)]) (st' := [.inl (wrap ((F_X4_get a1 7 σ) + 1)), .inl 7, .inl a1, .inr 24]) (σ1 := σ) rfl ?_
    obtain ⟨q1, e2, h⟩ := bnd_inv h
    refine go_V (M1 := m_X4_set) (as := [.inl a1, .inl 7, .inl (wrap ((F_X4_get a1 7 σ) + 1))]) (st := []) (k := 24) (ci := 4) dc_X1_take_19 ln_1_105 im_X4_set (by decide) rfl rfl mk_X4_set rfl (Nat.le_of_ble_eq_true rfl) (Nat.le_refl _) (v := none) (σ1 := q1) (lk_X4_set l d (by omega) a1 7 (wrap ((F_X4_get a1 7 σ) + 1)) σ q1 e2.symm) _ rfl ?_
    refine go_ops ok_X1_take_22_4 (L' := [some (.inr 27), some (.inl a1)]) (st' := [.inl 3, .inl a1, .inr 24]) (σ1 := q1) rfl ?_
    refine go_V (M1 := m_X4_get) (as := [.inl a1, .inl 3]) (st := []) (k := 24) (ci := 4) dc_X1_take_28 ln_1_96 im_X4_get (by decide) rfl rfl mk_X4_get rfl (Nat.le_of_ble_eq_true rfl) (Nat.le_refl _) (v := (some (.inl (F_X4_get a1 3 q1)))) (σ1 := q1) (lk_X4_get l d (by omega) a1 3 q1 _ rfl) _ rfl ?_
    subst h
    exact go_iret dc_X1_take_31 rfl
  have hf := go_ct (as := [.inr 27, .inl a1]) mk_X1_take (by rfl) (Nat.le_of_ble_eq_true rfl) key
  exact hf
theorem dc_X1_unbind_5 : decode m_X1_unbind.2.2.1 5 = .ok (.invokestatic 43, 3) := by decide +kernel
theorem dc_X1_unbind_8 : decode m_X1_unbind.2.2.1 8 = .ok (.return_, 1) := by decide +kernel
theorem ok_X1_unbind_0_3 : oks m_X1_unbind.1 m_X1_unbind.2.2.1 0 [(.aload_n 0, 1, (0, 0, 0)), (.getfield 28, 3, (1, 8, 0)), (.iconst (-1), 1, (0, 0, 0))] = true ∧ plen 0 [(.aload_n 0, 1, (0, 0, 0)), (.getfield 28, 3, (1, 8, 0)), (.iconst (-1), 1, (0, 0, 0))] = 5 := by decide +kernel
def F_X1_unbind (σ : Sg) : Sg :=
bnd (fillF σ 31 6 (-1)) fun s1 =>
s1
theorem lk_X1_unbind (l : Launch) (d : Nat) (hd : 1 ≤ d) (σ : Sg) (q : Sg) (h : F_X1_unbind σ = q) : CT l d m_X1_unbind.2.1 m_X1_unbind.2.2.1 m_X1_unbind.2.2.2.1 m_X1_unbind.2.2.2.2 [.inr 27] (LAYC, σ) none (LAYC, q) := by
  obtain ⟨d, rfl⟩ : ∃ e, d = e + 1 := ⟨d - 1, by omega⟩
  have key : Go l m_X1_unbind (d + 1) LAYC (.inl none) q 0 [some (.inr 27)] [] σ := by
    unfold F_X1_unbind at h
    refine go_ops ok_X1_unbind_0_3 (L' := [some (.inr 27)]) (st' := [.inl (-1), .inr 31]) (σ1 := σ) rfl ?_
    obtain ⟨s1, e2, h⟩ := bnd_inv h
    refine go_S (M1 := m_J7_fill_53178) (as := [.inr 31, .inl (-1)]) (st := []) dc_X1_unbind_5 ln_1_43 sm_J7_fill_53178 mk_J7_fill_53178 rfl (Nat.le_of_ble_eq_true rfl) (Nat.le_refl _) (v := none) (σ1 := s1) (lk_J7_fill_53178 l d LAYC 31 6 rfl _ s1 e2) _ rfl ?_
    subst h
    exact go_vret dc_X1_unbind_8 rfl
  have hf := go_ct (as := [.inr 27]) mk_X1_unbind (by rfl) (Nat.le_of_ble_eq_true rfl) key
  exact hf
theorem dc_X1_miss_1 : decode m_X1_miss.2.2.1 1 = .ok (.invokevirtual 49, 3) := by decide +kernel
theorem dc_X1_miss_5 : decode m_X1_miss.2.2.1 5 = .ok (.ireturn, 1) := by decide +kernel
theorem ok_X1_miss_0_1 : oks m_X1_miss.1 m_X1_miss.2.2.1 0 [(.aload_n 0, 1, (0, 0, 0))] = true ∧ plen 0 [(.aload_n 0, 1, (0, 0, 0))] = 1 := by decide +kernel
theorem ok_X1_miss_4_1 : oks m_X1_miss.1 m_X1_miss.2.2.1 4 [(.iconst (-1), 1, (0, 0, 0))] = true ∧ plen 4 [(.iconst (-1), 1, (0, 0, 0))] = 5 := by decide +kernel
def F_X1_miss (σ : Sg) : (Int × Sg) :=
bnd (F_X1_unbind σ) fun q1 =>
((-1), q1)
theorem lk_X1_miss (l : Launch) (d : Nat) (hd : 2 ≤ d) (σ : Sg) (q : (Int × Sg)) (h : F_X1_miss σ = q) : CT l d m_X1_miss.2.1 m_X1_miss.2.2.1 m_X1_miss.2.2.2.1 m_X1_miss.2.2.2.2 [.inr 27] (LAYC, σ) (some (.inl q.1)) (LAYC, q.2) := by
  obtain ⟨d, rfl⟩ : ∃ e, d = e + 1 := ⟨d - 1, by omega⟩
  have key : Go l m_X1_miss (d + 1) LAYC (.inl (some (.inl q.1))) q.2 0 [some (.inr 27)] [] σ := by
    unfold F_X1_miss at h
    refine go_ops ok_X1_miss_0_1 (L' := [some (.inr 27)]) (st' := [.inr 27]) (σ1 := σ) rfl ?_
    obtain ⟨q1, e2, h⟩ := bnd_inv h
    refine go_V (M1 := m_X1_unbind) (as := []) (st := []) (k := 27) (ci := 1) dc_X1_miss_1 ln_1_49 im_X1_unbind (by decide) rfl rfl mk_X1_unbind rfl (Nat.le_of_ble_eq_true rfl) (Nat.le_refl _) (v := none) (σ1 := q1) (lk_X1_unbind l d (by omega) σ q1 e2.symm) _ rfl ?_
    refine go_ops ok_X1_miss_4_1 (L' := [some (.inr 27)]) (st' := [.inl (-1)]) (σ1 := q1) rfl ?_
    subst h
    exact go_iret dc_X1_miss_5 rfl
  have hf := go_ct (as := [.inr 27]) mk_X1_miss (by rfl) (Nat.le_of_ble_eq_true rfl) key
  exact hf
theorem dc_X1_placeOf_5 : decode m_X1_placeOf.2.2.1 5 = .ok (.invokestatic 59, 3) := by decide +kernel
theorem dc_X1_placeOf_8 : decode m_X1_placeOf.2.2.1 8 = .ok (.ireturn, 1) := by decide +kernel
theorem ok_X1_placeOf_0_3 : oks m_X1_placeOf.1 m_X1_placeOf.2.2.1 0 [(.aload_n 0, 1, (0, 0, 0)), (.getfield 28, 3, (1, 8, 0)), (.iload_n 1, 1, (0, 0, 0))] = true ∧ plen 0 [(.aload_n 0, 1, (0, 0, 0)), (.getfield 28, 3, (1, 8, 0)), (.iload_n 1, 1, (0, 0, 0))] = 5 := by decide +kernel
def F_X1_placeOf (a1 : Int) (σ : Sg) : Int :=
rdD (-1) σ 31 6 a1
theorem lk_X1_placeOf (l : Launch) (d : Nat) (hd : 1 ≤ d) (a1 : Int) (σ : Sg) (q : Int) (h : F_X1_placeOf a1 σ = q) : CT l d m_X1_placeOf.2.1 m_X1_placeOf.2.2.1 m_X1_placeOf.2.2.2.1 m_X1_placeOf.2.2.2.2 [.inr 27, .inl a1] (LAYC, σ) (some (.inl q)) (LAYC, σ) := by
  obtain ⟨d, rfl⟩ : ∃ e, d = e + 1 := ⟨d - 1, by omega⟩
  have key : Go l m_X1_placeOf (d + 1) LAYC (.inl (some (.inl q))) σ 0 [some (.inr 27), some (.inl a1)] [] σ := by
    unfold F_X1_placeOf at h
    refine go_ops ok_X1_placeOf_0_3 (L' := [some (.inr 27), some (.inl a1)]) (st' := [.inl a1, .inr 31]) (σ1 := σ) rfl ?_
    refine go_SN (M1 := m_X10_at) (as := [.inr 31, .inl a1]) (st := []) dc_X1_placeOf_5 ln_1_59 sm_X10_at mk_X10_at rfl (Nat.le_of_ble_eq_true rfl) (Nat.le_refl _) (v := some (.inl (rdD (-1) σ 31 6 a1))) (σ1 := σ) (lk_X10_at l d LAYC 31 6 rfl σ _) _ rfl ?_
    subst h
    exact go_iret dc_X1_placeOf_8 rfl
  have hf := go_ct (as := [.inr 27, .inl a1]) mk_X1_placeOf (by rfl) (Nat.le_of_ble_eq_true rfl) key
  exact hf
theorem dc_X8_headOf_5 : decode m_X8_headOf.2.2.1 5 = .ok (.invokestatic 42, 3) := by decide +kernel
theorem dc_X8_headOf_8 : decode m_X8_headOf.2.2.1 8 = .ok (.ireturn, 1) := by decide +kernel
theorem ok_X8_headOf_0_3 : oks m_X8_headOf.1 m_X8_headOf.2.2.1 0 [(.aload_n 0, 1, (0, 0, 0)), (.getfield 19, 3, (8, 2, 0)), (.iload_n 1, 1, (0, 0, 0))] = true ∧ plen 0 [(.aload_n 0, 1, (0, 0, 0)), (.getfield 19, 3, (8, 2, 0)), (.iload_n 1, 1, (0, 0, 0))] = 5 := by decide +kernel
def F_X8_headOf (a1 : Int) (σ : Sg) : Int :=
rdD (-1) σ 7 50 a1
theorem lk_X8_headOf (l : Launch) (d : Nat) (hd : 1 ≤ d) (a1 : Int) (σ : Sg) (q : Int) (h : F_X8_headOf a1 σ = q) : CT l d m_X8_headOf.2.1 m_X8_headOf.2.2.1 m_X8_headOf.2.2.2.1 m_X8_headOf.2.2.2.2 [.inr 5, .inl a1] (LAYC, σ) (some (.inl q)) (LAYC, σ) := by
  obtain ⟨d, rfl⟩ : ∃ e, d = e + 1 := ⟨d - 1, by omega⟩
  have key : Go l m_X8_headOf (d + 1) LAYC (.inl (some (.inl q))) σ 0 [some (.inr 5), some (.inl a1)] [] σ := by
    unfold F_X8_headOf at h
    refine go_ops ok_X8_headOf_0_3 (L' := [some (.inr 5), some (.inl a1)]) (st' := [.inl a1, .inr 7]) (σ1 := σ) rfl ?_
    refine go_SN (M1 := m_X10_at) (as := [.inr 7, .inl a1]) (st := []) dc_X8_headOf_5 ln_8_42 sm_X10_at mk_X10_at rfl (Nat.le_of_ble_eq_true rfl) (Nat.le_refl _) (v := some (.inl (rdD (-1) σ 7 50 a1))) (σ1 := σ) (lk_X10_at l d LAYC 7 50 rfl σ _) _ rfl ?_
    subst h
    exact go_iret dc_X8_headOf_8 rfl
  have hf := go_ct (as := [.inr 5, .inl a1]) mk_X8_headOf (by rfl) (Nat.le_of_ble_eq_true rfl) key
  exact hf
theorem dc_X1_headAt_9 : decode m_X1_headAt.2.2.1 9 = .ok (.invokestatic 59, 3) := by decide +kernel
theorem dc_X1_headAt_12 : decode m_X1_headAt.2.2.1 12 = .ok (.invokevirtual 63, 3) := by decide +kernel
theorem dc_X1_headAt_15 : decode m_X1_headAt.2.2.1 15 = .ok (.ireturn, 1) := by decide +kernel
theorem ok_X1_headAt_0_5 : oks m_X1_headAt.1 m_X1_headAt.2.2.1 0 [(.aload_n 0, 1, (0, 0, 0)), (.getfield 31, 3, (1, 0, 0)), (.aload_n 0, 1, (0, 0, 0)), (.getfield 18, 3, (1, 5, 0)), (.iload_n 1, 1, (0, 0, 0))] = true ∧ plen 0 [(.aload_n 0, 1, (0, 0, 0)), (.getfield 31, 3, (1, 0, 0)), (.aload_n 0, 1, (0, 0, 0)), (.getfield 18, 3, (1, 5, 0)), (.iload_n 1, 1, (0, 0, 0))] = 9 := by decide +kernel
def F_X1_headAt (a1 : Int) (σ : Sg) : Int :=
F_X8_headOf (rdD (-1) σ 28 469 a1) σ
theorem lk_X1_headAt (l : Launch) (d : Nat) (hd : 2 ≤ d) (a1 : Int) (σ : Sg) (q : Int) (h : F_X1_headAt a1 σ = q) : CT l d m_X1_headAt.2.1 m_X1_headAt.2.2.1 m_X1_headAt.2.2.2.1 m_X1_headAt.2.2.2.2 [.inr 27, .inl a1] (LAYC, σ) (some (.inl q)) (LAYC, σ) := by
  obtain ⟨d, rfl⟩ : ∃ e, d = e + 1 := ⟨d - 1, by omega⟩
  have key : Go l m_X1_headAt (d + 1) LAYC (.inl (some (.inl q))) σ 0 [some (.inr 27), some (.inl a1)] [] σ := by
    unfold F_X1_headAt at h
    refine go_ops ok_X1_headAt_0_5 (L' := [some (.inr 27), some (.inl a1)]) (st' := [.inl a1, .inr 28, .inr 5]) (σ1 := σ) rfl ?_
    refine go_SN (M1 := m_X10_at) (as := [.inr 28, .inl a1]) (st := [.inr 5]) dc_X1_headAt_9 ln_1_59 sm_X10_at mk_X10_at rfl (Nat.le_of_ble_eq_true rfl) (Nat.le_refl _) (v := some (.inl (rdD (-1) σ 28 469 a1))) (σ1 := σ) (lk_X10_at l d LAYC 28 469 rfl σ _) _ rfl ?_
    refine go_V (M1 := m_X8_headOf) (as := [.inl (rdD (-1) σ 28 469 a1)]) (st := []) (k := 5) (ci := 8) dc_X1_headAt_12 ln_1_63 im_X8_headOf (by decide) rfl rfl mk_X8_headOf rfl (Nat.le_of_ble_eq_true rfl) (Nat.le_refl _) (v := (some (.inl (F_X8_headOf (rdD (-1) σ 28 469 a1) σ)))) (σ1 := σ) (lk_X8_headOf l d (by omega) (rdD (-1) σ 28 469 a1) σ _ rfl) _ rfl ?_
    subst h
    exact go_iret dc_X1_headAt_15 rfl
  have hf := go_ct (as := [.inr 27, .inl a1]) mk_X1_headAt (by rfl) (Nat.le_of_ble_eq_true rfl) key
  exact hf
theorem dc_X1_guardOf_8 : decode m_X1_guardOf.2.2.1 8 = .ok (.invokevirtual 96, 3) := by decide +kernel
theorem dc_X1_guardOf_11 : decode m_X1_guardOf.2.2.1 11 = .ok (.invokevirtual 99, 3) := by decide +kernel
theorem dc_X1_guardOf_14 : decode m_X1_guardOf.2.2.1 14 = .ok (.invokevirtual 102, 3) := by decide +kernel
theorem dc_X1_guardOf_25 : decode m_X1_guardOf.2.2.1 25 = .ok (.invokevirtual 96, 3) := by decide +kernel
theorem dc_X1_guardOf_35 : decode m_X1_guardOf.2.2.1 35 = .ok (.invokevirtual 96, 3) := by decide +kernel
theorem dc_X1_guardOf_38 : decode m_X1_guardOf.2.2.1 38 = .ok (.tableswitch 74 0 3 #[30, 41, 52, 63], 30) := by decide +kernel
theorem dc_X1_guardOf_70 : decode m_X1_guardOf.2.2.1 70 = .ok (.if_icmp .ge 7, 3) := by decide +kernel
theorem dc_X1_guardOf_74 : decode m_X1_guardOf.2.2.1 74 = .ok (.goto 4, 3) := by decide +kernel
theorem dc_X1_guardOf_78 : decode m_X1_guardOf.2.2.1 78 = .ok (.ireturn, 1) := by decide +kernel
theorem dc_X1_guardOf_81 : decode m_X1_guardOf.2.2.1 81 = .ok (.if_icmp .ne 7, 3) := by decide +kernel
theorem dc_X1_guardOf_85 : decode m_X1_guardOf.2.2.1 85 = .ok (.goto 4, 3) := by decide +kernel
theorem dc_X1_guardOf_89 : decode m_X1_guardOf.2.2.1 89 = .ok (.ireturn, 1) := by decide +kernel
theorem dc_X1_guardOf_92 : decode m_X1_guardOf.2.2.1 92 = .ok (.if_icmp .le 7, 3) := by decide +kernel
theorem dc_X1_guardOf_96 : decode m_X1_guardOf.2.2.1 96 = .ok (.goto 4, 3) := by decide +kernel
theorem dc_X1_guardOf_100 : decode m_X1_guardOf.2.2.1 100 = .ok (.ireturn, 1) := by decide +kernel
theorem dc_X1_guardOf_103 : decode m_X1_guardOf.2.2.1 103 = .ok (.if_icmp .ne 7, 3) := by decide +kernel
theorem dc_X1_guardOf_107 : decode m_X1_guardOf.2.2.1 107 = .ok (.goto 4, 3) := by decide +kernel
theorem dc_X1_guardOf_111 : decode m_X1_guardOf.2.2.1 111 = .ok (.ireturn, 1) := by decide +kernel
theorem dc_X1_guardOf_113 : decode m_X1_guardOf.2.2.1 113 = .ok (.ireturn, 1) := by decide +kernel
theorem ok_X1_guardOf_0_6 : oks m_X1_guardOf.1 m_X1_guardOf.2.2.1 0 [(.aload_n 0, 1, (0, 0, 0)), (.aload_n 0, 1, (0, 0, 0)), (.aload_n 0, 1, (0, 0, 0)), (.getfield 39, 3, (1, 2, 0)), (.iload_n 1, 1, (0, 0, 0)), (.iconst 5, 1, (0, 0, 0))] = true ∧ plen 0 [(.aload_n 0, 1, (0, 0, 0)), (.aload_n 0, 1, (0, 0, 0)), (.aload_n 0, 1, (0, 0, 0)), (.getfield 39, 3, (1, 2, 0)), (.iload_n 1, 1, (0, 0, 0)), (.iconst 5, 1, (0, 0, 0))] = 8 := by decide +kernel
theorem ok_X1_guardOf_17_5 : oks m_X1_guardOf.1 m_X1_guardOf.2.2.1 17 [(.istore_n 2, 1, (0, 0, 0)), (.aload_n 0, 1, (0, 0, 0)), (.getfield 39, 3, (1, 2, 0)), (.iload_n 1, 1, (0, 0, 0)), (.bipush 6, 2, (0, 0, 0))] = true ∧ plen 17 [(.istore_n 2, 1, (0, 0, 0)), (.aload_n 0, 1, (0, 0, 0)), (.getfield 39, 3, (1, 2, 0)), (.iload_n 1, 1, (0, 0, 0)), (.bipush 6, 2, (0, 0, 0))] = 25 := by decide +kernel
theorem ok_X1_guardOf_28_5 : oks m_X1_guardOf.1 m_X1_guardOf.2.2.1 28 [(.istore_n 3, 1, (0, 0, 0)), (.aload_n 0, 1, (0, 0, 0)), (.getfield 39, 3, (1, 2, 0)), (.iload_n 1, 1, (0, 0, 0)), (.iconst 4, 1, (0, 0, 0))] = true ∧ plen 28 [(.istore_n 3, 1, (0, 0, 0)), (.aload_n 0, 1, (0, 0, 0)), (.getfield 39, 3, (1, 2, 0)), (.iload_n 1, 1, (0, 0, 0)), (.iconst 4, 1, (0, 0, 0))] = 35 := by decide +kernel
theorem ok_X1_guardOf_68_2 : oks m_X1_guardOf.1 m_X1_guardOf.2.2.1 68 [(.iload_n 2, 1, (0, 0, 0)), (.iload_n 3, 1, (0, 0, 0))] = true ∧ plen 68 [(.iload_n 2, 1, (0, 0, 0)), (.iload_n 3, 1, (0, 0, 0))] = 70 := by decide +kernel
theorem ok_X1_guardOf_73_1 : oks m_X1_guardOf.1 m_X1_guardOf.2.2.1 73 [(.iconst 0, 1, (0, 0, 0))] = true ∧ plen 73 [(.iconst 0, 1, (0, 0, 0))] = 74 := by decide +kernel
theorem ok_X1_guardOf_77_1 : oks m_X1_guardOf.1 m_X1_guardOf.2.2.1 77 [(.iconst 1, 1, (0, 0, 0))] = true ∧ plen 77 [(.iconst 1, 1, (0, 0, 0))] = 78 := by decide +kernel
theorem ok_X1_guardOf_79_2 : oks m_X1_guardOf.1 m_X1_guardOf.2.2.1 79 [(.iload_n 2, 1, (0, 0, 0)), (.iload_n 3, 1, (0, 0, 0))] = true ∧ plen 79 [(.iload_n 2, 1, (0, 0, 0)), (.iload_n 3, 1, (0, 0, 0))] = 81 := by decide +kernel
theorem ok_X1_guardOf_84_1 : oks m_X1_guardOf.1 m_X1_guardOf.2.2.1 84 [(.iconst 0, 1, (0, 0, 0))] = true ∧ plen 84 [(.iconst 0, 1, (0, 0, 0))] = 85 := by decide +kernel
theorem ok_X1_guardOf_88_1 : oks m_X1_guardOf.1 m_X1_guardOf.2.2.1 88 [(.iconst 1, 1, (0, 0, 0))] = true ∧ plen 88 [(.iconst 1, 1, (0, 0, 0))] = 89 := by decide +kernel
theorem ok_X1_guardOf_90_2 : oks m_X1_guardOf.1 m_X1_guardOf.2.2.1 90 [(.iload_n 2, 1, (0, 0, 0)), (.iload_n 3, 1, (0, 0, 0))] = true ∧ plen 90 [(.iload_n 2, 1, (0, 0, 0)), (.iload_n 3, 1, (0, 0, 0))] = 92 := by decide +kernel
theorem ok_X1_guardOf_95_1 : oks m_X1_guardOf.1 m_X1_guardOf.2.2.1 95 [(.iconst 0, 1, (0, 0, 0))] = true ∧ plen 95 [(.iconst 0, 1, (0, 0, 0))] = 96 := by decide +kernel
theorem ok_X1_guardOf_99_1 : oks m_X1_guardOf.1 m_X1_guardOf.2.2.1 99 [(.iconst 1, 1, (0, 0, 0))] = true ∧ plen 99 [(.iconst 1, 1, (0, 0, 0))] = 100 := by decide +kernel
theorem ok_X1_guardOf_101_2 : oks m_X1_guardOf.1 m_X1_guardOf.2.2.1 101 [(.iload_n 2, 1, (0, 0, 0)), (.iload_n 3, 1, (0, 0, 0))] = true ∧ plen 101 [(.iload_n 2, 1, (0, 0, 0)), (.iload_n 3, 1, (0, 0, 0))] = 103 := by decide +kernel
theorem ok_X1_guardOf_106_1 : oks m_X1_guardOf.1 m_X1_guardOf.2.2.1 106 [(.iconst 2, 1, (0, 0, 0))] = true ∧ plen 106 [(.iconst 2, 1, (0, 0, 0))] = 107 := by decide +kernel
theorem ok_X1_guardOf_110_1 : oks m_X1_guardOf.1 m_X1_guardOf.2.2.1 110 [(.iconst 0, 1, (0, 0, 0))] = true ∧ plen 110 [(.iconst 0, 1, (0, 0, 0))] = 111 := by decide +kernel
theorem ok_X1_guardOf_112_1 : oks m_X1_guardOf.1 m_X1_guardOf.2.2.1 112 [(.iconst 0, 1, (0, 0, 0))] = true ∧ plen 112 [(.iconst 0, 1, (0, 0, 0))] = 113 := by decide +kernel
def F_X1_guardOf (a1 : Int) (σ : Sg) : Int :=
bnd (F_X1_headAt (F_X1_placeOf (F_X4_get a1 5 σ) σ) σ) fun v1 =>
bnd (F_X4_get a1 6 σ) fun v3 =>
if (F_X4_get a1 4 σ) = 0 then
if v3 ≤ v1 then
1
else
0
else if (F_X4_get a1 4 σ) = 1 then
if v1 = v3 then
0
else
1
else if (F_X4_get a1 4 σ) = 2 then
if v1 ≤ v3 then
1
else
0
else if (F_X4_get a1 4 σ) = 3 then
if v1 = v3 then
2
else
0
else 0
theorem lk_X1_guardOf (l : Launch) (d : Nat) (hd : 3 ≤ d) (a1 : Int) (σ : Sg) (q : Int) (h : F_X1_guardOf a1 σ = q) : CT l d m_X1_guardOf.2.1 m_X1_guardOf.2.2.1 m_X1_guardOf.2.2.2.1 m_X1_guardOf.2.2.2.2 [.inr 27, .inl a1] (LAYC, σ) (some (.inl q)) (LAYC, σ) := by
  obtain ⟨d, rfl⟩ : ∃ e, d = e + 1 := ⟨d - 1, by omega⟩
  have key : Go l m_X1_guardOf (d + 1) LAYC (.inl (some (.inl q))) σ 0 [some (.inr 27), some (.inl a1), none, none] [] σ := by
    unfold F_X1_guardOf at h
    refine go_ops ok_X1_guardOf_0_6 (L' := [some (.inr 27), some (.inl a1), none, none]) (st' := [.inl 5, .inl a1, .inr 24, .inr 27, .inr 27]) (σ1 := σ) rfl ?_
    refine go_V (M1 := m_X4_get) (as := [.inl a1, .inl 5]) (st := [.inr 27, .inr 27]) (k := 24) (ci := 4) dc_X1_guardOf_8 ln_1_96 im_X4_get (by decide) rfl rfl mk_X4_get rfl (Nat.le_of_ble_eq_true rfl) (Nat.le_refl _) (v := (some (.inl (F_X4_get a1 5 σ)))) (σ1 := σ) (lk_X4_get l d (by omega) a1 5 σ _ rfl) _ rfl ?_
    refine go_V (M1 := m_X1_placeOf) (as := [.inl (F_X4_get a1 5 σ)]) (st := [.inr 27]) (k := 27) (ci := 1) dc_X1_guardOf_11 ln_1_99 im_X1_placeOf (by decide) rfl rfl mk_X1_placeOf rfl (Nat.le_of_ble_eq_true rfl) (Nat.le_refl _) (v := (some (.inl (F_X1_placeOf (F_X4_get a1 5 σ) σ)))) (σ1 := σ) (lk_X1_placeOf l d (by omega) (F_X4_get a1 5 σ) σ _ rfl) _ rfl ?_
    refine go_V (M1 := m_X1_headAt) (as := [.inl (F_X1_placeOf (F_X4_get a1 5 σ) σ)]) (st := []) (k := 27) (ci := 1) dc_X1_guardOf_14 ln_1_102 im_X1_headAt (by decide) rfl rfl mk_X1_headAt rfl (Nat.le_of_ble_eq_true rfl) (Nat.le_refl _) (v := (some (.inl (F_X1_headAt (F_X1_placeOf (F_X4_get a1 5 σ) σ) σ)))) (σ1 := σ) (lk_X1_headAt l d (by omega) (F_X1_placeOf (F_X4_get a1 5 σ) σ) σ _ rfl) _ rfl ?_
    obtain ⟨v1, e2, h⟩ := bnd_inv h
    refine go_ops ok_X1_guardOf_17_5 (L' := [some (.inr 27), some (.inl a1), some (.inl v1), none]) (st' := [.inl 6, .inl a1, .inr 24]) (σ1 := σ) (by subst e2; rfl) ?_
    refine go_V (M1 := m_X4_get) (as := [.inl a1, .inl 6]) (st := []) (k := 24) (ci := 4) dc_X1_guardOf_25 ln_1_96 im_X4_get (by decide) rfl rfl mk_X4_get rfl (Nat.le_of_ble_eq_true rfl) (Nat.le_refl _) (v := (some (.inl (F_X4_get a1 6 σ)))) (σ1 := σ) (lk_X4_get l d (by omega) a1 6 σ _ rfl) _ rfl ?_
    obtain ⟨v3, e4, h⟩ := bnd_inv h
    refine go_ops ok_X1_guardOf_28_5 (L' := [some (.inr 27), some (.inl a1), some (.inl v1), some (.inl v3)]) (st' := [.inl 4, .inl a1, .inr 24]) (σ1 := σ) (by subst e4; rfl) ?_
    refine go_V (M1 := m_X4_get) (as := [.inl a1, .inl 4]) (st := []) (k := 24) (ci := 4) dc_X1_guardOf_35 ln_1_96 im_X4_get (by decide) rfl rfl mk_X4_get rfl (Nat.le_of_ble_eq_true rfl) (Nat.le_refl _) (v := (some (.inl (F_X4_get a1 4 σ)))) (σ1 := σ) (lk_X4_get l d (by omega) a1 4 σ _ rfl) _ rfl ?_
    rcases Decidable.em ((F_X4_get a1 4 σ) = 0) with hs5 | hs5
    · replace h := (if_pos hs5).symm.trans h
      refine go_tsw (off := 30) dc_X1_guardOf_38 (by decide) (by decide) (tsk hs5 (by decide +kernel)) (by rfl) ?_
      refine go_ops ok_X1_guardOf_68_2 (L' := [some (.inr 27), some (.inl a1), some (.inl v1), some (.inl v3)]) (st' := [.inl v3, .inl v1]) (σ1 := σ) rfl ?_
      refine go_icmp_ge dc_X1_guardOf_70 (by rfl) (fun hc => ?_) (fun hc => ?_)
      · replace h := (if_pos hc).symm.trans h
        refine go_ops ok_X1_guardOf_77_1 (L' := [some (.inr 27), some (.inl a1), some (.inl v1), some (.inl v3)]) (st' := [.inl 1]) (σ1 := σ) rfl ?_
        subst h
        exact go_iret dc_X1_guardOf_78 rfl
      · replace h := (if_neg hc).symm.trans h
        refine go_ops ok_X1_guardOf_73_1 (L' := [some (.inr 27), some (.inl a1), some (.inl v1), some (.inl v3)]) (st' := [.inl 0]) (σ1 := σ) rfl ?_
        refine go_goto dc_X1_guardOf_74 (by rfl) ?_
        subst h
        exact go_iret dc_X1_guardOf_78 rfl
    replace h := (if_neg hs5).symm.trans h
    rcases Decidable.em ((F_X4_get a1 4 σ) = 1) with hs6 | hs6
    · replace h := (if_pos hs6).symm.trans h
      refine go_tsw (off := 41) dc_X1_guardOf_38 (by decide) (by decide) (tsk hs6 (by decide +kernel)) (by rfl) ?_
      refine go_ops ok_X1_guardOf_79_2 (L' := [some (.inr 27), some (.inl a1), some (.inl v1), some (.inl v3)]) (st' := [.inl v3, .inl v1]) (σ1 := σ) rfl ?_
      refine go_icmp_ne dc_X1_guardOf_81 (by rfl) (fun hc => ?_) (fun hc => ?_)
      · replace h := (if_neg hc).symm.trans h
        refine go_ops ok_X1_guardOf_88_1 (L' := [some (.inr 27), some (.inl a1), some (.inl v1), some (.inl v3)]) (st' := [.inl 1]) (σ1 := σ) rfl ?_
        subst h
        exact go_iret dc_X1_guardOf_89 rfl
      · replace h := (if_pos hc).symm.trans h
        refine go_ops ok_X1_guardOf_84_1 (L' := [some (.inr 27), some (.inl a1), some (.inl v1), some (.inl v3)]) (st' := [.inl 0]) (σ1 := σ) rfl ?_
        refine go_goto dc_X1_guardOf_85 (by rfl) ?_
        subst h
        exact go_iret dc_X1_guardOf_89 rfl
    replace h := (if_neg hs6).symm.trans h
    rcases Decidable.em ((F_X4_get a1 4 σ) = 2) with hs7 | hs7
    · replace h := (if_pos hs7).symm.trans h
      refine go_tsw (off := 52) dc_X1_guardOf_38 (by decide) (by decide) (tsk hs7 (by decide +kernel)) (by rfl) ?_
      refine go_ops ok_X1_guardOf_90_2 (L' := [some (.inr 27), some (.inl a1), some (.inl v1), some (.inl v3)]) (st' := [.inl v3, .inl v1]) (σ1 := σ) rfl ?_
      refine go_icmp_le dc_X1_guardOf_92 (by rfl) (fun hc => ?_) (fun hc => ?_)
      · replace h := (if_pos hc).symm.trans h
        refine go_ops ok_X1_guardOf_99_1 (L' := [some (.inr 27), some (.inl a1), some (.inl v1), some (.inl v3)]) (st' := [.inl 1]) (σ1 := σ) rfl ?_
        subst h
        exact go_iret dc_X1_guardOf_100 rfl
      · replace h := (if_neg hc).symm.trans h
        refine go_ops ok_X1_guardOf_95_1 (L' := [some (.inr 27), some (.inl a1), some (.inl v1), some (.inl v3)]) (st' := [.inl 0]) (σ1 := σ) rfl ?_
        refine go_goto dc_X1_guardOf_96 (by rfl) ?_
        subst h
        exact go_iret dc_X1_guardOf_100 rfl
    replace h := (if_neg hs7).symm.trans h
    rcases Decidable.em ((F_X4_get a1 4 σ) = 3) with hs8 | hs8
    · replace h := (if_pos hs8).symm.trans h
      refine go_tsw (off := 63) dc_X1_guardOf_38 (by decide) (by decide) (tsk hs8 (by decide +kernel)) (by rfl) ?_
      refine go_ops ok_X1_guardOf_101_2 (L' := [some (.inr 27), some (.inl a1), some (.inl v1), some (.inl v3)]) (st' := [.inl v3, .inl v1]) (σ1 := σ) rfl ?_
      refine go_icmp_ne dc_X1_guardOf_103 (by rfl) (fun hc => ?_) (fun hc => ?_)
      · replace h := (if_neg hc).symm.trans h
        refine go_ops ok_X1_guardOf_110_1 (L' := [some (.inr 27), some (.inl a1), some (.inl v1), some (.inl v3)]) (st' := [.inl 0]) (σ1 := σ) rfl ?_
        subst h
        exact go_iret dc_X1_guardOf_111 rfl
      · replace h := (if_pos hc).symm.trans h
        refine go_ops ok_X1_guardOf_106_1 (L' := [some (.inr 27), some (.inl a1), some (.inl v1), some (.inl v3)]) (st' := [.inl 2]) (σ1 := σ) rfl ?_
        refine go_goto dc_X1_guardOf_107 (by rfl) ?_
        subst h
        exact go_iret dc_X1_guardOf_111 rfl
    replace h := (if_neg hs8).symm.trans h
    refine go_tsw (off := 74) dc_X1_guardOf_38 (by decide) (by decide) (ts_d [0, 1, 2, 3] (nn1 hs5 (nn1 hs6 (nn1 hs7 (nn1 hs8 nn0)))) (by decide +kernel)) (by rfl) ?_
    refine go_ops ok_X1_guardOf_112_1 (L' := [some (.inr 27), some (.inl a1), some (.inl v1), some (.inl v3)]) (st' := [.inl 0]) (σ1 := σ) rfl ?_
    subst h
    exact go_iret dc_X1_guardOf_113 rfl
  have hf := go_ct (as := [.inr 27, .inl a1]) mk_X1_guardOf (by rfl) (Nat.le_of_ble_eq_true rfl) key
  exact hf
theorem dc_X10_inner_7 : decode m_X10_inner.2.2.1 7 = .ok (.ireturn, 1) := by decide +kernel
theorem ok_X10_inner_0_7 : oks m_X10_inner.1 m_X10_inner.2.2.1 0 [(.iconst 5, 1, (0, 0, 0)), (.iload_n 0, 1, (0, 0, 0)), (.imul, 1, (0, 0, 0)), (.iload_n 1, 1, (0, 0, 0)), (.iadd, 1, (0, 0, 0)), (.iconst 1, 1, (0, 0, 0)), (.iadd, 1, (0, 0, 0))] = true ∧ plen 0 [(.iconst 5, 1, (0, 0, 0)), (.iload_n 0, 1, (0, 0, 0)), (.imul, 1, (0, 0, 0)), (.iload_n 1, 1, (0, 0, 0)), (.iadd, 1, (0, 0, 0)), (.iconst 1, 1, (0, 0, 0)), (.iadd, 1, (0, 0, 0))] = 7 := by decide +kernel
def F_X10_inner (a0 : Int) (a1 : Int) : Int :=
wrap ((wrap ((wrap (5 * a0)) + a1)) + 1)
theorem lk_X10_inner (l : Launch) (d : Nat) (hd : 0 ≤ d) (a0 : Int) (a1 : Int) (σ : Sg) (q : Int) (h : F_X10_inner a0 a1 = q) : CT l d m_X10_inner.2.1 m_X10_inner.2.2.1 m_X10_inner.2.2.2.1 m_X10_inner.2.2.2.2 [.inl a0, .inl a1] (LAYC, σ) (some (.inl q)) (LAYC, σ) := by
  skip
  have key : Go l m_X10_inner d LAYC (.inl (some (.inl q))) σ 0 [some (.inl a0), some (.inl a1)] [] σ := by
    unfold F_X10_inner at h
    refine go_ops ok_X10_inner_0_7 (L' := [some (.inl a0), some (.inl a1)]) (st' := [.inl (wrap ((wrap ((wrap (5 * a0)) + a1)) + 1))]) (σ1 := σ) rfl ?_
    subst h
    exact go_iret dc_X10_inner_7 rfl
  have hf := go_ct (as := [.inl a0, .inl a1]) mk_X10_inner (by rfl) (Nat.le_of_ble_eq_true rfl) key
  exact hf
theorem dc_X1_bind_6 : decode m_X1_bind.2.2.1 6 = .ok (.invokestatic 55, 3) := by decide +kernel
theorem dc_X1_bind_9 : decode m_X1_bind.2.2.1 9 = .ok (.return_, 1) := by decide +kernel
theorem ok_X1_bind_0_4 : oks m_X1_bind.1 m_X1_bind.2.2.1 0 [(.aload_n 0, 1, (0, 0, 0)), (.getfield 28, 3, (1, 8, 0)), (.iload_n 1, 1, (0, 0, 0)), (.iload_n 2, 1, (0, 0, 0))] = true ∧ plen 0 [(.aload_n 0, 1, (0, 0, 0)), (.getfield 28, 3, (1, 8, 0)), (.iload_n 1, 1, (0, 0, 0)), (.iload_n 2, 1, (0, 0, 0))] = 6 := by decide +kernel
def F_X1_bind (a1 : Int) (a2 : Int) (σ : Sg) : Sg :=
bnd (wrD σ 31 6 a1 a2) fun s1 =>
s1
theorem lk_X1_bind (l : Launch) (d : Nat) (hd : 1 ≤ d) (a1 : Int) (a2 : Int) (σ : Sg) (q : Sg) (h : F_X1_bind a1 a2 σ = q) : CT l d m_X1_bind.2.1 m_X1_bind.2.2.1 m_X1_bind.2.2.2.1 m_X1_bind.2.2.2.2 [.inr 27, .inl a1, .inl a2] (LAYC, σ) none (LAYC, q) := by
  obtain ⟨d, rfl⟩ : ∃ e, d = e + 1 := ⟨d - 1, by omega⟩
  have key : Go l m_X1_bind (d + 1) LAYC (.inl none) q 0 [some (.inr 27), some (.inl a1), some (.inl a2)] [] σ := by
    unfold F_X1_bind at h
    refine go_ops ok_X1_bind_0_4 (L' := [some (.inr 27), some (.inl a1), some (.inl a2)]) (st' := [.inl a2, .inl a1, .inr 31]) (σ1 := σ) rfl ?_
    obtain ⟨s1, e2, h⟩ := bnd_inv h
    refine go_SN (M1 := m_X10_put) (as := [.inr 31, .inl a1, .inl a2]) (st := []) dc_X1_bind_6 ln_1_55 sm_X10_put mk_X10_put rfl (Nat.le_of_ble_eq_true rfl) (Nat.le_refl _) (v := none) (σ1 := s1) (lk_X10_put l d LAYC 31 6 rfl _ _ s1 e2) _ rfl ?_
    subst h
    exact go_vret dc_X1_bind_9 rfl
  have hf := go_ct (as := [.inr 27, .inl a1, .inl a2]) mk_X1_bind (by rfl) (Nat.le_of_ble_eq_true rfl) key
  exact hf
theorem dc_X1_countTest_10 : decode m_X1_countTest.2.2.1 10 = .ok (.return_, 1) := by decide +kernel
theorem ok_X1_countTest_0_6 : oks m_X1_countTest.1 m_X1_countTest.2.2.1 0 [(.aload_n 0, 1, (0, 0, 0)), (.dup, 1, (0, 0, 0)), (.getfield 9, 3, (1, 3, 0)), (.iconst 1, 1, (0, 0, 0)), (.iadd, 1, (0, 0, 0)), (.putfield 9, 3, (1, 3, 0))] = true ∧ plen 0 [(.aload_n 0, 1, (0, 0, 0)), (.dup, 1, (0, 0, 0)), (.getfield 9, 3, (1, 3, 0)), (.iconst 1, 1, (0, 0, 0)), (.iadd, 1, (0, 0, 0)), (.putfield 9, 3, (1, 3, 0))] = 10 := by decide +kernel
def F_X1_countTest (σ : Sg) : Sg :=
bnd (up2 σ 27 3 (wrap ((σ 27 3) + 1))) fun s1 =>
s1
theorem lk_X1_countTest (l : Launch) (d : Nat) (hd : 0 ≤ d) (σ : Sg) (q : Sg) (h : F_X1_countTest σ = q) : CT l d m_X1_countTest.2.1 m_X1_countTest.2.2.1 m_X1_countTest.2.2.2.1 m_X1_countTest.2.2.2.2 [.inr 27] (LAYC, σ) none (LAYC, q) := by
  skip
  have key : Go l m_X1_countTest d LAYC (.inl none) q 0 [some (.inr 27)] [] σ := by
    unfold F_X1_countTest at h
    obtain ⟨s1, e2, h⟩ := bnd_inv h
    refine go_ops ok_X1_countTest_0_6 (L' := [some (.inr 27)]) (st' := []) (σ1 := s1) (by subst e2; rfl) ?_
    subst h
    exact go_vret dc_X1_countTest_10 rfl
  have hf := go_ct (as := [.inr 27]) mk_X1_countTest (by rfl) (Nat.le_of_ble_eq_true rfl) key
  exact hf
theorem dc_X8_partOf_1 : decode m_X8_partOf.2.2.1 1 = .ok (.ifCond .lt 27, 3) := by decide +kernel
theorem dc_X8_partOf_7 : decode m_X8_partOf.2.2.1 7 = .ok (.invokestatic 38, 3) := by decide +kernel
theorem dc_X8_partOf_10 : decode m_X8_partOf.2.2.1 10 = .ok (.ifCond .eq 18, 3) := by decide +kernel
theorem dc_X8_partOf_22 : decode m_X8_partOf.2.2.1 22 = .ok (.invokestatic 42, 3) := by decide +kernel
theorem dc_X8_partOf_25 : decode m_X8_partOf.2.2.1 25 = .ok (.goto 4, 3) := by decide +kernel
theorem dc_X8_partOf_29 : decode m_X8_partOf.2.2.1 29 = .ok (.ireturn, 1) := by decide +kernel
theorem ok_X8_partOf_0_1 : oks m_X8_partOf.1 m_X8_partOf.2.2.1 0 [(.iload_n 1, 1, (0, 0, 0))] = true ∧ plen 0 [(.iload_n 1, 1, (0, 0, 0))] = 1 := by decide +kernel
theorem ok_X8_partOf_4_3 : oks m_X8_partOf.1 m_X8_partOf.2.2.1 4 [(.iload_n 2, 1, (0, 0, 0)), (.iconst 0, 1, (0, 0, 0)), (.iconst 2, 1, (0, 0, 0))] = true ∧ plen 4 [(.iload_n 2, 1, (0, 0, 0)), (.iconst 0, 1, (0, 0, 0)), (.iconst 2, 1, (0, 0, 0))] = 7 := by decide +kernel
theorem ok_X8_partOf_13_7 : oks m_X8_partOf.1 m_X8_partOf.2.2.1 13 [(.aload_n 0, 1, (0, 0, 0)), (.getfield 25, 3, (8, 4, 0)), (.iload_n 1, 1, (0, 0, 0)), (.iconst 3, 1, (0, 0, 0)), (.imul, 1, (0, 0, 0)), (.iload_n 2, 1, (0, 0, 0)), (.iadd, 1, (0, 0, 0))] = true ∧ plen 13 [(.aload_n 0, 1, (0, 0, 0)), (.getfield 25, 3, (8, 4, 0)), (.iload_n 1, 1, (0, 0, 0)), (.iconst 3, 1, (0, 0, 0)), (.imul, 1, (0, 0, 0)), (.iload_n 2, 1, (0, 0, 0)), (.iadd, 1, (0, 0, 0))] = 22 := by decide +kernel
theorem ok_X8_partOf_28_1 : oks m_X8_partOf.1 m_X8_partOf.2.2.1 28 [(.iconst (-1), 1, (0, 0, 0))] = true ∧ plen 28 [(.iconst (-1), 1, (0, 0, 0))] = 29 := by decide +kernel
def F_X8_partOf (a1 : Int) (a2 : Int) (σ : Sg) : Int :=
if a1 < 0 then
(-1)
else
if (F_X10_isIn a2 0 2) = true then
rdD (-1) σ 9 150 (wrap ((wrap (a1 * 3)) + a2))
else
(-1)
theorem lk_X8_partOf (l : Launch) (d : Nat) (hd : 1 ≤ d) (a1 : Int) (a2 : Int) (σ : Sg) (q : Int) (h : F_X8_partOf a1 a2 σ = q) : CT l d m_X8_partOf.2.1 m_X8_partOf.2.2.1 m_X8_partOf.2.2.2.1 m_X8_partOf.2.2.2.2 [.inr 5, .inl a1, .inl a2] (LAYC, σ) (some (.inl q)) (LAYC, σ) := by
  obtain ⟨d, rfl⟩ : ∃ e, d = e + 1 := ⟨d - 1, by omega⟩
  have key : Go l m_X8_partOf (d + 1) LAYC (.inl (some (.inl q))) σ 0 [some (.inr 5), some (.inl a1), some (.inl a2)] [] σ := by
    unfold F_X8_partOf at h
    refine go_ops ok_X8_partOf_0_1 (L' := [some (.inr 5), some (.inl a1), some (.inl a2)]) (st' := [.inl a1]) (σ1 := σ) rfl ?_
    refine go_if_lt dc_X8_partOf_1 (by rfl) (fun hc => ?_) (fun hc => ?_)
    · replace h := (if_pos hc).symm.trans h
      refine go_ops ok_X8_partOf_28_1 (L' := [some (.inr 5), some (.inl a1), some (.inl a2)]) (st' := [.inl (-1)]) (σ1 := σ) rfl ?_
      subst h
      exact go_iret dc_X8_partOf_29 rfl
    · replace h := (if_neg hc).symm.trans h
      refine go_ops ok_X8_partOf_4_3 (L' := [some (.inr 5), some (.inl a1), some (.inl a2)]) (st' := [.inl 2, .inl 0, .inl a2]) (σ1 := σ) rfl ?_
      refine go_SN (M1 := m_X10_isIn) (as := [.inl a2, .inl 0, .inl 2]) (st := []) dc_X8_partOf_7 ln_8_38 sm_X10_isIn mk_X10_isIn rfl (Nat.le_of_ble_eq_true rfl) (Nat.le_refl _) (v := (some (.inl (b2i (F_X10_isIn a2 0 2))))) (σ1 := σ) (lk_X10_isIn l d (by omega) a2 0 2 σ _ rfl) _ rfl ?_
      refine go_ifb_eq dc_X8_partOf_10 (by rfl) (fun hc => ?_) (fun hc => ?_)
      · replace h := (if_neg hc).symm.trans h
        refine go_ops ok_X8_partOf_28_1 (L' := [some (.inr 5), some (.inl a1), some (.inl a2)]) (st' := [.inl (-1)]) (σ1 := σ) rfl ?_
        subst h
        exact go_iret dc_X8_partOf_29 rfl
      · replace h := (if_pos hc).symm.trans h
        refine go_ops ok_X8_partOf_13_7 (L' := [some (.inr 5), some (.inl a1), some (.inl a2)]) (st' := [.inl (wrap ((wrap (a1 * 3)) + a2)), .inr 9]) (σ1 := σ) rfl ?_
        refine go_SN (M1 := m_X10_at) (as := [.inr 9, .inl (wrap ((wrap (a1 * 3)) + a2))]) (st := []) dc_X8_partOf_22 ln_8_42 sm_X10_at mk_X10_at rfl (Nat.le_of_ble_eq_true rfl) (Nat.le_refl _) (v := some (.inl (rdD (-1) σ 9 150 (wrap ((wrap (a1 * 3)) + a2))))) (σ1 := σ) (lk_X10_at l d LAYC 9 150 rfl σ _) _ rfl ?_
        refine go_goto dc_X8_partOf_25 (by rfl) ?_
        subst h
        exact go_iret dc_X8_partOf_29 rfl
  have hf := go_ct (as := [.inr 5, .inl a1, .inl a2]) mk_X8_partOf (by rfl) (Nat.le_of_ble_eq_true rfl) key
  exact hf
theorem dc_X1_open_5 : decode m_X1_open.2.2.1 5 = .ok (.invokestatic 59, 3) := by decide +kernel
theorem dc_X1_open_13 : decode m_X1_open.2.2.1 13 = .ok (.if_icmp .ge 30, 3) := by decide +kernel
theorem dc_X1_open_22 : decode m_X1_open.2.2.1 22 = .ok (.invokestatic 69, 3) := by decide +kernel
theorem dc_X1_open_31 : decode m_X1_open.2.2.1 31 = .ok (.invokevirtual 73, 3) := by decide +kernel
theorem dc_X1_open_34 : decode m_X1_open.2.2.1 34 = .ok (.invokestatic 55, 3) := by decide +kernel
theorem dc_X1_open_40 : decode m_X1_open.2.2.1 40 = .ok (.goto (-29), 3) := by decide +kernel
theorem dc_X1_open_43 : decode m_X1_open.2.2.1 43 = .ok (.return_, 1) := by decide +kernel
theorem ok_X1_open_0_3 : oks m_X1_open.1 m_X1_open.2.2.1 0 [(.aload_n 0, 1, (0, 0, 0)), (.getfield 18, 3, (1, 5, 0)), (.iload_n 1, 1, (0, 0, 0))] = true ∧ plen 0 [(.aload_n 0, 1, (0, 0, 0)), (.getfield 18, 3, (1, 5, 0)), (.iload_n 1, 1, (0, 0, 0))] = 5 := by decide +kernel
theorem ok_X1_open_8_3 : oks m_X1_open.1 m_X1_open.2.2.1 8 [(.istore_n 2, 1, (0, 0, 0)), (.iconst 0, 1, (0, 0, 0)), (.istore_n 3, 1, (0, 0, 0))] = true ∧ plen 8 [(.istore_n 2, 1, (0, 0, 0)), (.iconst 0, 1, (0, 0, 0)), (.istore_n 3, 1, (0, 0, 0))] = 11 := by decide +kernel
theorem ok_X1_open_11_2 : oks m_X1_open.1 m_X1_open.2.2.1 11 [(.iload_n 3, 1, (0, 0, 0)), (.iconst 3, 1, (0, 0, 0))] = true ∧ plen 11 [(.iload_n 3, 1, (0, 0, 0)), (.iconst 3, 1, (0, 0, 0))] = 13 := by decide +kernel
theorem ok_X1_open_16_4 : oks m_X1_open.1 m_X1_open.2.2.1 16 [(.aload_n 0, 1, (0, 0, 0)), (.getfield 18, 3, (1, 5, 0)), (.iload_n 1, 1, (0, 0, 0)), (.iload_n 3, 1, (0, 0, 0))] = true ∧ plen 16 [(.aload_n 0, 1, (0, 0, 0)), (.getfield 18, 3, (1, 5, 0)), (.iload_n 1, 1, (0, 0, 0)), (.iload_n 3, 1, (0, 0, 0))] = 22 := by decide +kernel
theorem ok_X1_open_25_4 : oks m_X1_open.1 m_X1_open.2.2.1 25 [(.aload_n 0, 1, (0, 0, 0)), (.getfield 31, 3, (1, 0, 0)), (.iload_n 2, 1, (0, 0, 0)), (.iload_n 3, 1, (0, 0, 0))] = true ∧ plen 25 [(.aload_n 0, 1, (0, 0, 0)), (.getfield 31, 3, (1, 0, 0)), (.iload_n 2, 1, (0, 0, 0)), (.iload_n 3, 1, (0, 0, 0))] = 31 := by decide +kernel
theorem ok_X1_open_37_1 : oks m_X1_open.1 m_X1_open.2.2.1 37 [(.iinc 3 1, 3, (0, 0, 0))] = true ∧ plen 37 [(.iinc 3 1, 3, (0, 0, 0))] = 40 := by decide +kernel
def L_X1_open_11 (x1 : Int) (x2 : Int) (x3 : Int) (σ : Sg) : Option ((Int × Sg) ⊕ Sg) :=
if 3 ≤ x3 then
some (.inr σ)
else
bnd (wrD σ 28 469 (F_X10_inner x1 x3) (F_X8_partOf x2 x3 σ)) fun s3 =>
some (.inl (wrap (x3 + 1), s3))
def F_X1_open (a1 : Int) (σ : Sg) : Option Sg :=
bnd (rdD (-1) σ 28 469 a1) fun v1 =>
(iter (fun a : (Int × Sg) => L_X1_open_11 a1 v1 a.1 a.2) 4 (0, σ)).bind fun y5 =>
some y5
theorem lk_X1_open (l : Launch) (d : Nat) (hd : 2 ≤ d) (a1 : Int) (σ : Sg) (q : Sg) (h : F_X1_open a1 σ = some q) : CT l d m_X1_open.2.1 m_X1_open.2.2.1 m_X1_open.2.2.2.1 m_X1_open.2.2.2.2 [.inr 27, .inl a1] (LAYC, σ) none (LAYC, q) := by
  obtain ⟨d, rfl⟩ : ∃ e, d = e + 1 := ⟨d - 1, by omega⟩
  have key : Go l m_X1_open (d + 1) LAYC (.inl none) q 0 [some (.inr 27), some (.inl a1), none, none] [] σ := by
    unfold F_X1_open at h
    have hL_X1_open_11 : ∀ (x1 : Int) (x2 : Int) (n : Nat) (a : (Int × Sg)) (y : Sg), iter (fun a : (Int × Sg) => L_X1_open_11 x1 x2 a.1 a.2) n a = some y → (fun y : Sg => Go l m_X1_open (d + 1) LAYC (.inl none) q 43 [none, none, none, none] [] y) y → (fun a : (Int × Sg) => Go l m_X1_open (d + 1) LAYC (.inl none) q 11 [some (.inr 27), some (.inl x1), some (.inl x2), some (.inl a.1)] [] a.2) a := by
      intro x1 x2
      refine go_iter (G := fun a : (Int × Sg) => Go l m_X1_open (d + 1) LAYC (.inl none) q 11 [some (.inr 27), some (.inl x1), some (.inl x2), some (.inl a.1)] [] a.2) (K := fun y : Sg => Go l m_X1_open (d + 1) LAYC (.inl none) q 43 [none, none, none, none] [] y) ?_
      rintro ⟨x3, σ⟩ w h hK
      replace h : L_X1_open_11 x1 x2 x3 σ = some w := h
      show Go l m_X1_open (d + 1) LAYC (.inl none) q 11 [some (.inr 27), some (.inl x1), some (.inl x2), some (.inl x3)] [] σ
      unfold L_X1_open_11 at h
      refine go_ops ok_X1_open_11_2 (L' := [some (.inr 27), some (.inl x1), some (.inl x2), some (.inl x3)]) (st' := [.inl 3, .inl x3]) (σ1 := σ) rfl ?_
      refine go_icmp_ge dc_X1_open_13 (by rfl) (fun hc => ?_) (fun hc => ?_)
      · replace h := (if_pos hc).symm.trans h
        cases h
        refine go_wk (L' := [none, none, none, none]) trivial ?_
        exact hK
      · replace h := (if_neg hc).symm.trans h
        refine go_ops ok_X1_open_16_4 (L' := [some (.inr 27), some (.inl x1), some (.inl x2), some (.inl x3)]) (st' := [.inl x3, .inl x1, .inr 28]) (σ1 := σ) rfl ?_
        refine go_SN (M1 := m_X10_inner) (as := [.inl x1, .inl x3]) (st := [.inr 28]) dc_X1_open_22 ln_1_69 sm_X10_inner mk_X10_inner rfl (Nat.le_of_ble_eq_true rfl) (Nat.le_refl _) (v := (some (.inl (F_X10_inner x1 x3)))) (σ1 := σ) (lk_X10_inner l d (by omega) x1 x3 σ _ rfl) _ rfl ?_
        refine go_ops ok_X1_open_25_4 (L' := [some (.inr 27), some (.inl x1), some (.inl x2), some (.inl x3)]) (st' := [.inl x3, .inl x2, .inr 5, .inl (F_X10_inner x1 x3), .inr 28]) (σ1 := σ) rfl ?_
        refine go_V (M1 := m_X8_partOf) (as := [.inl x2, .inl x3]) (st := [.inl (F_X10_inner x1 x3), .inr 28]) (k := 5) (ci := 8) dc_X1_open_31 ln_1_73 im_X8_partOf (by decide) rfl rfl mk_X8_partOf rfl (Nat.le_of_ble_eq_true rfl) (Nat.le_refl _) (v := (some (.inl (F_X8_partOf x2 x3 σ)))) (σ1 := σ) (lk_X8_partOf l d (by omega) x2 x3 σ _ rfl) _ rfl ?_
        obtain ⟨s3, e4, h⟩ := bnd_inv h
        refine go_SN (M1 := m_X10_put) (as := [.inr 28, .inl (F_X10_inner x1 x3), .inl (F_X8_partOf x2 x3 σ)]) (st := []) dc_X1_open_34 ln_1_55 sm_X10_put mk_X10_put rfl (Nat.le_of_ble_eq_true rfl) (Nat.le_refl _) (v := none) (σ1 := s3) (lk_X10_put l d LAYC 28 469 rfl _ _ s3 e4) _ rfl ?_
        refine go_ops ok_X1_open_37_1 (L' := [some (.inr 27), some (.inl x1), some (.inl x2), some (.inl (wrap (x3 + 1)))]) (st' := []) (σ1 := s3) rfl ?_
        refine go_goto dc_X1_open_40 (by rfl) ?_
        cases h
        exact hK
    refine go_ops ok_X1_open_0_3 (L' := [some (.inr 27), some (.inl a1), none, none]) (st' := [.inl a1, .inr 28]) (σ1 := σ) rfl ?_
    refine go_SN (M1 := m_X10_at) (as := [.inr 28, .inl a1]) (st := []) dc_X1_open_5 ln_1_59 sm_X10_at mk_X10_at rfl (Nat.le_of_ble_eq_true rfl) (Nat.le_refl _) (v := some (.inl (rdD (-1) σ 28 469 a1))) (σ1 := σ) (lk_X10_at l d LAYC 28 469 rfl σ _) _ rfl ?_
    obtain ⟨v1, e2, h⟩ := bnd_inv h
    refine go_ops ok_X1_open_8_3 (L' := [some (.inr 27), some (.inl a1), some (.inl v1), some (.inl 0)]) (st' := []) (σ1 := σ) (by subst e2; rfl) ?_
    obtain ⟨y5, e6, h⟩ := bind_inv h
    refine hL_X1_open_11 a1 v1 4 (0, σ) y5 e6 ?_
    show Go l m_X1_open (d + 1) LAYC (.inl none) q 43 [none, none, none, none] [] y5
    have h9 := Option.some.inj h
    subst h9
    exact go_vret dc_X1_open_43 rfl
  have hf := go_ct (as := [.inr 27, .inl a1]) mk_X1_open (by rfl) (Nat.le_of_ble_eq_true rfl) key
  exact hf
theorem dc_X10_givenAt_2 : decode m_X10_givenAt.2.2.1 2 = .ok (.invokestatic 331, 3) := by decide +kernel
theorem dc_X10_givenAt_14 : decode m_X10_givenAt.2.2.1 14 = .ok (.ireturn, 1) := by decide +kernel
theorem ok_X10_givenAt_0_2 : oks m_X10_givenAt.1 m_X10_givenAt.2.2.1 0 [(.aload_n 0, 1, (0, 0, 0)), (.iload_n 2, 1, (0, 0, 0))] = true ∧ plen 0 [(.aload_n 0, 1, (0, 0, 0)), (.iload_n 2, 1, (0, 0, 0))] = 2 := by decide +kernel
theorem ok_X10_givenAt_5_8 : oks m_X10_givenAt.1 m_X10_givenAt.2.2.1 5 [(.iconst 4, 1, (0, 0, 0)), (.iload_n 1, 1, (0, 0, 0)), (.imul, 1, (0, 0, 0)), (.ishr, 1, (0, 0, 0)), (.bipush 15, 2, (0, 0, 0)), (.iand, 1, (0, 0, 0)), (.iconst 1, 1, (0, 0, 0)), (.isub, 1, (0, 0, 0))] = true ∧ plen 5 [(.iconst 4, 1, (0, 0, 0)), (.iload_n 1, 1, (0, 0, 0)), (.imul, 1, (0, 0, 0)), (.ishr, 1, (0, 0, 0)), (.bipush 15, 2, (0, 0, 0)), (.iand, 1, (0, 0, 0)), (.iconst 1, 1, (0, 0, 0)), (.isub, 1, (0, 0, 0))] = 14 := by decide +kernel
def F_X10_givenAt (t : Nat) (a1 : Int) (a2 : Int) (σ : Sg) : Int :=
wrap ((jand (jshr (rdD 0 σ t 469 a2) (wrap (4 * a1))) 15) - 1)
theorem lk_X10_givenAt_29 (l : Launch) (d : Nat) (hd : 1 ≤ d) (a1 : Int) (a2 : Int) (σ : Sg) (q : Int) (h : F_X10_givenAt 29 a1 a2 σ = q) : CT l d m_X10_givenAt.2.1 m_X10_givenAt.2.2.1 m_X10_givenAt.2.2.2.1 m_X10_givenAt.2.2.2.2 [.inr 29, .inl a1, .inl a2] (LAYC, σ) (some (.inl q)) (LAYC, σ) := by
  obtain ⟨d, rfl⟩ : ∃ e, d = e + 1 := ⟨d - 1, by omega⟩
  have key : Go l m_X10_givenAt (d + 1) LAYC (.inl (some (.inl q))) σ 0 [some (.inr 29), some (.inl a1), some (.inl a2)] [] σ := by
    unfold F_X10_givenAt at h
    refine go_ops ok_X10_givenAt_0_2 (L' := [some (.inr 29), some (.inl a1), some (.inl a2)]) (st' := [.inl a2, .inr 29]) (σ1 := σ) rfl ?_
    refine go_S (M1 := m_X10_atOrZero) (as := [.inr 29, .inl a2]) (st := []) dc_X10_givenAt_2 ln_10_331 sm_X10_atOrZero mk_X10_atOrZero rfl (Nat.le_of_ble_eq_true rfl) (Nat.le_refl _) (v := some (.inl (rdD 0 σ 29 469 a2))) (σ1 := σ) (lk_X10_atOrZero l d LAYC 29 469 rfl σ _) _ rfl ?_
    refine go_ops ok_X10_givenAt_5_8 (L' := [some (.inr 29), some (.inl a1), some (.inl a2)]) (st' := [.inl (wrap ((jand (jshr (rdD 0 σ 29 469 a2) (wrap (4 * a1))) 15) - 1))]) (σ1 := σ) rfl ?_
    subst h
    exact go_iret dc_X10_givenAt_14 rfl
  have hf := go_ct (as := [.inr 29, .inl a1, .inl a2]) mk_X10_givenAt (by rfl) (Nat.le_of_ble_eq_true rfl) key
  exact hf
theorem lk_X10_givenAt_39 (l : Launch) (d : Nat) (hd : 1 ≤ d) (a1 : Int) (a2 : Int) (σ : Sg) (q : Int) (h : F_X10_givenAt 39 a1 a2 σ = q) : CT l d m_X10_givenAt.2.1 m_X10_givenAt.2.2.1 m_X10_givenAt.2.2.2.1 m_X10_givenAt.2.2.2.2 [.inr 39, .inl a1, .inl a2] (LAYC, σ) (some (.inl q)) (LAYC, σ) := by
  obtain ⟨d, rfl⟩ : ∃ e, d = e + 1 := ⟨d - 1, by omega⟩
  have key : Go l m_X10_givenAt (d + 1) LAYC (.inl (some (.inl q))) σ 0 [some (.inr 39), some (.inl a1), some (.inl a2)] [] σ := by
    unfold F_X10_givenAt at h
    refine go_ops ok_X10_givenAt_0_2 (L' := [some (.inr 39), some (.inl a1), some (.inl a2)]) (st' := [.inl a2, .inr 39]) (σ1 := σ) rfl ?_
    refine go_S (M1 := m_X10_atOrZero) (as := [.inr 39, .inl a2]) (st := []) dc_X10_givenAt_2 ln_10_331 sm_X10_atOrZero mk_X10_atOrZero rfl (Nat.le_of_ble_eq_true rfl) (Nat.le_refl _) (v := some (.inl (rdD 0 σ 39 469 a2))) (σ1 := σ) (lk_X10_atOrZero l d LAYC 39 469 rfl σ _) _ rfl ?_
    refine go_ops ok_X10_givenAt_5_8 (L' := [some (.inr 39), some (.inl a1), some (.inl a2)]) (st' := [.inl (wrap ((jand (jshr (rdD 0 σ 39 469 a2) (wrap (4 * a1))) 15) - 1))]) (σ1 := σ) rfl ?_
    subst h
    exact go_iret dc_X10_givenAt_14 rfl
  have hf := go_ct (as := [.inr 39, .inl a1, .inl a2]) mk_X10_givenAt (by rfl) (Nat.le_of_ble_eq_true rfl) key
  exact hf
theorem dc_X8_measureOf_5 : decode m_X8_measureOf.2.2.1 5 = .ok (.invokestatic 42, 3) := by decide +kernel
theorem dc_X8_measureOf_8 : decode m_X8_measureOf.2.2.1 8 = .ok (.ireturn, 1) := by decide +kernel
theorem ok_X8_measureOf_0_3 : oks m_X8_measureOf.1 m_X8_measureOf.2.2.1 0 [(.aload_n 0, 1, (0, 0, 0)), (.getfield 22, 3, (8, 3, 0)), (.iload_n 1, 1, (0, 0, 0))] = true ∧ plen 0 [(.aload_n 0, 1, (0, 0, 0)), (.getfield 22, 3, (8, 3, 0)), (.iload_n 1, 1, (0, 0, 0))] = 5 := by decide +kernel
def F_X8_measureOf (a1 : Int) (σ : Sg) : Int :=
rdD (-1) σ 8 50 a1
theorem lk_X8_measureOf (l : Launch) (d : Nat) (hd : 1 ≤ d) (a1 : Int) (σ : Sg) (q : Int) (h : F_X8_measureOf a1 σ = q) : CT l d m_X8_measureOf.2.1 m_X8_measureOf.2.2.1 m_X8_measureOf.2.2.2.1 m_X8_measureOf.2.2.2.2 [.inr 5, .inl a1] (LAYC, σ) (some (.inl q)) (LAYC, σ) := by
  obtain ⟨d, rfl⟩ : ∃ e, d = e + 1 := ⟨d - 1, by omega⟩
  have key : Go l m_X8_measureOf (d + 1) LAYC (.inl (some (.inl q))) σ 0 [some (.inr 5), some (.inl a1)] [] σ := by
    unfold F_X8_measureOf at h
    refine go_ops ok_X8_measureOf_0_3 (L' := [some (.inr 5), some (.inl a1)]) (st' := [.inl a1, .inr 8]) (σ1 := σ) rfl ?_
    refine go_SN (M1 := m_X10_at) (as := [.inr 8, .inl a1]) (st := []) dc_X8_measureOf_5 ln_8_42 sm_X10_at mk_X10_at rfl (Nat.le_of_ble_eq_true rfl) (Nat.le_refl _) (v := some (.inl (rdD (-1) σ 8 50 a1))) (σ1 := σ) (lk_X10_at l d LAYC 8 50 rfl σ _) _ rfl ?_
    subst h
    exact go_iret dc_X8_measureOf_8 rfl
  have hf := go_ct (as := [.inr 5, .inl a1]) mk_X8_measureOf (by rfl) (Nat.le_of_ble_eq_true rfl) key
  exact hf
theorem dc_X9_get_9 : decode m_X9_get.2.2.1 9 = .ok (.invokestatic 19, 3) := by decide +kernel
theorem dc_X9_get_12 : decode m_X9_get.2.2.1 12 = .ok (.ireturn, 1) := by decide +kernel
theorem ok_X9_get_0_7 : oks m_X9_get.1 m_X9_get.2.2.1 0 [(.aload_n 0, 1, (0, 0, 0)), (.getfield 11, 3, (9, 0, 0)), (.iload_n 1, 1, (0, 0, 0)), (.iconst 4, 1, (0, 0, 0)), (.imul, 1, (0, 0, 0)), (.iload_n 2, 1, (0, 0, 0)), (.iadd, 1, (0, 0, 0))] = true ∧ plen 0 [(.aload_n 0, 1, (0, 0, 0)), (.getfield 11, 3, (9, 0, 0)), (.iload_n 1, 1, (0, 0, 0)), (.iconst 4, 1, (0, 0, 0)), (.imul, 1, (0, 0, 0)), (.iload_n 2, 1, (0, 0, 0)), (.iadd, 1, (0, 0, 0))] = 9 := by decide +kernel
def F_X9_get (a1 : Int) (a2 : Int) (σ : Sg) : Int :=
rdD (-1) σ 23 12 (wrap ((wrap (a1 * 4)) + a2))
theorem lk_X9_get (l : Launch) (d : Nat) (hd : 1 ≤ d) (a1 : Int) (a2 : Int) (σ : Sg) (q : Int) (h : F_X9_get a1 a2 σ = q) : CT l d m_X9_get.2.1 m_X9_get.2.2.1 m_X9_get.2.2.2.1 m_X9_get.2.2.2.2 [.inr 22, .inl a1, .inl a2] (LAYC, σ) (some (.inl q)) (LAYC, σ) := by
  obtain ⟨d, rfl⟩ : ∃ e, d = e + 1 := ⟨d - 1, by omega⟩
  have key : Go l m_X9_get (d + 1) LAYC (.inl (some (.inl q))) σ 0 [some (.inr 22), some (.inl a1), some (.inl a2)] [] σ := by
    unfold F_X9_get at h
    refine go_ops ok_X9_get_0_7 (L' := [some (.inr 22), some (.inl a1), some (.inl a2)]) (st' := [.inl (wrap ((wrap (a1 * 4)) + a2)), .inr 23]) (σ1 := σ) rfl ?_
    refine go_SN (M1 := m_X10_at) (as := [.inr 23, .inl (wrap ((wrap (a1 * 4)) + a2))]) (st := []) dc_X9_get_9 ln_9_19 sm_X10_at mk_X10_at rfl (Nat.le_of_ble_eq_true rfl) (Nat.le_refl _) (v := some (.inl (rdD (-1) σ 23 12 (wrap ((wrap (a1 * 4)) + a2))))) (σ1 := σ) (lk_X10_at l d LAYC 23 12 rfl σ _) _ rfl ?_
    subst h
    exact go_iret dc_X9_get_12 rfl
  have hf := go_ct (as := [.inr 22, .inl a1, .inl a2]) mk_X9_get (by rfl) (Nat.le_of_ble_eq_true rfl) key
  exact hf
theorem dc_J9_floorMod_7cf53_2 : decode m_J9_floorMod_7cf53.2.2.1 2 = .ok (.irem, 1) := by decide +kernel
theorem dc_J9_floorMod_7cf53_7 : decode m_J9_floorMod_7cf53.2.2.1 7 = .ok (.ifCond .ge 11, 3) := by decide +kernel
theorem dc_J9_floorMod_7cf53_11 : decode m_J9_floorMod_7cf53.2.2.1 11 = .ok (.ifCond .eq 7, 3) := by decide +kernel
theorem dc_J9_floorMod_7cf53_17 : decode m_J9_floorMod_7cf53.2.2.1 17 = .ok (.ireturn, 1) := by decide +kernel
theorem dc_J9_floorMod_7cf53_19 : decode m_J9_floorMod_7cf53.2.2.1 19 = .ok (.ireturn, 1) := by decide +kernel
theorem ok_J9_floorMod_7cf53_0_2 : oks m_J9_floorMod_7cf53.1 m_J9_floorMod_7cf53.2.2.1 0 [(.iload_n 0, 1, (0, 0, 0)), (.iload_n 1, 1, (0, 0, 0))] = true ∧ plen 0 [(.iload_n 0, 1, (0, 0, 0)), (.iload_n 1, 1, (0, 0, 0))] = 2 := by decide +kernel
theorem ok_J9_floorMod_7cf53_3_4 : oks m_J9_floorMod_7cf53.1 m_J9_floorMod_7cf53.2.2.1 3 [(.istore_n 2, 1, (0, 0, 0)), (.iload_n 0, 1, (0, 0, 0)), (.iload_n 1, 1, (0, 0, 0)), (.ixor, 1, (0, 0, 0))] = true ∧ plen 3 [(.istore_n 2, 1, (0, 0, 0)), (.iload_n 0, 1, (0, 0, 0)), (.iload_n 1, 1, (0, 0, 0)), (.ixor, 1, (0, 0, 0))] = 7 := by decide +kernel
theorem ok_J9_floorMod_7cf53_10_1 : oks m_J9_floorMod_7cf53.1 m_J9_floorMod_7cf53.2.2.1 10 [(.iload_n 2, 1, (0, 0, 0))] = true ∧ plen 10 [(.iload_n 2, 1, (0, 0, 0))] = 11 := by decide +kernel
theorem ok_J9_floorMod_7cf53_14_3 : oks m_J9_floorMod_7cf53.1 m_J9_floorMod_7cf53.2.2.1 14 [(.iload_n 2, 1, (0, 0, 0)), (.iload_n 1, 1, (0, 0, 0)), (.iadd, 1, (0, 0, 0))] = true ∧ plen 14 [(.iload_n 2, 1, (0, 0, 0)), (.iload_n 1, 1, (0, 0, 0)), (.iadd, 1, (0, 0, 0))] = 17 := by decide +kernel
theorem ok_J9_floorMod_7cf53_18_1 : oks m_J9_floorMod_7cf53.1 m_J9_floorMod_7cf53.2.2.1 18 [(.iload_n 2, 1, (0, 0, 0))] = true ∧ plen 18 [(.iload_n 2, 1, (0, 0, 0))] = 19 := by decide +kernel
def F_J9_floorMod_7cf53 (a0 : Int) (a1 : Int) : Option Int :=
(jremO a0 a1).bind fun v1 =>
if 0 ≤ (jxor a0 a1) then
some v1
else
if v1 = 0 then
some v1
else
some (wrap (v1 + a1))
theorem lk_J9_floorMod_7cf53 (l : Launch) (d : Nat) (hd : 0 ≤ d) (a0 : Int) (a1 : Int) (σ : Sg) (q : Int) (h : F_J9_floorMod_7cf53 a0 a1 = some q) : CT l d m_J9_floorMod_7cf53.2.1 m_J9_floorMod_7cf53.2.2.1 m_J9_floorMod_7cf53.2.2.2.1 m_J9_floorMod_7cf53.2.2.2.2 [.inl a0, .inl a1] (LAYC, σ) (some (.inl q)) (LAYC, σ) := by
  skip
  have key : Go l m_J9_floorMod_7cf53 d LAYC (.inl (some (.inl q))) σ 0 [some (.inl a0), some (.inl a1), none] [] σ := by
    unfold F_J9_floorMod_7cf53 at h
    refine go_ops ok_J9_floorMod_7cf53_0_2 (L' := [some (.inl a0), some (.inl a1), none]) (st' := [.inl a1, .inl a0]) (σ1 := σ) rfl ?_
    obtain ⟨v1, e2, h⟩ := bind_inv h
    refine go_remO dc_J9_floorMod_7cf53_2 e2 ?_
    refine go_ops ok_J9_floorMod_7cf53_3_4 (L' := [some (.inl a0), some (.inl a1), some (.inl v1)]) (st' := [.inl (jxor a0 a1)]) (σ1 := σ) rfl ?_
    refine go_if_ge dc_J9_floorMod_7cf53_7 (by rfl) (fun hc => ?_) (fun hc => ?_)
    · replace h := (if_pos hc).symm.trans h
      refine go_ops ok_J9_floorMod_7cf53_18_1 (L' := [some (.inl a0), some (.inl a1), some (.inl v1)]) (st' := [.inl v1]) (σ1 := σ) rfl ?_
      have h9 := Option.some.inj h
      subst h9
      exact go_iret dc_J9_floorMod_7cf53_19 rfl
    · replace h := (if_neg hc).symm.trans h
      refine go_ops ok_J9_floorMod_7cf53_10_1 (L' := [some (.inl a0), some (.inl a1), some (.inl v1)]) (st' := [.inl v1]) (σ1 := σ) rfl ?_
      refine go_if_eq dc_J9_floorMod_7cf53_11 (by rfl) (fun hc => ?_) (fun hc => ?_)
      · replace h := (if_pos hc).symm.trans h
        refine go_ops ok_J9_floorMod_7cf53_18_1 (L' := [some (.inl a0), some (.inl a1), some (.inl v1)]) (st' := [.inl v1]) (σ1 := σ) rfl ?_
        have h9 := Option.some.inj h
        subst h9
        exact go_iret dc_J9_floorMod_7cf53_19 rfl
      · replace h := (if_neg hc).symm.trans h
        refine go_ops ok_J9_floorMod_7cf53_14_3 (L' := [some (.inl a0), some (.inl a1), some (.inl v1)]) (st' := [.inl (wrap (v1 + a1))]) (σ1 := σ) rfl ?_
        have h9 := Option.some.inj h
        subst h9
        exact go_iret dc_J9_floorMod_7cf53_17 rfl
  have hf := go_ct (as := [.inl a0, .inl a1]) mk_J9_floorMod_7cf53 (by rfl) (Nat.le_of_ble_eq_true rfl) key
  exact hf
theorem dc_X9_give_3 : decode m_X9_give.2.2.1 3 = .ok (.invokevirtual 27, 3) := by decide +kernel
theorem dc_X9_give_11 : decode m_X9_give.2.2.1 11 = .ok (.invokevirtual 27, 3) := by decide +kernel
theorem dc_X9_give_19 : decode m_X9_give.2.2.1 19 = .ok (.invokevirtual 27, 3) := by decide +kernel
theorem dc_X9_give_28 : decode m_X9_give.2.2.1 28 = .ok (.invokevirtual 27, 3) := by decide +kernel
theorem dc_X9_give_36 : decode m_X9_give.2.2.1 36 = .ok (.ifCond .le 13, 3) := by decide +kernel
theorem dc_X9_give_43 : decode m_X9_give.2.2.1 43 = .ok (.invokestatic 31, 3) := by decide +kernel
theorem dc_X9_give_46 : decode m_X9_give.2.2.1 46 = .ok (.goto 4, 3) := by decide +kernel
theorem dc_X9_give_50 : decode m_X9_give.2.2.1 50 = .ok (.ireturn, 1) := by decide +kernel
theorem ok_X9_give_0_3 : oks m_X9_give.1 m_X9_give.2.2.1 0 [(.aload_n 0, 1, (0, 0, 0)), (.iload_n 1, 1, (0, 0, 0)), (.iconst 3, 1, (0, 0, 0))] = true ∧ plen 0 [(.aload_n 0, 1, (0, 0, 0)), (.iload_n 1, 1, (0, 0, 0)), (.iconst 3, 1, (0, 0, 0))] = 3 := by decide +kernel
theorem ok_X9_give_6_4 : oks m_X9_give.1 m_X9_give.2.2.1 6 [(.istore 4, 2, (0, 0, 0)), (.aload_n 0, 1, (0, 0, 0)), (.iload_n 1, 1, (0, 0, 0)), (.iconst 0, 1, (0, 0, 0))] = true ∧ plen 6 [(.istore 4, 2, (0, 0, 0)), (.aload_n 0, 1, (0, 0, 0)), (.iload_n 1, 1, (0, 0, 0)), (.iconst 0, 1, (0, 0, 0))] = 11 := by decide +kernel
theorem ok_X9_give_14_5 : oks m_X9_give.1 m_X9_give.2.2.1 14 [(.iload_n 2, 1, (0, 0, 0)), (.imul, 1, (0, 0, 0)), (.aload_n 0, 1, (0, 0, 0)), (.iload_n 1, 1, (0, 0, 0)), (.iconst 1, 1, (0, 0, 0))] = true ∧ plen 14 [(.iload_n 2, 1, (0, 0, 0)), (.imul, 1, (0, 0, 0)), (.aload_n 0, 1, (0, 0, 0)), (.iload_n 1, 1, (0, 0, 0)), (.iconst 1, 1, (0, 0, 0))] = 19 := by decide +kernel
theorem ok_X9_give_22_6 : oks m_X9_give.1 m_X9_give.2.2.1 22 [(.iload_n 3, 1, (0, 0, 0)), (.imul, 1, (0, 0, 0)), (.iadd, 1, (0, 0, 0)), (.aload_n 0, 1, (0, 0, 0)), (.iload_n 1, 1, (0, 0, 0)), (.iconst 2, 1, (0, 0, 0))] = true ∧ plen 22 [(.iload_n 3, 1, (0, 0, 0)), (.imul, 1, (0, 0, 0)), (.iadd, 1, (0, 0, 0)), (.aload_n 0, 1, (0, 0, 0)), (.iload_n 1, 1, (0, 0, 0)), (.iconst 2, 1, (0, 0, 0))] = 28 := by decide +kernel
theorem ok_X9_give_31_3 : oks m_X9_give.1 m_X9_give.2.2.1 31 [(.iadd, 1, (0, 0, 0)), (.istore 5, 2, (0, 0, 0)), (.iload 4, 2, (0, 0, 0))] = true ∧ plen 31 [(.iadd, 1, (0, 0, 0)), (.istore 5, 2, (0, 0, 0)), (.iload 4, 2, (0, 0, 0))] = 36 := by decide +kernel
theorem ok_X9_give_39_2 : oks m_X9_give.1 m_X9_give.2.2.1 39 [(.iload 5, 2, (0, 0, 0)), (.iload 4, 2, (0, 0, 0))] = true ∧ plen 39 [(.iload 5, 2, (0, 0, 0)), (.iload 4, 2, (0, 0, 0))] = 43 := by decide +kernel
theorem ok_X9_give_49_1 : oks m_X9_give.1 m_X9_give.2.2.1 49 [(.iconst 0, 1, (0, 0, 0))] = true ∧ plen 49 [(.iconst 0, 1, (0, 0, 0))] = 50 := by decide +kernel
def F_X9_give (a1 : Int) (a2 : Int) (a3 : Int) (σ : Sg) : Option Int :=
bnd (F_X9_get a1 3 σ) fun v1 =>
bnd (wrap ((wrap ((wrap ((F_X9_get a1 0 σ) * a2)) + (wrap ((F_X9_get a1 1 σ) * a3)))) + (F_X9_get a1 2 σ))) fun v3 =>
if v1 ≤ 0 then
some 0
else
(F_J9_floorMod_7cf53 v3 v1).bind fun q5 =>
some q5
theorem lk_X9_give (l : Launch) (d : Nat) (hd : 2 ≤ d) (a1 : Int) (a2 : Int) (a3 : Int) (σ : Sg) (q : Int) (h : F_X9_give a1 a2 a3 σ = some q) : CT l d m_X9_give.2.1 m_X9_give.2.2.1 m_X9_give.2.2.2.1 m_X9_give.2.2.2.2 [.inr 22, .inl a1, .inl a2, .inl a3] (LAYC, σ) (some (.inl q)) (LAYC, σ) := by
  obtain ⟨d, rfl⟩ : ∃ e, d = e + 1 := ⟨d - 1, by omega⟩
  have key : Go l m_X9_give (d + 1) LAYC (.inl (some (.inl q))) σ 0 [some (.inr 22), some (.inl a1), some (.inl a2), some (.inl a3), none, none] [] σ := by
    unfold F_X9_give at h
    refine go_ops ok_X9_give_0_3 (L' := [some (.inr 22), some (.inl a1), some (.inl a2), some (.inl a3), none, none]) (st' := [.inl 3, .inl a1, .inr 22]) (σ1 := σ) rfl ?_
    refine go_V (M1 := m_X9_get) (as := [.inl a1, .inl 3]) (st := []) (k := 22) (ci := 9) dc_X9_give_3 ln_9_27 im_X9_get (by decide) rfl rfl mk_X9_get rfl (Nat.le_of_ble_eq_true rfl) (Nat.le_refl _) (v := (some (.inl (F_X9_get a1 3 σ)))) (σ1 := σ) (lk_X9_get l d (by omega) a1 3 σ _ rfl) _ rfl ?_
    obtain ⟨v1, e2, h⟩ := bnd_inv h
    refine go_ops ok_X9_give_6_4 (L' := [some (.inr 22), some (.inl a1), some (.inl a2), some (.inl a3), some (.inl v1), none]) (st' := [.inl 0, .inl a1, .inr 22]) (σ1 := σ) (by subst e2; rfl) ?_
    refine go_V (M1 := m_X9_get) (as := [.inl a1, .inl 0]) (st := []) (k := 22) (ci := 9) dc_X9_give_11 ln_9_27 im_X9_get (by decide) rfl rfl mk_X9_get rfl (Nat.le_of_ble_eq_true rfl) (Nat.le_refl _) (v := (some (.inl (F_X9_get a1 0 σ)))) (σ1 := σ) (lk_X9_get l d (by omega) a1 0 σ _ rfl) _ rfl ?_
    refine go_ops ok_X9_give_14_5 (L' := [some (.inr 22), some (.inl a1), some (.inl a2), some (.inl a3), some (.inl v1), none]) (st' := [.inl 1, .inl a1, .inr 22, .inl (wrap ((F_X9_get a1 0 σ) * a2))]) (σ1 := σ) rfl ?_
    refine go_V (M1 := m_X9_get) (as := [.inl a1, .inl 1]) (st := [.inl (wrap ((F_X9_get a1 0 σ) * a2))]) (k := 22) (ci := 9) dc_X9_give_19 ln_9_27 im_X9_get (by decide) rfl rfl mk_X9_get rfl (Nat.le_of_ble_eq_true rfl) (Nat.le_refl _) (v := (some (.inl (F_X9_get a1 1 σ)))) (σ1 := σ) (lk_X9_get l d (by omega) a1 1 σ _ rfl) _ rfl ?_
    refine go_ops ok_X9_give_22_6 (L' := [some (.inr 22), some (.inl a1), some (.inl a2), some (.inl a3), some (.inl v1), none]) (st' := [.inl 2, .inl a1, .inr 22, .inl (wrap ((wrap ((F_X9_get a1 0 σ) * a2)) + (wrap ((F_X9_get a1 1 σ) * a3))))]) (σ1 := σ) rfl ?_
    refine go_V (M1 := m_X9_get) (as := [.inl a1, .inl 2]) (st := [.inl (wrap ((wrap ((F_X9_get a1 0 σ) * a2)) + (wrap ((F_X9_get a1 1 σ) * a3))))]) (k := 22) (ci := 9) dc_X9_give_28 ln_9_27 im_X9_get (by decide) rfl rfl mk_X9_get rfl (Nat.le_of_ble_eq_true rfl) (Nat.le_refl _) (v := (some (.inl (F_X9_get a1 2 σ)))) (σ1 := σ) (lk_X9_get l d (by omega) a1 2 σ _ rfl) _ rfl ?_
    obtain ⟨v3, e4, h⟩ := bnd_inv h
    refine go_ops ok_X9_give_31_3 (L' := [some (.inr 22), some (.inl a1), some (.inl a2), some (.inl a3), some (.inl v1), some (.inl v3)]) (st' := [.inl v1]) (σ1 := σ) (by subst e4; rfl) ?_
    refine go_if_le dc_X9_give_36 (by rfl) (fun hc => ?_) (fun hc => ?_)
    · replace h := (if_pos hc).symm.trans h
      refine go_ops ok_X9_give_49_1 (L' := [some (.inr 22), some (.inl a1), some (.inl a2), some (.inl a3), some (.inl v1), some (.inl v3)]) (st' := [.inl 0]) (σ1 := σ) rfl ?_
      have h9 := Option.some.inj h
      subst h9
      exact go_iret dc_X9_give_50 rfl
    · replace h := (if_neg hc).symm.trans h
      refine go_ops ok_X9_give_39_2 (L' := [some (.inr 22), some (.inl a1), some (.inl a2), some (.inl a3), some (.inl v1), some (.inl v3)]) (st' := [.inl v1, .inl v3]) (σ1 := σ) rfl ?_
      obtain ⟨q5, e6, h⟩ := bind_inv h
      refine go_S (M1 := m_J9_floorMod_7cf53) (as := [.inl v3, .inl v1]) (st := []) dc_X9_give_43 ln_9_31 sm_J9_floorMod_7cf53 mk_J9_floorMod_7cf53 rfl (Nat.le_of_ble_eq_true rfl) (Nat.le_refl _) (v := (some (.inl q5))) (σ1 := σ) (lk_J9_floorMod_7cf53 l d (by omega) v3 v1 σ q5 e6) _ rfl ?_
      refine go_goto dc_X9_give_46 (by rfl) ?_
      have h9 := Option.some.inj h
      subst h9
      exact go_iret dc_X9_give_50 rfl
  have hf := go_ct (as := [.inr 22, .inl a1, .inl a2, .inl a3]) mk_X9_give (by rfl) (Nat.le_of_ble_eq_true rfl) key
  exact hf
theorem dc_X10_putGiven_2 : decode m_X10_putGiven.2.2.1 2 = .ok (.invokestatic 331, 3) := by decide +kernel
theorem dc_X10_putGiven_28 : decode m_X10_putGiven.2.2.1 28 = .ok (.invokestatic 335, 3) := by decide +kernel
theorem dc_X10_putGiven_31 : decode m_X10_putGiven.2.2.1 31 = .ok (.return_, 1) := by decide +kernel
theorem ok_X10_putGiven_0_2 : oks m_X10_putGiven.1 m_X10_putGiven.2.2.1 0 [(.aload_n 0, 1, (0, 0, 0)), (.iload_n 2, 1, (0, 0, 0))] = true ∧ plen 0 [(.aload_n 0, 1, (0, 0, 0)), (.iload_n 2, 1, (0, 0, 0))] = 2 := by decide +kernel
theorem ok_X10_putGiven_5_20 : oks m_X10_putGiven.1 m_X10_putGiven.2.2.1 5 [(.bipush 15, 2, (0, 0, 0)), (.iconst 4, 1, (0, 0, 0)), (.iload_n 1, 1, (0, 0, 0)), (.imul, 1, (0, 0, 0)), (.ishl, 1, (0, 0, 0)), (.iconst (-1), 1, (0, 0, 0)), (.ixor, 1, (0, 0, 0)), (.iand, 1, (0, 0, 0)), (.istore 4, 2, (0, 0, 0)), (.aload_n 0, 1, (0, 0, 0)), (.iload_n 2, 1, (0, 0, 0)), (.iload 4, 2, (0, 0, 0)), (.iload_n 3, 1, (0, 0, 0)), (.iconst 1, 1, (0, 0, 0)), (.iadd, 1, (0, 0, 0)), (.iconst 4, 1, (0, 0, 0)), (.iload_n 1, 1, (0, 0, 0)), (.imul, 1, (0, 0, 0)), (.ishl, 1, (0, 0, 0)), (.ior, 1, (0, 0, 0))] = true ∧ plen 5 [(.bipush 15, 2, (0, 0, 0)), (.iconst 4, 1, (0, 0, 0)), (.iload_n 1, 1, (0, 0, 0)), (.imul, 1, (0, 0, 0)), (.ishl, 1, (0, 0, 0)), (.iconst (-1), 1, (0, 0, 0)), (.ixor, 1, (0, 0, 0)), (.iand, 1, (0, 0, 0)), (.istore 4, 2, (0, 0, 0)), (.aload_n 0, 1, (0, 0, 0)), (.iload_n 2, 1, (0, 0, 0)), (.iload 4, 2, (0, 0, 0)), (.iload_n 3, 1, (0, 0, 0)), (.iconst 1, 1, (0, 0, 0)), (.iadd, 1, (0, 0, 0)), (.iconst 4, 1, (0, 0, 0)), (.iload_n 1, 1, (0, 0, 0)), (.imul, 1, (0, 0, 0)), (.ishl, 1, (0, 0, 0)), (.ior, 1, (0, 0, 0))] = 28 := by decide +kernel
def F_X10_putGiven (t : Nat) (a1 : Int) (a2 : Int) (a3 : Int) (σ : Sg) : Sg :=
bnd (jand (rdD 0 σ t 469 a2) (jxor (jshl 15 (wrap (4 * a1))) (-1))) fun v1 =>
bnd (wrD σ t 469 a2 (jor v1 (jshl (wrap (a3 + 1)) (wrap (4 * a1))))) fun s3 =>
s3
theorem lk_X10_putGiven_29 (l : Launch) (d : Nat) (hd : 1 ≤ d) (a1 : Int) (a2 : Int) (a3 : Int) (σ : Sg) (q : Sg) (h : F_X10_putGiven 29 a1 a2 a3 σ = q) : CT l d m_X10_putGiven.2.1 m_X10_putGiven.2.2.1 m_X10_putGiven.2.2.2.1 m_X10_putGiven.2.2.2.2 [.inr 29, .inl a1, .inl a2, .inl a3] (LAYC, σ) none (LAYC, q) := by
  obtain ⟨d, rfl⟩ : ∃ e, d = e + 1 := ⟨d - 1, by omega⟩
  have key : Go l m_X10_putGiven (d + 1) LAYC (.inl none) q 0 [some (.inr 29), some (.inl a1), some (.inl a2), some (.inl a3), none] [] σ := by
    unfold F_X10_putGiven at h
    refine go_ops ok_X10_putGiven_0_2 (L' := [some (.inr 29), some (.inl a1), some (.inl a2), some (.inl a3), none]) (st' := [.inl a2, .inr 29]) (σ1 := σ) rfl ?_
    refine go_S (M1 := m_X10_atOrZero) (as := [.inr 29, .inl a2]) (st := []) dc_X10_putGiven_2 ln_10_331 sm_X10_atOrZero mk_X10_atOrZero rfl (Nat.le_of_ble_eq_true rfl) (Nat.le_refl _) (v := some (.inl (rdD 0 σ 29 469 a2))) (σ1 := σ) (lk_X10_atOrZero l d LAYC 29 469 rfl σ _) _ rfl ?_
    obtain ⟨v1, e2, h⟩ := bnd_inv h
    refine go_ops ok_X10_putGiven_5_20 (L' := [some (.inr 29), some (.inl a1), some (.inl a2), some (.inl a3), some (.inl v1)]) (st' := [.inl (jor v1 (jshl (wrap (a3 + 1)) (wrap (4 * a1)))), .inl a2, .inr 29]) (σ1 := σ) (by subst e2; rfl) ?_
    obtain ⟨s3, e4, h⟩ := bnd_inv h
    refine go_S (M1 := m_X10_put) (as := [.inr 29, .inl a2, .inl (jor v1 (jshl (wrap (a3 + 1)) (wrap (4 * a1))))]) (st := []) dc_X10_putGiven_28 ln_10_335 sm_X10_put mk_X10_put rfl (Nat.le_of_ble_eq_true rfl) (Nat.le_refl _) (v := none) (σ1 := s3) (lk_X10_put l d LAYC 29 469 rfl _ _ s3 e4) _ rfl ?_
    subst h
    exact go_vret dc_X10_putGiven_31 rfl
  have hf := go_ct (as := [.inr 29, .inl a1, .inl a2, .inl a3]) mk_X10_putGiven (by rfl) (Nat.le_of_ble_eq_true rfl) key
  exact hf
theorem lk_X10_putGiven_39 (l : Launch) (d : Nat) (hd : 1 ≤ d) (a1 : Int) (a2 : Int) (a3 : Int) (σ : Sg) (q : Sg) (h : F_X10_putGiven 39 a1 a2 a3 σ = q) : CT l d m_X10_putGiven.2.1 m_X10_putGiven.2.2.1 m_X10_putGiven.2.2.2.1 m_X10_putGiven.2.2.2.2 [.inr 39, .inl a1, .inl a2, .inl a3] (LAYC, σ) none (LAYC, q) := by
  obtain ⟨d, rfl⟩ : ∃ e, d = e + 1 := ⟨d - 1, by omega⟩
  have key : Go l m_X10_putGiven (d + 1) LAYC (.inl none) q 0 [some (.inr 39), some (.inl a1), some (.inl a2), some (.inl a3), none] [] σ := by
    unfold F_X10_putGiven at h
    refine go_ops ok_X10_putGiven_0_2 (L' := [some (.inr 39), some (.inl a1), some (.inl a2), some (.inl a3), none]) (st' := [.inl a2, .inr 39]) (σ1 := σ) rfl ?_
    refine go_S (M1 := m_X10_atOrZero) (as := [.inr 39, .inl a2]) (st := []) dc_X10_putGiven_2 ln_10_331 sm_X10_atOrZero mk_X10_atOrZero rfl (Nat.le_of_ble_eq_true rfl) (Nat.le_refl _) (v := some (.inl (rdD 0 σ 39 469 a2))) (σ1 := σ) (lk_X10_atOrZero l d LAYC 39 469 rfl σ _) _ rfl ?_
    obtain ⟨v1, e2, h⟩ := bnd_inv h
    refine go_ops ok_X10_putGiven_5_20 (L' := [some (.inr 39), some (.inl a1), some (.inl a2), some (.inl a3), some (.inl v1)]) (st' := [.inl (jor v1 (jshl (wrap (a3 + 1)) (wrap (4 * a1)))), .inl a2, .inr 39]) (σ1 := σ) (by subst e2; rfl) ?_
    obtain ⟨s3, e4, h⟩ := bnd_inv h
    refine go_S (M1 := m_X10_put) (as := [.inr 39, .inl a2, .inl (jor v1 (jshl (wrap (a3 + 1)) (wrap (4 * a1))))]) (st := []) dc_X10_putGiven_28 ln_10_335 sm_X10_put mk_X10_put rfl (Nat.le_of_ble_eq_true rfl) (Nat.le_refl _) (v := none) (σ1 := s3) (lk_X10_put l d LAYC 39 469 rfl _ _ s3 e4) _ rfl ?_
    subst h
    exact go_vret dc_X10_putGiven_31 rfl
  have hf := go_ct (as := [.inr 39, .inl a1, .inl a2, .inl a3]) mk_X10_putGiven (by rfl) (Nat.le_of_ble_eq_true rfl) key
  exact hf
theorem dc_X1_look_6 : decode m_X1_look.2.2.1 6 = .ok (.invokestatic 76, 3) := by decide +kernel
theorem dc_X1_look_12 : decode m_X1_look.2.2.1 12 = .ok (.if_icmp .eq 5, 3) := by decide +kernel
theorem dc_X1_look_16 : decode m_X1_look.2.2.1 16 = .ok (.ireturn, 1) := by decide +kernel
theorem dc_X1_look_31 : decode m_X1_look.2.2.1 31 = .ok (.invokestatic 59, 3) := by decide +kernel
theorem dc_X1_look_34 : decode m_X1_look.2.2.1 34 = .ok (.invokevirtual 80, 3) := by decide +kernel
theorem dc_X1_look_41 : decode m_X1_look.2.2.1 41 = .ok (.invokevirtual 83, 3) := by decide +kernel
theorem dc_X1_look_54 : decode m_X1_look.2.2.1 54 = .ok (.invokestatic 89, 3) := by decide +kernel
theorem dc_X1_look_77 : decode m_X1_look.2.2.1 77 = .ok (.invokestatic 55, 3) := by decide +kernel
theorem dc_X1_look_92 : decode m_X1_look.2.2.1 92 = .ok (.ireturn, 1) := by decide +kernel
theorem ok_X1_look_0_4 : oks m_X1_look.1 m_X1_look.2.2.1 0 [(.aload_n 0, 1, (0, 0, 0)), (.getfield 22, 3, (1, 6, 0)), (.iload_n 1, 1, (0, 0, 0)), (.iload_n 2, 1, (0, 0, 0))] = true ∧ plen 0 [(.aload_n 0, 1, (0, 0, 0)), (.getfield 22, 3, (1, 6, 0)), (.iload_n 1, 1, (0, 0, 0)), (.iload_n 2, 1, (0, 0, 0))] = 6 := by decide +kernel
theorem ok_X1_look_9_3 : oks m_X1_look.1 m_X1_look.2.2.1 9 [(.istore_n 3, 1, (0, 0, 0)), (.iload_n 3, 1, (0, 0, 0)), (.iconst (-1), 1, (0, 0, 0))] = true ∧ plen 9 [(.istore_n 3, 1, (0, 0, 0)), (.iload_n 3, 1, (0, 0, 0)), (.iconst (-1), 1, (0, 0, 0))] = 12 := by decide +kernel
theorem ok_X1_look_15_1 : oks m_X1_look.1 m_X1_look.2.2.1 15 [(.iload_n 3, 1, (0, 0, 0))] = true ∧ plen 15 [(.iload_n 3, 1, (0, 0, 0))] = 16 := by decide +kernel
theorem ok_X1_look_17_8 : oks m_X1_look.1 m_X1_look.2.2.1 17 [(.aload_n 0, 1, (0, 0, 0)), (.getfield 35, 3, (1, 1, 0)), (.iload_n 1, 1, (0, 0, 0)), (.aload_n 0, 1, (0, 0, 0)), (.getfield 31, 3, (1, 0, 0)), (.aload_n 0, 1, (0, 0, 0)), (.getfield 18, 3, (1, 5, 0)), (.iload_n 2, 1, (0, 0, 0))] = true ∧ plen 17 [(.aload_n 0, 1, (0, 0, 0)), (.getfield 35, 3, (1, 1, 0)), (.iload_n 1, 1, (0, 0, 0)), (.aload_n 0, 1, (0, 0, 0)), (.getfield 31, 3, (1, 0, 0)), (.aload_n 0, 1, (0, 0, 0)), (.getfield 18, 3, (1, 5, 0)), (.iload_n 2, 1, (0, 0, 0))] = 31 := by decide +kernel
theorem ok_X1_look_37_2 : oks m_X1_look.1 m_X1_look.2.2.1 37 [(.aload_n 0, 1, (0, 0, 0)), (.getfield 15, 3, (1, 4, 0))] = true ∧ plen 37 [(.aload_n 0, 1, (0, 0, 0)), (.getfield 15, 3, (1, 4, 0))] = 41 := by decide +kernel
theorem ok_X1_look_44_6 : oks m_X1_look.1 m_X1_look.2.2.1 44 [(.istore 4, 2, (0, 0, 0)), (.aload_n 0, 1, (0, 0, 0)), (.getfield 22, 3, (1, 6, 0)), (.iload_n 1, 1, (0, 0, 0)), (.iload_n 2, 1, (0, 0, 0)), (.iload 4, 2, (0, 0, 0))] = true ∧ plen 44 [(.istore 4, 2, (0, 0, 0)), (.aload_n 0, 1, (0, 0, 0)), (.getfield 22, 3, (1, 6, 0)), (.iload_n 1, 1, (0, 0, 0)), (.iload_n 2, 1, (0, 0, 0)), (.iload 4, 2, (0, 0, 0))] = 54 := by decide +kernel
theorem ok_X1_look_57_13 : oks m_X1_look.1 m_X1_look.2.2.1 57 [(.aload_n 0, 1, (0, 0, 0)), (.getfield 25, 3, (1, 7, 0)), (.aload_n 0, 1, (0, 0, 0)), (.getfield 15, 3, (1, 4, 0)), (.ldc 93, 2, (0, 0, 100000)), (.iload_n 1, 1, (0, 0, 0)), (.imul, 1, (0, 0, 0)), (.bipush 10, 2, (0, 0, 0)), (.iload_n 2, 1, (0, 0, 0)), (.imul, 1, (0, 0, 0)), (.iadd, 1, (0, 0, 0)), (.iload 4, 2, (0, 0, 0)), (.iadd, 1, (0, 0, 0))] = true ∧ plen 57 [(.aload_n 0, 1, (0, 0, 0)), (.getfield 25, 3, (1, 7, 0)), (.aload_n 0, 1, (0, 0, 0)), (.getfield 15, 3, (1, 4, 0)), (.ldc 93, 2, (0, 0, 100000)), (.iload_n 1, 1, (0, 0, 0)), (.imul, 1, (0, 0, 0)), (.bipush 10, 2, (0, 0, 0)), (.iload_n 2, 1, (0, 0, 0)), (.imul, 1, (0, 0, 0)), (.iadd, 1, (0, 0, 0)), (.iload 4, 2, (0, 0, 0)), (.iadd, 1, (0, 0, 0))] = 77 := by decide +kernel
theorem ok_X1_look_80_7 : oks m_X1_look.1 m_X1_look.2.2.1 80 [(.aload_n 0, 1, (0, 0, 0)), (.dup, 1, (0, 0, 0)), (.getfield 15, 3, (1, 4, 0)), (.iconst 1, 1, (0, 0, 0)), (.iadd, 1, (0, 0, 0)), (.putfield 15, 3, (1, 4, 0)), (.iload 4, 2, (0, 0, 0))] = true ∧ plen 80 [(.aload_n 0, 1, (0, 0, 0)), (.dup, 1, (0, 0, 0)), (.getfield 15, 3, (1, 4, 0)), (.iconst 1, 1, (0, 0, 0)), (.iadd, 1, (0, 0, 0)), (.putfield 15, 3, (1, 4, 0)), (.iload 4, 2, (0, 0, 0))] = 92 := by decide +kernel
def F_X1_look (a1 : Int) (a2 : Int) (σ : Sg) : Option (Int × Sg) :=
bnd (F_X10_givenAt 29 a1 a2 σ) fun v1 =>
if v1 = (-1) then
(F_X9_give a1 (F_X8_measureOf (rdD (-1) σ 28 469 a2) σ) (σ 27 4) σ).bind fun q3 =>
bnd (F_X10_putGiven 29 a1 a2 q3 σ) fun q5 =>
bnd (wrD q5 30 360 (q5 27 4) (wrap ((wrap ((wrap (100000 * a1)) + (wrap (10 * a2)))) + q3))) fun s7 =>
bnd (up2 s7 27 4 (wrap ((s7 27 4) + 1))) fun s9 =>
some (q3, s9)
else
some (v1, σ)
theorem lk_X1_look (l : Launch) (d : Nat) (hd : 3 ≤ d) (a1 : Int) (a2 : Int) (σ : Sg) (q : (Int × Sg)) (h : F_X1_look a1 a2 σ = some q) : CT l d m_X1_look.2.1 m_X1_look.2.2.1 m_X1_look.2.2.2.1 m_X1_look.2.2.2.2 [.inr 27, .inl a1, .inl a2] (LAYC, σ) (some (.inl q.1)) (LAYC, q.2) := by
  obtain ⟨d, rfl⟩ : ∃ e, d = e + 1 := ⟨d - 1, by omega⟩
  have key : Go l m_X1_look (d + 1) LAYC (.inl (some (.inl q.1))) q.2 0 [some (.inr 27), some (.inl a1), some (.inl a2), none, none] [] σ := by
    unfold F_X1_look at h
    refine go_ops ok_X1_look_0_4 (L' := [some (.inr 27), some (.inl a1), some (.inl a2), none, none]) (st' := [.inl a2, .inl a1, .inr 29]) (σ1 := σ) rfl ?_
    refine go_SN (M1 := m_X10_givenAt) (as := [.inr 29, .inl a1, .inl a2]) (st := []) dc_X1_look_6 ln_1_76 sm_X10_givenAt mk_X10_givenAt rfl (Nat.le_of_ble_eq_true rfl) (Nat.le_refl _) (v := (some (.inl (F_X10_givenAt 29 a1 a2 σ)))) (σ1 := σ) (lk_X10_givenAt_29 l d (by omega) a1 a2 σ _ rfl) _ rfl ?_
    obtain ⟨v1, e2, h⟩ := bnd_inv h
    refine go_ops ok_X1_look_9_3 (L' := [some (.inr 27), some (.inl a1), some (.inl a2), some (.inl v1), none]) (st' := [.inl (-1), .inl v1]) (σ1 := σ) (by subst e2; rfl) ?_
    refine go_icmp_eq dc_X1_look_12 (by rfl) (fun hc => ?_) (fun hc => ?_)
    · replace h := (if_pos hc).symm.trans h
      refine go_ops ok_X1_look_17_8 (L' := [some (.inr 27), some (.inl a1), some (.inl a2), some (.inl v1), none]) (st' := [.inl a2, .inr 28, .inr 5, .inl a1, .inr 22]) (σ1 := σ) rfl ?_
      refine go_SN (M1 := m_X10_at) (as := [.inr 28, .inl a2]) (st := [.inr 5, .inl a1, .inr 22]) dc_X1_look_31 ln_1_59 sm_X10_at mk_X10_at rfl (Nat.le_of_ble_eq_true rfl) (Nat.le_refl _) (v := some (.inl (rdD (-1) σ 28 469 a2))) (σ1 := σ) (lk_X10_at l d LAYC 28 469 rfl σ _) _ rfl ?_
      refine go_V (M1 := m_X8_measureOf) (as := [.inl (rdD (-1) σ 28 469 a2)]) (st := [.inl a1, .inr 22]) (k := 5) (ci := 8) dc_X1_look_34 ln_1_80 im_X8_measureOf (by decide) rfl rfl mk_X8_measureOf rfl (Nat.le_of_ble_eq_true rfl) (Nat.le_refl _) (v := (some (.inl (F_X8_measureOf (rdD (-1) σ 28 469 a2) σ)))) (σ1 := σ) (lk_X8_measureOf l d (by omega) (rdD (-1) σ 28 469 a2) σ _ rfl) _ rfl ?_
      refine go_ops ok_X1_look_37_2 (L' := [some (.inr 27), some (.inl a1), some (.inl a2), some (.inl v1), none]) (st' := [.inl (σ 27 4), .inl (F_X8_measureOf (rdD (-1) σ 28 469 a2) σ), .inl a1, .inr 22]) (σ1 := σ) rfl ?_
      obtain ⟨q3, e4, h⟩ := bind_inv h
      refine go_V (M1 := m_X9_give) (as := [.inl a1, .inl (F_X8_measureOf (rdD (-1) σ 28 469 a2) σ), .inl (σ 27 4)]) (st := []) (k := 22) (ci := 9) dc_X1_look_41 ln_1_83 im_X9_give (by decide) rfl rfl mk_X9_give rfl (Nat.le_of_ble_eq_true rfl) (Nat.le_refl _) (v := (some (.inl q3))) (σ1 := σ) (lk_X9_give l d (by omega) a1 (F_X8_measureOf (rdD (-1) σ 28 469 a2) σ) (σ 27 4) σ q3 e4) _ rfl ?_
      refine go_ops ok_X1_look_44_6 (L' := [some (.inr 27), some (.inl a1), some (.inl a2), some (.inl v1), some (.inl q3)]) (st' := [.inl q3, .inl a2, .inl a1, .inr 29]) (σ1 := σ) rfl ?_
      obtain ⟨q5, e6, h⟩ := bnd_inv h
      refine go_SN (M1 := m_X10_putGiven) (as := [.inr 29, .inl a1, .inl a2, .inl q3]) (st := []) dc_X1_look_54 ln_1_89 sm_X10_putGiven mk_X10_putGiven rfl (Nat.le_of_ble_eq_true rfl) (Nat.le_refl _) (v := none) (σ1 := q5) (lk_X10_putGiven_29 l d (by omega) a1 a2 q3 σ q5 e6.symm) _ rfl ?_
      refine go_ops ok_X1_look_57_13 (L' := [some (.inr 27), some (.inl a1), some (.inl a2), some (.inl v1), some (.inl q3)]) (st' := [.inl (wrap ((wrap ((wrap (100000 * a1)) + (wrap (10 * a2)))) + q3)), .inl (q5 27 4), .inr 30]) (σ1 := q5) rfl ?_
      obtain ⟨s7, e8, h⟩ := bnd_inv h
      refine go_SN (M1 := m_X10_put) (as := [.inr 30, .inl (q5 27 4), .inl (wrap ((wrap ((wrap (100000 * a1)) + (wrap (10 * a2)))) + q3))]) (st := []) dc_X1_look_77 ln_1_55 sm_X10_put mk_X10_put rfl (Nat.le_of_ble_eq_true rfl) (Nat.le_refl _) (v := none) (σ1 := s7) (lk_X10_put l d LAYC 30 360 rfl _ _ s7 e8) _ rfl ?_
      obtain ⟨s9, e10, h⟩ := bnd_inv h
      refine go_ops ok_X1_look_80_7 (L' := [some (.inr 27), some (.inl a1), some (.inl a2), some (.inl v1), some (.inl q3)]) (st' := [.inl q3]) (σ1 := s9) (by subst e10; rfl) ?_
      have h9 := Option.some.inj h
      subst h9
      exact go_iret dc_X1_look_92 rfl
    · replace h := (if_neg hc).symm.trans h
      refine go_ops ok_X1_look_15_1 (L' := [some (.inr 27), some (.inl a1), some (.inl a2), some (.inl v1), none]) (st' := [.inl v1]) (σ1 := σ) rfl ?_
      have h9 := Option.some.inj h
      subst h9
      exact go_iret dc_X1_look_16 rfl
  have hf := go_ct (as := [.inr 27, .inl a1, .inl a2]) mk_X1_look (by rfl) (Nat.le_of_ble_eq_true rfl) key
  exact hf
theorem dc_X0_follow_5 : decode m_X0_follow.2.2.1 5 = .ok (.invokestatic 67, 3) := by decide +kernel
theorem dc_X0_follow_19 : decode m_X0_follow.2.2.1 19 = .ok (.invokestatic 67, 3) := by decide +kernel
theorem dc_X0_follow_27 : decode m_X0_follow.2.2.1 27 = .ok (.invokevirtual 47, 3) := by decide +kernel
theorem dc_X0_follow_34 : decode m_X0_follow.2.2.1 34 = .ok (.invokevirtual 51, 3) := by decide +kernel
theorem dc_X0_follow_37 : decode m_X0_follow.2.2.1 37 = .ok (.tableswitch 201 0 7 #[47, 56, 68, 86, 113, 125, 161, 177], 47) := by decide +kernel
theorem dc_X0_follow_88 : decode m_X0_follow.2.2.1 88 = .ok (.invokevirtual 75, 3) := by decide +kernel
theorem dc_X0_follow_92 : decode m_X0_follow.2.2.1 92 = .ok (.ireturn, 1) := by decide +kernel
theorem dc_X0_follow_100 : decode m_X0_follow.2.2.1 100 = .ok (.invokestatic 78, 3) := by decide +kernel
theorem dc_X0_follow_104 : decode m_X0_follow.2.2.1 104 = .ok (.ireturn, 1) := by decide +kernel
theorem dc_X0_follow_115 : decode m_X0_follow.2.2.1 115 = .ok (.invokestatic 82, 3) := by decide +kernel
theorem dc_X0_follow_118 : decode m_X0_follow.2.2.1 118 = .ok (.invokestatic 78, 3) := by decide +kernel
theorem dc_X0_follow_122 : decode m_X0_follow.2.2.1 122 = .ok (.ireturn, 1) := by decide +kernel
theorem dc_X0_follow_136 : decode m_X0_follow.2.2.1 136 = .ok (.invokevirtual 85, 3) := by decide +kernel
theorem dc_X0_follow_142 : decode m_X0_follow.2.2.1 142 = .ok (.invokestatic 82, 3) := by decide +kernel
theorem dc_X0_follow_145 : decode m_X0_follow.2.2.1 145 = .ok (.invokestatic 78, 3) := by decide +kernel
theorem dc_X0_follow_149 : decode m_X0_follow.2.2.1 149 = .ok (.ireturn, 1) := by decide +kernel
theorem dc_X0_follow_157 : decode m_X0_follow.2.2.1 157 = .ok (.invokevirtual 88, 3) := by decide +kernel
theorem dc_X0_follow_161 : decode m_X0_follow.2.2.1 161 = .ok (.ireturn, 1) := by decide +kernel
theorem dc_X0_follow_166 : decode m_X0_follow.2.2.1 166 = .ok (.invokevirtual 92, 3) := by decide +kernel
theorem dc_X0_follow_174 : decode m_X0_follow.2.2.1 174 = .ok (.invokevirtual 95, 3) := by decide +kernel
theorem dc_X0_follow_182 : decode m_X0_follow.2.2.1 182 = .ok (.invokevirtual 85, 3) := by decide +kernel
theorem dc_X0_follow_191 : decode m_X0_follow.2.2.1 191 = .ok (.invokevirtual 47, 3) := by decide +kernel
theorem dc_X0_follow_194 : decode m_X0_follow.2.2.1 194 = .ok (.invokestatic 99, 3) := by decide +kernel
theorem dc_X0_follow_197 : decode m_X0_follow.2.2.1 197 = .ok (.ireturn, 1) := by decide +kernel
theorem dc_X0_follow_206 : decode m_X0_follow.2.2.1 206 = .ok (.invokevirtual 103, 3) := by decide +kernel
theorem dc_X0_follow_213 : decode m_X0_follow.2.2.1 213 = .ok (.ireturn, 1) := by decide +kernel
theorem dc_X0_follow_218 : decode m_X0_follow.2.2.1 218 = .ok (.invokevirtual 92, 3) := by decide +kernel
theorem dc_X0_follow_231 : decode m_X0_follow.2.2.1 231 = .ok (.invokevirtual 47, 3) := by decide +kernel
theorem dc_X0_follow_234 : decode m_X0_follow.2.2.1 234 = .ok (.invokestatic 99, 3) := by decide +kernel
theorem dc_X0_follow_237 : decode m_X0_follow.2.2.1 237 = .ok (.ireturn, 1) := by decide +kernel
theorem dc_X0_follow_239 : decode m_X0_follow.2.2.1 239 = .ok (.ireturn, 1) := by decide +kernel
theorem ok_X0_follow_0_3 : oks m_X0_follow.1 m_X0_follow.2.2.1 0 [(.aload_n 0, 1, (0, 0, 0)), (.getfield 22, 3, (0, 6, 0)), (.iload_n 1, 1, (0, 0, 0))] = true ∧ plen 0 [(.aload_n 0, 1, (0, 0, 0)), (.getfield 22, 3, (0, 6, 0)), (.iload_n 1, 1, (0, 0, 0))] = 5 := by decide +kernel
theorem ok_X0_follow_8_8 : oks m_X0_follow.1 m_X0_follow.2.2.1 8 [(.iconst 4, 1, (0, 0, 0)), (.ishr, 1, (0, 0, 0)), (.bipush 15, 2, (0, 0, 0)), (.iand, 1, (0, 0, 0)), (.istore_n 2, 1, (0, 0, 0)), (.aload_n 0, 1, (0, 0, 0)), (.getfield 29, 3, (0, 8, 0)), (.iload_n 2, 1, (0, 0, 0))] = true ∧ plen 8 [(.iconst 4, 1, (0, 0, 0)), (.ishr, 1, (0, 0, 0)), (.bipush 15, 2, (0, 0, 0)), (.iand, 1, (0, 0, 0)), (.istore_n 2, 1, (0, 0, 0)), (.aload_n 0, 1, (0, 0, 0)), (.getfield 29, 3, (0, 8, 0)), (.iload_n 2, 1, (0, 0, 0))] = 19 := by decide +kernel
theorem ok_X0_follow_22_4 : oks m_X0_follow.1 m_X0_follow.2.2.1 22 [(.istore_n 3, 1, (0, 0, 0)), (.aload_n 0, 1, (0, 0, 0)), (.iload_n 1, 1, (0, 0, 0)), (.bipush 8, 2, (0, 0, 0))] = true ∧ plen 22 [(.istore_n 3, 1, (0, 0, 0)), (.aload_n 0, 1, (0, 0, 0)), (.iload_n 1, 1, (0, 0, 0)), (.bipush 8, 2, (0, 0, 0))] = 27 := by decide +kernel
theorem ok_X0_follow_30_3 : oks m_X0_follow.1 m_X0_follow.2.2.1 30 [(.istore 4, 2, (0, 0, 0)), (.aload_n 0, 1, (0, 0, 0)), (.iload_n 1, 1, (0, 0, 0))] = true ∧ plen 30 [(.istore 4, 2, (0, 0, 0)), (.aload_n 0, 1, (0, 0, 0)), (.iload_n 1, 1, (0, 0, 0))] = 34 := by decide +kernel
theorem ok_X0_follow_84_2 : oks m_X0_follow.1 m_X0_follow.2.2.1 84 [(.aload_n 0, 1, (0, 0, 0)), (.getfield 40, 3, (0, 2, 0))] = true ∧ plen 84 [(.aload_n 0, 1, (0, 0, 0)), (.getfield 40, 3, (0, 2, 0))] = 88 := by decide +kernel
theorem ok_X0_follow_91_1 : oks m_X0_follow.1 m_X0_follow.2.2.1 91 [(.iconst 1, 1, (0, 0, 0))] = true ∧ plen 91 [(.iconst 1, 1, (0, 0, 0))] = 92 := by decide +kernel
theorem ok_X0_follow_93_4 : oks m_X0_follow.1 m_X0_follow.2.2.1 93 [(.aload_n 0, 1, (0, 0, 0)), (.getfield 29, 3, (0, 8, 0)), (.iconst 0, 1, (0, 0, 0)), (.iload 4, 2, (0, 0, 0))] = true ∧ plen 93 [(.aload_n 0, 1, (0, 0, 0)), (.getfield 29, 3, (0, 8, 0)), (.iconst 0, 1, (0, 0, 0)), (.iload 4, 2, (0, 0, 0))] = 100 := by decide +kernel
theorem ok_X0_follow_103_1 : oks m_X0_follow.1 m_X0_follow.2.2.1 103 [(.iconst 1, 1, (0, 0, 0))] = true ∧ plen 103 [(.iconst 1, 1, (0, 0, 0))] = 104 := by decide +kernel
theorem ok_X0_follow_105_7 : oks m_X0_follow.1 m_X0_follow.2.2.1 105 [(.aload_n 0, 1, (0, 0, 0)), (.getfield 29, 3, (0, 8, 0)), (.iload_n 2, 1, (0, 0, 0)), (.iconst 1, 1, (0, 0, 0)), (.iadd, 1, (0, 0, 0)), (.iload_n 3, 1, (0, 0, 0)), (.iload 4, 2, (0, 0, 0))] = true ∧ plen 105 [(.aload_n 0, 1, (0, 0, 0)), (.getfield 29, 3, (0, 8, 0)), (.iload_n 2, 1, (0, 0, 0)), (.iconst 1, 1, (0, 0, 0)), (.iadd, 1, (0, 0, 0)), (.iload_n 3, 1, (0, 0, 0)), (.iload 4, 2, (0, 0, 0))] = 115 := by decide +kernel
theorem ok_X0_follow_121_1 : oks m_X0_follow.1 m_X0_follow.2.2.1 121 [(.iconst 1, 1, (0, 0, 0))] = true ∧ plen 121 [(.iconst 1, 1, (0, 0, 0))] = 122 := by decide +kernel
theorem ok_X0_follow_123_9 : oks m_X0_follow.1 m_X0_follow.2.2.1 123 [(.aload_n 0, 1, (0, 0, 0)), (.getfield 29, 3, (0, 8, 0)), (.iload_n 2, 1, (0, 0, 0)), (.iconst 1, 1, (0, 0, 0)), (.iadd, 1, (0, 0, 0)), (.iload_n 3, 1, (0, 0, 0)), (.aload_n 0, 1, (0, 0, 0)), (.getfield 40, 3, (0, 2, 0)), (.iload_n 3, 1, (0, 0, 0))] = true ∧ plen 123 [(.aload_n 0, 1, (0, 0, 0)), (.getfield 29, 3, (0, 8, 0)), (.iload_n 2, 1, (0, 0, 0)), (.iconst 1, 1, (0, 0, 0)), (.iadd, 1, (0, 0, 0)), (.iload_n 3, 1, (0, 0, 0)), (.aload_n 0, 1, (0, 0, 0)), (.getfield 40, 3, (0, 2, 0)), (.iload_n 3, 1, (0, 0, 0))] = 136 := by decide +kernel
theorem ok_X0_follow_139_2 : oks m_X0_follow.1 m_X0_follow.2.2.1 139 [(.iload 4, 2, (0, 0, 0)), (.isub, 1, (0, 0, 0))] = true ∧ plen 139 [(.iload 4, 2, (0, 0, 0)), (.isub, 1, (0, 0, 0))] = 142 := by decide +kernel
theorem ok_X0_follow_148_1 : oks m_X0_follow.1 m_X0_follow.2.2.1 148 [(.iconst 1, 1, (0, 0, 0))] = true ∧ plen 148 [(.iconst 1, 1, (0, 0, 0))] = 149 := by decide +kernel
theorem ok_X0_follow_150_4 : oks m_X0_follow.1 m_X0_follow.2.2.1 150 [(.aload_n 0, 1, (0, 0, 0)), (.getfield 40, 3, (0, 2, 0)), (.iload 4, 2, (0, 0, 0)), (.iload_n 3, 1, (0, 0, 0))] = true ∧ plen 150 [(.aload_n 0, 1, (0, 0, 0)), (.getfield 40, 3, (0, 2, 0)), (.iload 4, 2, (0, 0, 0)), (.iload_n 3, 1, (0, 0, 0))] = 157 := by decide +kernel
theorem ok_X0_follow_160_1 : oks m_X0_follow.1 m_X0_follow.2.2.1 160 [(.iconst 1, 1, (0, 0, 0))] = true ∧ plen 160 [(.iconst 1, 1, (0, 0, 0))] = 161 := by decide +kernel
theorem ok_X0_follow_162_2 : oks m_X0_follow.1 m_X0_follow.2.2.1 162 [(.aload_n 0, 1, (0, 0, 0)), (.getfield 40, 3, (0, 2, 0))] = true ∧ plen 162 [(.aload_n 0, 1, (0, 0, 0)), (.getfield 40, 3, (0, 2, 0))] = 166 := by decide +kernel
theorem ok_X0_follow_169_3 : oks m_X0_follow.1 m_X0_follow.2.2.1 169 [(.aload_n 0, 1, (0, 0, 0)), (.getfield 40, 3, (0, 2, 0)), (.iload_n 3, 1, (0, 0, 0))] = true ∧ plen 169 [(.aload_n 0, 1, (0, 0, 0)), (.getfield 40, 3, (0, 2, 0)), (.iload_n 3, 1, (0, 0, 0))] = 174 := by decide +kernel
theorem ok_X0_follow_177_3 : oks m_X0_follow.1 m_X0_follow.2.2.1 177 [(.aload_n 0, 1, (0, 0, 0)), (.getfield 40, 3, (0, 2, 0)), (.iload_n 3, 1, (0, 0, 0))] = true ∧ plen 177 [(.aload_n 0, 1, (0, 0, 0)), (.getfield 40, 3, (0, 2, 0)), (.iload_n 3, 1, (0, 0, 0))] = 182 := by decide +kernel
theorem ok_X0_follow_185_4 : oks m_X0_follow.1 m_X0_follow.2.2.1 185 [(.iload 4, 2, (0, 0, 0)), (.aload_n 0, 1, (0, 0, 0)), (.iload_n 1, 1, (0, 0, 0)), (.bipush 16, 2, (0, 0, 0))] = true ∧ plen 185 [(.iload 4, 2, (0, 0, 0)), (.aload_n 0, 1, (0, 0, 0)), (.iload_n 1, 1, (0, 0, 0)), (.bipush 16, 2, (0, 0, 0))] = 191 := by decide +kernel
theorem ok_X0_follow_198_5 : oks m_X0_follow.1 m_X0_follow.2.2.1 198 [(.aload_n 0, 1, (0, 0, 0)), (.aload_n 0, 1, (0, 0, 0)), (.getfield 40, 3, (0, 2, 0)), (.iload 4, 2, (0, 0, 0)), (.iload_n 3, 1, (0, 0, 0))] = true ∧ plen 198 [(.aload_n 0, 1, (0, 0, 0)), (.aload_n 0, 1, (0, 0, 0)), (.getfield 40, 3, (0, 2, 0)), (.iload 4, 2, (0, 0, 0)), (.iload_n 3, 1, (0, 0, 0))] = 206 := by decide +kernel
theorem ok_X0_follow_209_2 : oks m_X0_follow.1 m_X0_follow.2.2.1 209 [(.putfield 19, 3, (0, 5, 0)), (.iconst 1, 1, (0, 0, 0))] = true ∧ plen 209 [(.putfield 19, 3, (0, 5, 0)), (.iconst 1, 1, (0, 0, 0))] = 213 := by decide +kernel
theorem ok_X0_follow_214_2 : oks m_X0_follow.1 m_X0_follow.2.2.1 214 [(.aload_n 0, 1, (0, 0, 0)), (.getfield 40, 3, (0, 2, 0))] = true ∧ plen 214 [(.aload_n 0, 1, (0, 0, 0)), (.getfield 40, 3, (0, 2, 0))] = 218 := by decide +kernel
theorem ok_X0_follow_221_6 : oks m_X0_follow.1 m_X0_follow.2.2.1 221 [(.aload_n 0, 1, (0, 0, 0)), (.getfield 19, 3, (0, 5, 0)), (.iload 4, 2, (0, 0, 0)), (.aload_n 0, 1, (0, 0, 0)), (.iload_n 1, 1, (0, 0, 0)), (.bipush 16, 2, (0, 0, 0))] = true ∧ plen 221 [(.aload_n 0, 1, (0, 0, 0)), (.getfield 19, 3, (0, 5, 0)), (.iload 4, 2, (0, 0, 0)), (.aload_n 0, 1, (0, 0, 0)), (.iload_n 1, 1, (0, 0, 0)), (.bipush 16, 2, (0, 0, 0))] = 231 := by decide +kernel
theorem ok_X0_follow_238_1 : oks m_X0_follow.1 m_X0_follow.2.2.1 238 [(.iconst 0, 1, (0, 0, 0))] = true ∧ plen 238 [(.iconst 0, 1, (0, 0, 0))] = 239 := by decide +kernel
def F_X0_follow (a1 : Int) (σ : Sg) : Option (Bool × Sg) :=
bnd (jand (jshr (rdD (-1) σ 34 1969 a1) 4) 15) fun v1 =>
bnd (rdD (-1) σ 36 5 v1) fun v3 =>
bnd (F_X0_numberIn a1 8 σ) fun v5 =>
if (F_X0_operationIn a1 σ) = 0 then
bnd (F_X1_unbind σ) fun q7 =>
some (true, q7)
else if (F_X0_operationIn a1 σ) = 1 then
bnd (wrD σ 36 5 0 v5) fun s10 =>
some (true, s10)
else if (F_X0_operationIn a1 σ) = 2 then
bnd (wrD σ 36 5 (wrap (v1 + 1)) (F_X10_inner v3 v5)) fun s13 =>
some (true, s13)
else if (F_X0_operationIn a1 σ) = 3 then
bnd (wrD σ 36 5 (wrap (v1 + 1)) (F_X10_inner v3 (wrap ((F_X1_headAt v3 σ) - v5)))) fun s16 =>
some (true, s16)
else if (F_X0_operationIn a1 σ) = 4 then
bnd (F_X1_bind v5 v3 σ) fun q19 =>
some (true, q19)
else if (F_X0_operationIn a1 σ) = 5 then
bnd (F_X1_countTest σ) fun q22 =>
(F_X1_open v3 q22).bind fun q24 =>
some (F_X10_isIn (F_X1_headAt v3 q24) v5 (F_X0_numberIn a1 16 q24), q24)
else if (F_X0_operationIn a1 σ) = 6 then
(F_X1_look v5 v3 σ).bind fun q27 =>
bnd (up2 q27.2 33 5 q27.1) fun s29 =>
some (true, s29)
else if (F_X0_operationIn a1 σ) = 7 then
bnd (F_X1_countTest σ) fun q32 =>
some (F_X10_isIn (q32 33 5) v5 (F_X0_numberIn a1 16 q32), q32)
else some (false, σ)
theorem lk_X0_follow (l : Launch) (d : Nat) (hd : 4 ≤ d) (a1 : Int) (σ : Sg) (q : (Bool × Sg)) (h : F_X0_follow a1 σ = some q) : CT l d m_X0_follow.2.1 m_X0_follow.2.2.1 m_X0_follow.2.2.2.1 m_X0_follow.2.2.2.2 [.inr 33, .inl a1] (LAYC, σ) (some (.inl (b2i q.1))) (LAYC, q.2) := by
  obtain ⟨d, rfl⟩ : ∃ e, d = e + 1 := ⟨d - 1, by omega⟩
  have key : Go l m_X0_follow (d + 1) LAYC (.inl (some (.inl (b2i q.1)))) q.2 0 [some (.inr 33), some (.inl a1), none, none, none] [] σ := by
    unfold F_X0_follow at h
    refine go_ops ok_X0_follow_0_3 (L' := [some (.inr 33), some (.inl a1), none, none, none]) (st' := [.inl a1, .inr 34]) (σ1 := σ) rfl ?_
    refine go_SN (M1 := m_X10_at) (as := [.inr 34, .inl a1]) (st := []) dc_X0_follow_5 ln_0_67 sm_X10_at mk_X10_at rfl (Nat.le_of_ble_eq_true rfl) (Nat.le_refl _) (v := some (.inl (rdD (-1) σ 34 1969 a1))) (σ1 := σ) (lk_X10_at l d LAYC 34 1969 rfl σ _) _ rfl ?_
    obtain ⟨v1, e2, h⟩ := bnd_inv h
    refine go_ops ok_X0_follow_8_8 (L' := [some (.inr 33), some (.inl a1), some (.inl v1), none, none]) (st' := [.inl v1, .inr 36]) (σ1 := σ) (by subst e2; rfl) ?_
    refine go_SN (M1 := m_X10_at) (as := [.inr 36, .inl v1]) (st := []) dc_X0_follow_19 ln_0_67 sm_X10_at mk_X10_at rfl (Nat.le_of_ble_eq_true rfl) (Nat.le_refl _) (v := some (.inl (rdD (-1) σ 36 5 v1))) (σ1 := σ) (lk_X10_at l d LAYC 36 5 rfl σ _) _ rfl ?_
    obtain ⟨v3, e4, h⟩ := bnd_inv h
    refine go_ops ok_X0_follow_22_4 (L' := [some (.inr 33), some (.inl a1), some (.inl v1), some (.inl v3), none]) (st' := [.inl 8, .inl a1, .inr 33]) (σ1 := σ) (by subst e4; rfl) ?_
    refine go_V (M1 := m_X0_numberIn) (as := [.inl a1, .inl 8]) (st := []) (k := 33) (ci := 0) dc_X0_follow_27 ln_0_47 im_X0_numberIn (by decide) rfl rfl mk_X0_numberIn rfl (Nat.le_of_ble_eq_true rfl) (Nat.le_refl _) (v := (some (.inl (F_X0_numberIn a1 8 σ)))) (σ1 := σ) (lk_X0_numberIn l d (by omega) a1 8 σ _ rfl) _ rfl ?_
    obtain ⟨v5, e6, h⟩ := bnd_inv h
    refine go_ops ok_X0_follow_30_3 (L' := [some (.inr 33), some (.inl a1), some (.inl v1), some (.inl v3), some (.inl v5)]) (st' := [.inl a1, .inr 33]) (σ1 := σ) (by subst e6; rfl) ?_
    refine go_V (M1 := m_X0_operationIn) (as := [.inl a1]) (st := []) (k := 33) (ci := 0) dc_X0_follow_34 ln_0_51 im_X0_operationIn (by decide) rfl rfl mk_X0_operationIn rfl (Nat.le_of_ble_eq_true rfl) (Nat.le_refl _) (v := (some (.inl (F_X0_operationIn a1 σ)))) (σ1 := σ) (lk_X0_operationIn l d (by omega) a1 σ _ rfl) _ rfl ?_
    rcases Decidable.em ((F_X0_operationIn a1 σ) = 0) with hs9 | hs9
    · replace h := (if_pos hs9).symm.trans h
      refine go_tsw (off := 47) dc_X0_follow_37 (by decide) (by decide) (tsk hs9 (by decide +kernel)) (by rfl) ?_
      refine go_ops ok_X0_follow_84_2 (L' := [some (.inr 33), some (.inl a1), some (.inl v1), some (.inl v3), some (.inl v5)]) (st' := [.inr 27]) (σ1 := σ) rfl ?_
      obtain ⟨q7, e8, h⟩ := bnd_inv h
      refine go_V (M1 := m_X1_unbind) (as := []) (st := []) (k := 27) (ci := 1) dc_X0_follow_88 ln_0_75 im_X1_unbind (by decide) rfl rfl mk_X1_unbind rfl (Nat.le_of_ble_eq_true rfl) (Nat.le_refl _) (v := none) (σ1 := q7) (lk_X1_unbind l d (by omega) σ q7 e8.symm) _ rfl ?_
      refine go_ops ok_X0_follow_91_1 (L' := [some (.inr 33), some (.inl a1), some (.inl v1), some (.inl v3), some (.inl v5)]) (st' := [.inl 1]) (σ1 := q7) rfl ?_
      have h9 := Option.some.inj h
      subst h9
      exact go_zret (x := true) dc_X0_follow_92 rfl
    replace h := (if_neg hs9).symm.trans h
    rcases Decidable.em ((F_X0_operationIn a1 σ) = 1) with hs12 | hs12
    · replace h := (if_pos hs12).symm.trans h
      refine go_tsw (off := 56) dc_X0_follow_37 (by decide) (by decide) (tsk hs12 (by decide +kernel)) (by rfl) ?_
      refine go_ops ok_X0_follow_93_4 (L' := [some (.inr 33), some (.inl a1), some (.inl v1), some (.inl v3), some (.inl v5)]) (st' := [.inl v5, .inl 0, .inr 36]) (σ1 := σ) rfl ?_
      obtain ⟨s10, e11, h⟩ := bnd_inv h
      refine go_SN (M1 := m_X10_put) (as := [.inr 36, .inl 0, .inl v5]) (st := []) dc_X0_follow_100 ln_0_78 sm_X10_put mk_X10_put rfl (Nat.le_of_ble_eq_true rfl) (Nat.le_refl _) (v := none) (σ1 := s10) (lk_X10_put l d LAYC 36 5 rfl _ _ s10 e11) _ rfl ?_
      refine go_ops ok_X0_follow_103_1 (L' := [some (.inr 33), some (.inl a1), some (.inl v1), some (.inl v3), some (.inl v5)]) (st' := [.inl 1]) (σ1 := s10) rfl ?_
      have h9 := Option.some.inj h
      subst h9
      exact go_zret (x := true) dc_X0_follow_104 rfl
    replace h := (if_neg hs12).symm.trans h
    rcases Decidable.em ((F_X0_operationIn a1 σ) = 2) with hs15 | hs15
    · replace h := (if_pos hs15).symm.trans h
      refine go_tsw (off := 68) dc_X0_follow_37 (by decide) (by decide) (tsk hs15 (by decide +kernel)) (by rfl) ?_
      refine go_ops ok_X0_follow_105_7 (L' := [some (.inr 33), some (.inl a1), some (.inl v1), some (.inl v3), some (.inl v5)]) (st' := [.inl v5, .inl v3, .inl (wrap (v1 + 1)), .inr 36]) (σ1 := σ) rfl ?_
      refine go_SN (M1 := m_X10_inner) (as := [.inl v3, .inl v5]) (st := [.inl (wrap (v1 + 1)), .inr 36]) dc_X0_follow_115 ln_0_82 sm_X10_inner mk_X10_inner rfl (Nat.le_of_ble_eq_true rfl) (Nat.le_refl _) (v := (some (.inl (F_X10_inner v3 v5)))) (σ1 := σ) (lk_X10_inner l d (by omega) v3 v5 σ _ rfl) _ rfl ?_
      obtain ⟨s13, e14, h⟩ := bnd_inv h
      refine go_SN (M1 := m_X10_put) (as := [.inr 36, .inl (wrap (v1 + 1)), .inl (F_X10_inner v3 v5)]) (st := []) dc_X0_follow_118 ln_0_78 sm_X10_put mk_X10_put rfl (Nat.le_of_ble_eq_true rfl) (Nat.le_refl _) (v := none) (σ1 := s13) (lk_X10_put l d LAYC 36 5 rfl _ _ s13 e14) _ rfl ?_
      refine go_ops ok_X0_follow_121_1 (L' := [some (.inr 33), some (.inl a1), some (.inl v1), some (.inl v3), some (.inl v5)]) (st' := [.inl 1]) (σ1 := s13) rfl ?_
      have h9 := Option.some.inj h
      subst h9
      exact go_zret (x := true) dc_X0_follow_122 rfl
    replace h := (if_neg hs15).symm.trans h
    rcases Decidable.em ((F_X0_operationIn a1 σ) = 3) with hs18 | hs18
    · replace h := (if_pos hs18).symm.trans h
      refine go_tsw (off := 86) dc_X0_follow_37 (by decide) (by decide) (tsk hs18 (by decide +kernel)) (by rfl) ?_
      refine go_ops ok_X0_follow_123_9 (L' := [some (.inr 33), some (.inl a1), some (.inl v1), some (.inl v3), some (.inl v5)]) (st' := [.inl v3, .inr 27, .inl v3, .inl (wrap (v1 + 1)), .inr 36]) (σ1 := σ) rfl ?_
      refine go_V (M1 := m_X1_headAt) (as := [.inl v3]) (st := [.inl v3, .inl (wrap (v1 + 1)), .inr 36]) (k := 27) (ci := 1) dc_X0_follow_136 ln_0_85 im_X1_headAt (by decide) rfl rfl mk_X1_headAt rfl (Nat.le_of_ble_eq_true rfl) (Nat.le_refl _) (v := (some (.inl (F_X1_headAt v3 σ)))) (σ1 := σ) (lk_X1_headAt l d (by omega) v3 σ _ rfl) _ rfl ?_
      refine go_ops ok_X0_follow_139_2 (L' := [some (.inr 33), some (.inl a1), some (.inl v1), some (.inl v3), some (.inl v5)]) (st' := [.inl (wrap ((F_X1_headAt v3 σ) - v5)), .inl v3, .inl (wrap (v1 + 1)), .inr 36]) (σ1 := σ) rfl ?_
      refine go_SN (M1 := m_X10_inner) (as := [.inl v3, .inl (wrap ((F_X1_headAt v3 σ) - v5))]) (st := [.inl (wrap (v1 + 1)), .inr 36]) dc_X0_follow_142 ln_0_82 sm_X10_inner mk_X10_inner rfl (Nat.le_of_ble_eq_true rfl) (Nat.le_refl _) (v := (some (.inl (F_X10_inner v3 (wrap ((F_X1_headAt v3 σ) - v5)))))) (σ1 := σ) (lk_X10_inner l d (by omega) v3 (wrap ((F_X1_headAt v3 σ) - v5)) σ _ rfl) _ rfl ?_
      obtain ⟨s16, e17, h⟩ := bnd_inv h
      refine go_SN (M1 := m_X10_put) (as := [.inr 36, .inl (wrap (v1 + 1)), .inl (F_X10_inner v3 (wrap ((F_X1_headAt v3 σ) - v5)))]) (st := []) dc_X0_follow_145 ln_0_78 sm_X10_put mk_X10_put rfl (Nat.le_of_ble_eq_true rfl) (Nat.le_refl _) (v := none) (σ1 := s16) (lk_X10_put l d LAYC 36 5 rfl _ _ s16 e17) _ rfl ?_
      refine go_ops ok_X0_follow_148_1 (L' := [some (.inr 33), some (.inl a1), some (.inl v1), some (.inl v3), some (.inl v5)]) (st' := [.inl 1]) (σ1 := s16) rfl ?_
      have h9 := Option.some.inj h
      subst h9
      exact go_zret (x := true) dc_X0_follow_149 rfl
    replace h := (if_neg hs18).symm.trans h
    rcases Decidable.em ((F_X0_operationIn a1 σ) = 4) with hs21 | hs21
    · replace h := (if_pos hs21).symm.trans h
      refine go_tsw (off := 113) dc_X0_follow_37 (by decide) (by decide) (tsk hs21 (by decide +kernel)) (by rfl) ?_
      refine go_ops ok_X0_follow_150_4 (L' := [some (.inr 33), some (.inl a1), some (.inl v1), some (.inl v3), some (.inl v5)]) (st' := [.inl v3, .inl v5, .inr 27]) (σ1 := σ) rfl ?_
      obtain ⟨q19, e20, h⟩ := bnd_inv h
      refine go_V (M1 := m_X1_bind) (as := [.inl v5, .inl v3]) (st := []) (k := 27) (ci := 1) dc_X0_follow_157 ln_0_88 im_X1_bind (by decide) rfl rfl mk_X1_bind rfl (Nat.le_of_ble_eq_true rfl) (Nat.le_refl _) (v := none) (σ1 := q19) (lk_X1_bind l d (by omega) v5 v3 σ q19 e20.symm) _ rfl ?_
      refine go_ops ok_X0_follow_160_1 (L' := [some (.inr 33), some (.inl a1), some (.inl v1), some (.inl v3), some (.inl v5)]) (st' := [.inl 1]) (σ1 := q19) rfl ?_
      have h9 := Option.some.inj h
      subst h9
      exact go_zret (x := true) dc_X0_follow_161 rfl
    replace h := (if_neg hs21).symm.trans h
    rcases Decidable.em ((F_X0_operationIn a1 σ) = 5) with hs26 | hs26
    · replace h := (if_pos hs26).symm.trans h
      refine go_tsw (off := 125) dc_X0_follow_37 (by decide) (by decide) (tsk hs26 (by decide +kernel)) (by rfl) ?_
      refine go_ops ok_X0_follow_162_2 (L' := [some (.inr 33), some (.inl a1), some (.inl v1), some (.inl v3), some (.inl v5)]) (st' := [.inr 27]) (σ1 := σ) rfl ?_
      obtain ⟨q22, e23, h⟩ := bnd_inv h
      refine go_V (M1 := m_X1_countTest) (as := []) (st := []) (k := 27) (ci := 1) dc_X0_follow_166 ln_0_92 im_X1_countTest (by decide) rfl rfl mk_X1_countTest rfl (Nat.le_of_ble_eq_true rfl) (Nat.le_refl _) (v := none) (σ1 := q22) (lk_X1_countTest l d (by omega) σ q22 e23.symm) _ rfl ?_
      refine go_ops ok_X0_follow_169_3 (L' := [some (.inr 33), some (.inl a1), some (.inl v1), some (.inl v3), some (.inl v5)]) (st' := [.inl v3, .inr 27]) (σ1 := q22) rfl ?_
      obtain ⟨q24, e25, h⟩ := bind_inv h
      refine go_V (M1 := m_X1_open) (as := [.inl v3]) (st := []) (k := 27) (ci := 1) dc_X0_follow_174 ln_0_95 im_X1_open (by decide) rfl rfl mk_X1_open rfl (Nat.le_of_ble_eq_true rfl) (Nat.le_refl _) (v := none) (σ1 := q24) (lk_X1_open l d (by omega) v3 q22 q24 e25) _ rfl ?_
      refine go_ops ok_X0_follow_177_3 (L' := [some (.inr 33), some (.inl a1), some (.inl v1), some (.inl v3), some (.inl v5)]) (st' := [.inl v3, .inr 27]) (σ1 := q24) rfl ?_
      refine go_V (M1 := m_X1_headAt) (as := [.inl v3]) (st := []) (k := 27) (ci := 1) dc_X0_follow_182 ln_0_85 im_X1_headAt (by decide) rfl rfl mk_X1_headAt rfl (Nat.le_of_ble_eq_true rfl) (Nat.le_refl _) (v := (some (.inl (F_X1_headAt v3 q24)))) (σ1 := q24) (lk_X1_headAt l d (by omega) v3 q24 _ rfl) _ rfl ?_
      refine go_ops ok_X0_follow_185_4 (L' := [some (.inr 33), some (.inl a1), some (.inl v1), some (.inl v3), some (.inl v5)]) (st' := [.inl 16, .inl a1, .inr 33, .inl v5, .inl (F_X1_headAt v3 q24)]) (σ1 := q24) rfl ?_
      refine go_V (M1 := m_X0_numberIn) (as := [.inl a1, .inl 16]) (st := [.inl v5, .inl (F_X1_headAt v3 q24)]) (k := 33) (ci := 0) dc_X0_follow_191 ln_0_47 im_X0_numberIn (by decide) rfl rfl mk_X0_numberIn rfl (Nat.le_of_ble_eq_true rfl) (Nat.le_refl _) (v := (some (.inl (F_X0_numberIn a1 16 q24)))) (σ1 := q24) (lk_X0_numberIn l d (by omega) a1 16 q24 _ rfl) _ rfl ?_
      refine go_SN (M1 := m_X10_isIn) (as := [.inl (F_X1_headAt v3 q24), .inl v5, .inl (F_X0_numberIn a1 16 q24)]) (st := []) dc_X0_follow_194 ln_0_99 sm_X10_isIn mk_X10_isIn rfl (Nat.le_of_ble_eq_true rfl) (Nat.le_refl _) (v := (some (.inl (b2i (F_X10_isIn (F_X1_headAt v3 q24) v5 (F_X0_numberIn a1 16 q24)))))) (σ1 := q24) (lk_X10_isIn l d (by omega) (F_X1_headAt v3 q24) v5 (F_X0_numberIn a1 16 q24) q24 _ rfl) _ rfl ?_
      have h9 := Option.some.inj h
      subst h9
      exact go_zret (x := (F_X10_isIn (F_X1_headAt v3 q24) v5 (F_X0_numberIn a1 16 q24))) dc_X0_follow_197 rfl
    replace h := (if_neg hs26).symm.trans h
    rcases Decidable.em ((F_X0_operationIn a1 σ) = 6) with hs31 | hs31
    · replace h := (if_pos hs31).symm.trans h
      refine go_tsw (off := 161) dc_X0_follow_37 (by decide) (by decide) (tsk hs31 (by decide +kernel)) (by rfl) ?_
      refine go_ops ok_X0_follow_198_5 (L' := [some (.inr 33), some (.inl a1), some (.inl v1), some (.inl v3), some (.inl v5)]) (st' := [.inl v3, .inl v5, .inr 27, .inr 33]) (σ1 := σ) rfl ?_
      obtain ⟨q27, e28, h⟩ := bind_inv h
      refine go_V (M1 := m_X1_look) (as := [.inl v5, .inl v3]) (st := [.inr 33]) (k := 27) (ci := 1) dc_X0_follow_206 ln_0_103 im_X1_look (by decide) rfl rfl mk_X1_look rfl (Nat.le_of_ble_eq_true rfl) (Nat.le_refl _) (v := (some (.inl q27.1))) (σ1 := q27.2) (lk_X1_look l d (by omega) v5 v3 σ q27 e28) _ rfl ?_
      obtain ⟨s29, e30, h⟩ := bnd_inv h
      refine go_ops ok_X0_follow_209_2 (L' := [some (.inr 33), some (.inl a1), some (.inl v1), some (.inl v3), some (.inl v5)]) (st' := [.inl 1]) (σ1 := s29) (by subst e30; rfl) ?_
      have h9 := Option.some.inj h
      subst h9
      exact go_zret (x := true) dc_X0_follow_213 rfl
    replace h := (if_neg hs31).symm.trans h
    rcases Decidable.em ((F_X0_operationIn a1 σ) = 7) with hs34 | hs34
    · replace h := (if_pos hs34).symm.trans h
      refine go_tsw (off := 177) dc_X0_follow_37 (by decide) (by decide) (tsk hs34 (by decide +kernel)) (by rfl) ?_
      refine go_ops ok_X0_follow_214_2 (L' := [some (.inr 33), some (.inl a1), some (.inl v1), some (.inl v3), some (.inl v5)]) (st' := [.inr 27]) (σ1 := σ) rfl ?_
      obtain ⟨q32, e33, h⟩ := bnd_inv h
      refine go_V (M1 := m_X1_countTest) (as := []) (st := []) (k := 27) (ci := 1) dc_X0_follow_218 ln_0_92 im_X1_countTest (by decide) rfl rfl mk_X1_countTest rfl (Nat.le_of_ble_eq_true rfl) (Nat.le_refl _) (v := none) (σ1 := q32) (lk_X1_countTest l d (by omega) σ q32 e33.symm) _ rfl ?_
      refine go_ops ok_X0_follow_221_6 (L' := [some (.inr 33), some (.inl a1), some (.inl v1), some (.inl v3), some (.inl v5)]) (st' := [.inl 16, .inl a1, .inr 33, .inl v5, .inl (q32 33 5)]) (σ1 := q32) rfl ?_
      refine go_V (M1 := m_X0_numberIn) (as := [.inl a1, .inl 16]) (st := [.inl v5, .inl (q32 33 5)]) (k := 33) (ci := 0) dc_X0_follow_231 ln_0_47 im_X0_numberIn (by decide) rfl rfl mk_X0_numberIn rfl (Nat.le_of_ble_eq_true rfl) (Nat.le_refl _) (v := (some (.inl (F_X0_numberIn a1 16 q32)))) (σ1 := q32) (lk_X0_numberIn l d (by omega) a1 16 q32 _ rfl) _ rfl ?_
      refine go_SN (M1 := m_X10_isIn) (as := [.inl (q32 33 5), .inl v5, .inl (F_X0_numberIn a1 16 q32)]) (st := []) dc_X0_follow_234 ln_0_99 sm_X10_isIn mk_X10_isIn rfl (Nat.le_of_ble_eq_true rfl) (Nat.le_refl _) (v := (some (.inl (b2i (F_X10_isIn (q32 33 5) v5 (F_X0_numberIn a1 16 q32)))))) (σ1 := q32) (lk_X10_isIn l d (by omega) (q32 33 5) v5 (F_X0_numberIn a1 16 q32) q32 _ rfl) _ rfl ?_
      have h9 := Option.some.inj h
      subst h9
      exact go_zret (x := (F_X10_isIn (q32 33 5) v5 (F_X0_numberIn a1 16 q32))) dc_X0_follow_237 rfl
    replace h := (if_neg hs34).symm.trans h
    refine go_tsw (off := 201) dc_X0_follow_37 (by decide) (by decide) (ts_d [0, 1, 2, 3, 4, 5, 6, 7] (nn1 hs9 (nn1 hs12 (nn1 hs15 (nn1 hs18 (nn1 hs21 (nn1 hs26 (nn1 hs31 (nn1 hs34 nn0)))))))) (by decide +kernel)) (by rfl) ?_
    refine go_ops ok_X0_follow_238_1 (L' := [some (.inr 33), some (.inl a1), some (.inl v1), some (.inl v3), some (.inl v5)]) (st' := [.inl 0]) (σ1 := σ) rfl ?_
    have h9 := Option.some.inj h
    subst h9
    exact go_zret (x := false) dc_X0_follow_239 rfl
  have hf := go_ct (as := [.inr 33, .inl a1]) mk_X0_follow (by rfl) (Nat.le_of_ble_eq_true rfl) key
  exact hf
theorem dc_X0_decide_4 : decode m_X0_decide.2.2.1 4 = .ok (.ifCond .ne 12, 3) := by decide +kernel
theorem dc_X0_decide_8 : decode m_X0_decide.2.2.1 8 = .ok (.invokevirtual 44, 3) := by decide +kernel
theorem dc_X0_decide_13 : decode m_X0_decide.2.2.1 13 = .ok (.putfield 9, 3) := by decide +kernel
theorem dc_X0_decide_25 : decode m_X0_decide.2.2.1 25 = .ok (.if_icmp .ge 131, 3) := by decide +kernel
theorem dc_X0_decide_32 : decode m_X0_decide.2.2.1 32 = .ok (.invokevirtual 47, 3) := by decide +kernel
theorem dc_X0_decide_38 : decode m_X0_decide.2.2.1 38 = .ok (.invokevirtual 51, 3) := by decide +kernel
theorem dc_X0_decide_41 : decode m_X0_decide.2.2.1 41 = .ok (.tableswitch 86 9 11 #[44, 27, 36], 27) := by decide +kernel
theorem dc_X0_decide_73 : decode m_X0_decide.2.2.1 73 = .ok (.invokevirtual 55, 3) := by decide +kernel
theorem dc_X0_decide_76 : decode m_X0_decide.2.2.1 76 = .ok (.ireturn, 1) := by decide +kernel
theorem dc_X0_decide_81 : decode m_X0_decide.2.2.1 81 = .ok (.invokevirtual 60, 3) := by decide +kernel
theorem dc_X0_decide_84 : decode m_X0_decide.2.2.1 84 = .ok (.ireturn, 1) := by decide +kernel
theorem dc_X0_decide_90 : decode m_X0_decide.2.2.1 90 = .ok (.invokevirtual 64, 3) := by decide +kernel
theorem dc_X0_decide_98 : decode m_X0_decide.2.2.1 98 = .ok (.if_icmp .ne 6, 3) := by decide +kernel
theorem dc_X0_decide_103 : decode m_X0_decide.2.2.1 103 = .ok (.ireturn, 1) := by decide +kernel
theorem dc_X0_decide_106 : decode m_X0_decide.2.2.1 106 = .ok (.ifCond .ne 9, 3) := by decide +kernel
theorem dc_X0_decide_112 : decode m_X0_decide.2.2.1 112 = .ok (.goto 11, 3) := by decide +kernel
theorem dc_X0_decide_120 : decode m_X0_decide.2.2.1 120 = .ok (.invokestatic 67, 3) := by decide +kernel
theorem dc_X0_decide_124 : decode m_X0_decide.2.2.1 124 = .ok (.goto 26, 3) := by decide +kernel
theorem dc_X0_decide_129 : decode m_X0_decide.2.2.1 129 = .ok (.invokevirtual 71, 3) := by decide +kernel
theorem dc_X0_decide_132 : decode m_X0_decide.2.2.1 132 = .ok (.ifCond .eq 9, 3) := by decide +kernel
theorem dc_X0_decide_138 : decode m_X0_decide.2.2.1 138 = .ok (.goto 11, 3) := by decide +kernel
theorem dc_X0_decide_146 : decode m_X0_decide.2.2.1 146 = .ok (.invokestatic 67, 3) := by decide +kernel
theorem dc_X0_decide_153 : decode m_X0_decide.2.2.1 153 = .ok (.goto (-133), 3) := by decide +kernel
theorem dc_X0_decide_160 : decode m_X0_decide.2.2.1 160 = .ok (.invokevirtual 60, 3) := by decide +kernel
theorem dc_X0_decide_163 : decode m_X0_decide.2.2.1 163 = .ok (.ireturn, 1) := by decide +kernel
theorem ok_X0_decide_0_2 : oks m_X0_decide.1 m_X0_decide.2.2.1 0 [(.aload_n 0, 1, (0, 0, 0)), (.getfield 9, 3, (0, 3, 0))] = true ∧ plen 0 [(.aload_n 0, 1, (0, 0, 0)), (.getfield 9, 3, (0, 3, 0))] = 4 := by decide +kernel
theorem ok_X0_decide_7_1 : oks m_X0_decide.1 m_X0_decide.2.2.1 7 [(.aload_n 0, 1, (0, 0, 0))] = true ∧ plen 7 [(.aload_n 0, 1, (0, 0, 0))] = 8 := by decide +kernel
theorem ok_X0_decide_11_2 : oks m_X0_decide.1 m_X0_decide.2.2.1 11 [(.aload_n 0, 1, (0, 0, 0)), (.iconst 1, 1, (0, 0, 0))] = true ∧ plen 11 [(.aload_n 0, 1, (0, 0, 0)), (.iconst 1, 1, (0, 0, 0))] = 13 := by decide +kernel
theorem ok_X0_decide_16_4 : oks m_X0_decide.1 m_X0_decide.2.2.1 16 [(.iconst 0, 1, (0, 0, 0)), (.istore_n 1, 1, (0, 0, 0)), (.iconst 0, 1, (0, 0, 0)), (.istore_n 2, 1, (0, 0, 0))] = true ∧ plen 16 [(.iconst 0, 1, (0, 0, 0)), (.istore_n 1, 1, (0, 0, 0)), (.iconst 0, 1, (0, 0, 0)), (.istore_n 2, 1, (0, 0, 0))] = 20 := by decide +kernel
theorem ok_X0_decide_20_3 : oks m_X0_decide.1 m_X0_decide.2.2.1 20 [(.iload_n 2, 1, (0, 0, 0)), (.aload_n 0, 1, (0, 0, 0)), (.getfield 15, 3, (0, 4, 0))] = true ∧ plen 20 [(.iload_n 2, 1, (0, 0, 0)), (.aload_n 0, 1, (0, 0, 0)), (.getfield 15, 3, (0, 4, 0))] = 25 := by decide +kernel
theorem ok_X0_decide_28_3 : oks m_X0_decide.1 m_X0_decide.2.2.1 28 [(.aload_n 0, 1, (0, 0, 0)), (.iload_n 1, 1, (0, 0, 0)), (.bipush 8, 2, (0, 0, 0))] = true ∧ plen 28 [(.aload_n 0, 1, (0, 0, 0)), (.iload_n 1, 1, (0, 0, 0)), (.bipush 8, 2, (0, 0, 0))] = 32 := by decide +kernel
theorem ok_X0_decide_35_3 : oks m_X0_decide.1 m_X0_decide.2.2.1 35 [(.istore_n 3, 1, (0, 0, 0)), (.aload_n 0, 1, (0, 0, 0)), (.iload_n 1, 1, (0, 0, 0))] = true ∧ plen 35 [(.istore_n 3, 1, (0, 0, 0)), (.aload_n 0, 1, (0, 0, 0)), (.iload_n 1, 1, (0, 0, 0))] = 38 := by decide +kernel
theorem ok_X0_decide_68_3 : oks m_X0_decide.1 m_X0_decide.2.2.1 68 [(.aload_n 0, 1, (0, 0, 0)), (.getfield 40, 3, (0, 2, 0)), (.iload_n 3, 1, (0, 0, 0))] = true ∧ plen 68 [(.aload_n 0, 1, (0, 0, 0)), (.getfield 40, 3, (0, 2, 0)), (.iload_n 3, 1, (0, 0, 0))] = 73 := by decide +kernel
theorem ok_X0_decide_77_2 : oks m_X0_decide.1 m_X0_decide.2.2.1 77 [(.aload_n 0, 1, (0, 0, 0)), (.getfield 40, 3, (0, 2, 0))] = true ∧ plen 77 [(.aload_n 0, 1, (0, 0, 0)), (.getfield 40, 3, (0, 2, 0))] = 81 := by decide +kernel
theorem ok_X0_decide_85_3 : oks m_X0_decide.1 m_X0_decide.2.2.1 85 [(.aload_n 0, 1, (0, 0, 0)), (.getfield 40, 3, (0, 2, 0)), (.iload_n 3, 1, (0, 0, 0))] = true ∧ plen 85 [(.aload_n 0, 1, (0, 0, 0)), (.getfield 40, 3, (0, 2, 0)), (.iload_n 3, 1, (0, 0, 0))] = 90 := by decide +kernel
theorem ok_X0_decide_93_3 : oks m_X0_decide.1 m_X0_decide.2.2.1 93 [(.istore 4, 2, (0, 0, 0)), (.iload 4, 2, (0, 0, 0)), (.iconst 2, 1, (0, 0, 0))] = true ∧ plen 93 [(.istore 4, 2, (0, 0, 0)), (.iload 4, 2, (0, 0, 0)), (.iconst 2, 1, (0, 0, 0))] = 98 := by decide +kernel
theorem ok_X0_decide_101_1 : oks m_X0_decide.1 m_X0_decide.2.2.1 101 [(.bipush (-2), 2, (0, 0, 0))] = true ∧ plen 101 [(.bipush (-2), 2, (0, 0, 0))] = 103 := by decide +kernel
theorem ok_X0_decide_104_1 : oks m_X0_decide.1 m_X0_decide.2.2.1 104 [(.iload 4, 2, (0, 0, 0))] = true ∧ plen 104 [(.iload 4, 2, (0, 0, 0))] = 106 := by decide +kernel
theorem ok_X0_decide_109_3 : oks m_X0_decide.1 m_X0_decide.2.2.1 109 [(.iload_n 1, 1, (0, 0, 0)), (.iconst 1, 1, (0, 0, 0)), (.iadd, 1, (0, 0, 0))] = true ∧ plen 109 [(.iload_n 1, 1, (0, 0, 0)), (.iconst 1, 1, (0, 0, 0)), (.iadd, 1, (0, 0, 0))] = 112 := by decide +kernel
theorem ok_X0_decide_115_3 : oks m_X0_decide.1 m_X0_decide.2.2.1 115 [(.aload_n 0, 1, (0, 0, 0)), (.getfield 26, 3, (0, 7, 0)), (.iload_n 1, 1, (0, 0, 0))] = true ∧ plen 115 [(.aload_n 0, 1, (0, 0, 0)), (.getfield 26, 3, (0, 7, 0)), (.iload_n 1, 1, (0, 0, 0))] = 120 := by decide +kernel
theorem ok_X0_decide_123_1 : oks m_X0_decide.1 m_X0_decide.2.2.1 123 [(.istore_n 1, 1, (0, 0, 0))] = true ∧ plen 123 [(.istore_n 1, 1, (0, 0, 0))] = 124 := by decide +kernel
theorem ok_X0_decide_127_2 : oks m_X0_decide.1 m_X0_decide.2.2.1 127 [(.aload_n 0, 1, (0, 0, 0)), (.iload_n 1, 1, (0, 0, 0))] = true ∧ plen 127 [(.aload_n 0, 1, (0, 0, 0)), (.iload_n 1, 1, (0, 0, 0))] = 129 := by decide +kernel
theorem ok_X0_decide_135_3 : oks m_X0_decide.1 m_X0_decide.2.2.1 135 [(.iload_n 1, 1, (0, 0, 0)), (.iconst 1, 1, (0, 0, 0)), (.iadd, 1, (0, 0, 0))] = true ∧ plen 135 [(.iload_n 1, 1, (0, 0, 0)), (.iconst 1, 1, (0, 0, 0)), (.iadd, 1, (0, 0, 0))] = 138 := by decide +kernel
theorem ok_X0_decide_141_3 : oks m_X0_decide.1 m_X0_decide.2.2.1 141 [(.aload_n 0, 1, (0, 0, 0)), (.getfield 26, 3, (0, 7, 0)), (.iload_n 1, 1, (0, 0, 0))] = true ∧ plen 141 [(.aload_n 0, 1, (0, 0, 0)), (.getfield 26, 3, (0, 7, 0)), (.iload_n 1, 1, (0, 0, 0))] = 146 := by decide +kernel
theorem ok_X0_decide_149_1 : oks m_X0_decide.1 m_X0_decide.2.2.1 149 [(.istore_n 1, 1, (0, 0, 0))] = true ∧ plen 149 [(.istore_n 1, 1, (0, 0, 0))] = 150 := by decide +kernel
theorem ok_X0_decide_150_1 : oks m_X0_decide.1 m_X0_decide.2.2.1 150 [(.iinc 2 1, 3, (0, 0, 0))] = true ∧ plen 150 [(.iinc 2 1, 3, (0, 0, 0))] = 153 := by decide +kernel
theorem ok_X0_decide_156_2 : oks m_X0_decide.1 m_X0_decide.2.2.1 156 [(.aload_n 0, 1, (0, 0, 0)), (.getfield 40, 3, (0, 2, 0))] = true ∧ plen 156 [(.aload_n 0, 1, (0, 0, 0)), (.getfield 40, 3, (0, 2, 0))] = 160 := by decide +kernel
def B_X0_decide_150 (x1 : Int) (x2 : Int) (σ : Sg) : Option ((Int × Int × Sg) ⊕ (Sg ⊕ (Int × Sg))) :=
some (.inl (x1, wrap (x2 + 1), σ))
def B_X0_decide_123 (x2 : Int) (y0 : Int) (σ : Sg) : Option ((Int × Int × Sg) ⊕ (Sg ⊕ (Int × Sg))) :=
B_X0_decide_150 y0 x2 σ
def B_X0_decide_149 (x2 : Int) (y0 : Int) (σ : Sg) : Option ((Int × Int × Sg) ⊕ (Sg ⊕ (Int × Sg))) :=
B_X0_decide_150 y0 x2 σ
def L_X0_decide_20 (x1 : Int) (x2 : Int) (σ : Sg) : Option ((Int × Int × Sg) ⊕ (Sg ⊕ (Int × Sg))) :=
if (σ 33 4) ≤ x2 then
some (.inr (.inl σ))
else
bnd (F_X0_numberIn x1 8 σ) fun v1 =>
if (F_X0_operationIn x1 σ) = 9 then
bnd (F_X1_guardOf v1 σ) fun v3 =>
if v3 = 2 then
some (.inr (.inr ((-2), σ)))
else
if v3 = 0 then
B_X0_decide_123 x2 (wrap (x1 + 1)) σ
else
B_X0_decide_123 x2 (rdD (-1) σ 35 1969 x1) σ
else if (F_X0_operationIn x1 σ) = 10 then
bnd (F_X1_take v1 σ) fun q6 =>
some (.inr (.inr (q6.1, q6.2)))
else if (F_X0_operationIn x1 σ) = 11 then
bnd (F_X1_miss σ) fun q9 =>
some (.inr (.inr (q9.1, q9.2)))
else (F_X0_follow x1 σ).bind fun q12 =>
if q12.1 = true then
B_X0_decide_149 x2 (wrap (x1 + 1)) q12.2
else
B_X0_decide_149 x2 (rdD (-1) q12.2 35 1969 x1) q12.2
def B_X0_decide_16 (σ : Sg) : Option (Int × Sg) :=
(iter (fun a : (Int × Int × Sg) => L_X0_decide_20 a.1 a.2.1 a.2.2) 3000 (0, 0, σ)).bind fun y14 => Sum.elim (fun z16 =>
bnd (F_X1_miss z16) fun q18 =>
some (q18.1, q18.2)) (fun r17 => some r17) y14
def F_X0_decide (σ : Sg) : Option (Int × Sg) :=
if (σ 33 3) = 0 then
(F_X0_compile σ).bind fun q20 =>
bnd (up2 q20 33 3 1) fun s22 =>
B_X0_decide_16 s22
else
B_X0_decide_16 σ
theorem lk_X0_decide (l : Launch) (d : Nat) (hd : 158 ≤ d) (σ : Sg) (q : (Int × Sg)) (h : F_X0_decide σ = some q) : CT l d m_X0_decide.2.1 m_X0_decide.2.2.1 m_X0_decide.2.2.2.1 m_X0_decide.2.2.2.2 [.inr 33] (LAYC, σ) (some (.inl q.1)) (LAYC, q.2) := by
  obtain ⟨d, rfl⟩ : ∃ e, d = e + 1 := ⟨d - 1, by omega⟩
  have key : Go l m_X0_decide (d + 1) LAYC (.inl (some (.inl q.1))) q.2 0 [some (.inr 33), none, none, none, none] [] σ := by
    unfold F_X0_decide at h
    have hL_X0_decide_20 : ∀ (n : Nat) (a : (Int × Int × Sg)) (y : (Sg ⊕ (Int × Sg))), iter (fun a : (Int × Int × Sg) => L_X0_decide_20 a.1 a.2.1 a.2.2) n a = some y → (Sum.elim (fun y : Sg => Go l m_X0_decide (d + 1) LAYC (.inl (some (.inl q.1))) q.2 156 [some (.inr 33), none, none, none, none] [] y) (fun r : (Int × Sg) => r = q)) y → (fun a : (Int × Int × Sg) => Go l m_X0_decide (d + 1) LAYC (.inl (some (.inl q.1))) q.2 20 [some (.inr 33), some (.inl a.1), some (.inl a.2.1), none, none] [] a.2.2) a := by
      skip
      refine go_iter (G := fun a : (Int × Int × Sg) => Go l m_X0_decide (d + 1) LAYC (.inl (some (.inl q.1))) q.2 20 [some (.inr 33), some (.inl a.1), some (.inl a.2.1), none, none] [] a.2.2) (K := Sum.elim (fun y : Sg => Go l m_X0_decide (d + 1) LAYC (.inl (some (.inl q.1))) q.2 156 [some (.inr 33), none, none, none, none] [] y) (fun r : (Int × Sg) => r = q)) ?_
      rintro ⟨x1, x2, σ⟩ w h hK
      replace h : L_X0_decide_20 x1 x2 σ = some w := h
      show Go l m_X0_decide (d + 1) LAYC (.inl (some (.inl q.1))) q.2 20 [some (.inr 33), some (.inl x1), some (.inl x2), none, none] [] σ
      unfold L_X0_decide_20 at h
      have hB_X0_decide_150 : ∀ (x1 : Int) (x2 : Int) (σ : Sg), B_X0_decide_150 x1 x2 σ = some w → Go l m_X0_decide (d + 1) LAYC (.inl (some (.inl q.1))) q.2 150 [some (.inr 33), some (.inl x1), some (.inl x2), none, none] [] σ := by
        intro x1 x2 σ h
        unfold B_X0_decide_150 at h
        refine go_ops ok_X0_decide_150_1 (L' := [some (.inr 33), some (.inl x1), some (.inl (wrap (x2 + 1))), none, none]) (st' := []) (σ1 := σ) rfl ?_
        refine go_goto dc_X0_decide_153 (by rfl) ?_
        cases h
        exact hK
      have hB_X0_decide_123 : ∀ (x2 : Int) (y0 : Int) (σ : Sg), B_X0_decide_123 x2 y0 σ = some w → Go l m_X0_decide (d + 1) LAYC (.inl (some (.inl q.1))) q.2 123 [some (.inr 33), none, some (.inl x2), none, none] [.inl y0] σ := by
        intro x2 y0 σ h
        unfold B_X0_decide_123 at h
        refine go_ops ok_X0_decide_123_1 (L' := [some (.inr 33), some (.inl y0), some (.inl x2), none, none]) (st' := []) (σ1 := σ) rfl ?_
        refine go_goto dc_X0_decide_124 (by rfl) ?_
        exact hB_X0_decide_150 y0 x2 σ h
      have hB_X0_decide_149 : ∀ (x2 : Int) (y0 : Int) (σ : Sg), B_X0_decide_149 x2 y0 σ = some w → Go l m_X0_decide (d + 1) LAYC (.inl (some (.inl q.1))) q.2 149 [some (.inr 33), none, some (.inl x2), none, none] [.inl y0] σ := by
        intro x2 y0 σ h
        unfold B_X0_decide_149 at h
        refine go_ops ok_X0_decide_149_1 (L' := [some (.inr 33), some (.inl y0), some (.inl x2), none, none]) (st' := []) (σ1 := σ) rfl ?_
        exact hB_X0_decide_150 y0 x2 σ h
      refine go_ops ok_X0_decide_20_3 (L' := [some (.inr 33), some (.inl x1), some (.inl x2), none, none]) (st' := [.inl (σ 33 4), .inl x2]) (σ1 := σ) rfl ?_
      refine go_icmp_ge dc_X0_decide_25 (by rfl) (fun hc => ?_) (fun hc => ?_)
      · replace h := (if_pos hc).symm.trans h
        cases h
        refine go_wk (L' := [some (.inr 33), none, none, none, none]) ⟨rfl, trivial⟩ ?_
        exact hK
      · replace h := (if_neg hc).symm.trans h
        refine go_ops ok_X0_decide_28_3 (L' := [some (.inr 33), some (.inl x1), some (.inl x2), none, none]) (st' := [.inl 8, .inl x1, .inr 33]) (σ1 := σ) rfl ?_
        refine go_V (M1 := m_X0_numberIn) (as := [.inl x1, .inl 8]) (st := []) (k := 33) (ci := 0) dc_X0_decide_32 ln_0_47 im_X0_numberIn (by decide) rfl rfl mk_X0_numberIn rfl (Nat.le_of_ble_eq_true rfl) (Nat.le_refl _) (v := (some (.inl (F_X0_numberIn x1 8 σ)))) (σ1 := σ) (lk_X0_numberIn l d (by omega) x1 8 σ _ rfl) _ rfl ?_
        obtain ⟨v1, e2, h⟩ := bnd_inv h
        refine go_ops ok_X0_decide_35_3 (L' := [some (.inr 33), some (.inl x1), some (.inl x2), some (.inl v1), none]) (st' := [.inl x1, .inr 33]) (σ1 := σ) (by subst e2; rfl) ?_
        refine go_V (M1 := m_X0_operationIn) (as := [.inl x1]) (st := []) (k := 33) (ci := 0) dc_X0_decide_38 ln_0_51 im_X0_operationIn (by decide) rfl rfl mk_X0_operationIn rfl (Nat.le_of_ble_eq_true rfl) (Nat.le_refl _) (v := (some (.inl (F_X0_operationIn x1 σ)))) (σ1 := σ) (lk_X0_operationIn l d (by omega) x1 σ _ rfl) _ rfl ?_
        rcases Decidable.em ((F_X0_operationIn x1 σ) = 9) with hs5 | hs5
        · replace h := (if_pos hs5).symm.trans h
          refine go_tsw (off := 44) dc_X0_decide_41 (by decide) (by decide) (tsk hs5 (by decide +kernel)) (by rfl) ?_
          refine go_ops ok_X0_decide_85_3 (L' := [some (.inr 33), some (.inl x1), some (.inl x2), some (.inl v1), none]) (st' := [.inl v1, .inr 27]) (σ1 := σ) rfl ?_
          refine go_V (M1 := m_X1_guardOf) (as := [.inl v1]) (st := []) (k := 27) (ci := 1) dc_X0_decide_90 ln_0_64 im_X1_guardOf (by decide) rfl rfl mk_X1_guardOf rfl (Nat.le_of_ble_eq_true rfl) (Nat.le_refl _) (v := (some (.inl (F_X1_guardOf v1 σ)))) (σ1 := σ) (lk_X1_guardOf l d (by omega) v1 σ _ rfl) _ rfl ?_
          obtain ⟨v3, e4, h⟩ := bnd_inv h
          refine go_ops ok_X0_decide_93_3 (L' := [some (.inr 33), some (.inl x1), some (.inl x2), some (.inl v1), some (.inl v3)]) (st' := [.inl 2, .inl v3]) (σ1 := σ) (by subst e4; rfl) ?_
          refine go_icmp_ne dc_X0_decide_98 (by rfl) (fun hc => ?_) (fun hc => ?_)
          · replace h := (if_neg hc).symm.trans h
            refine go_ops ok_X0_decide_104_1 (L' := [some (.inr 33), some (.inl x1), some (.inl x2), some (.inl v1), some (.inl v3)]) (st' := [.inl v3]) (σ1 := σ) rfl ?_
            refine go_if_ne dc_X0_decide_106 (by rfl) (fun hc => ?_) (fun hc => ?_)
            · replace h := (if_neg hc).symm.trans h
              refine go_ops ok_X0_decide_115_3 (L' := [some (.inr 33), some (.inl x1), some (.inl x2), some (.inl v1), some (.inl v3)]) (st' := [.inl x1, .inr 35]) (σ1 := σ) rfl ?_
              refine go_SN (M1 := m_X10_at) (as := [.inr 35, .inl x1]) (st := []) dc_X0_decide_120 ln_0_67 sm_X10_at mk_X10_at rfl (Nat.le_of_ble_eq_true rfl) (Nat.le_refl _) (v := some (.inl (rdD (-1) σ 35 1969 x1))) (σ1 := σ) (lk_X10_at l d LAYC 35 1969 rfl σ _) _ rfl ?_
              refine go_wk (L' := [some (.inr 33), none, some (.inl x2), none, none]) ⟨rfl, rfl, trivial⟩ ?_
              exact hB_X0_decide_123 x2 (rdD (-1) σ 35 1969 x1) σ h
            · replace h := (if_pos hc).symm.trans h
              refine go_ops ok_X0_decide_109_3 (L' := [some (.inr 33), some (.inl x1), some (.inl x2), some (.inl v1), some (.inl v3)]) (st' := [.inl (wrap (x1 + 1))]) (σ1 := σ) rfl ?_
              refine go_goto dc_X0_decide_112 (by rfl) ?_
              refine go_wk (L' := [some (.inr 33), none, some (.inl x2), none, none]) ⟨rfl, rfl, trivial⟩ ?_
              exact hB_X0_decide_123 x2 (wrap (x1 + 1)) σ h
          · replace h := (if_pos hc).symm.trans h
            refine go_ops ok_X0_decide_101_1 (L' := [some (.inr 33), some (.inl x1), some (.inl x2), some (.inl v1), some (.inl v3)]) (st' := [.inl (-2)]) (σ1 := σ) rfl ?_
            cases h
            have hK2 : _ = q := hK
            subst hK2
            exact go_iret dc_X0_decide_103 rfl
        replace h := (if_neg hs5).symm.trans h
        rcases Decidable.em ((F_X0_operationIn x1 σ) = 10) with hs8 | hs8
        · replace h := (if_pos hs8).symm.trans h
          refine go_tsw (off := 27) dc_X0_decide_41 (by decide) (by decide) (tsk hs8 (by decide +kernel)) (by rfl) ?_
          refine go_ops ok_X0_decide_68_3 (L' := [some (.inr 33), some (.inl x1), some (.inl x2), some (.inl v1), none]) (st' := [.inl v1, .inr 27]) (σ1 := σ) rfl ?_
          obtain ⟨q6, e7, h⟩ := bnd_inv h
          refine go_V (M1 := m_X1_take) (as := [.inl v1]) (st := []) (k := 27) (ci := 1) dc_X0_decide_73 ln_0_55 im_X1_take (by decide) rfl rfl mk_X1_take rfl (Nat.le_of_ble_eq_true rfl) (Nat.le_refl _) (v := (some (.inl q6.1))) (σ1 := q6.2) (lk_X1_take l d (by omega) v1 σ q6 e7.symm) _ rfl ?_
          cases h
          have hK2 : _ = q := hK
          subst hK2
          exact go_iret dc_X0_decide_76 rfl
        replace h := (if_neg hs8).symm.trans h
        rcases Decidable.em ((F_X0_operationIn x1 σ) = 11) with hs11 | hs11
        · replace h := (if_pos hs11).symm.trans h
          refine go_tsw (off := 36) dc_X0_decide_41 (by decide) (by decide) (tsk hs11 (by decide +kernel)) (by rfl) ?_
          refine go_ops ok_X0_decide_77_2 (L' := [some (.inr 33), some (.inl x1), some (.inl x2), some (.inl v1), none]) (st' := [.inr 27]) (σ1 := σ) rfl ?_
          obtain ⟨q9, e10, h⟩ := bnd_inv h
          refine go_V (M1 := m_X1_miss) (as := []) (st := []) (k := 27) (ci := 1) dc_X0_decide_81 ln_0_60 im_X1_miss (by decide) rfl rfl mk_X1_miss rfl (Nat.le_of_ble_eq_true rfl) (Nat.le_refl _) (v := (some (.inl q9.1))) (σ1 := q9.2) (lk_X1_miss l d (by omega) σ q9 e10.symm) _ rfl ?_
          cases h
          have hK2 : _ = q := hK
          subst hK2
          exact go_iret dc_X0_decide_84 rfl
        replace h := (if_neg hs11).symm.trans h
        refine go_tsw (off := 86) dc_X0_decide_41 (by decide) (by decide) (ts_d [9, 10, 11] (nn1 hs5 (nn1 hs8 (nn1 hs11 nn0))) (by decide +kernel)) (by rfl) ?_
        refine go_ops ok_X0_decide_127_2 (L' := [some (.inr 33), some (.inl x1), some (.inl x2), some (.inl v1), none]) (st' := [.inl x1, .inr 33]) (σ1 := σ) rfl ?_
        obtain ⟨q12, e13, h⟩ := bind_inv h
        refine go_V (M1 := m_X0_follow) (as := [.inl x1]) (st := []) (k := 33) (ci := 0) dc_X0_decide_129 ln_0_71 im_X0_follow (by decide) rfl rfl mk_X0_follow rfl (Nat.le_of_ble_eq_true rfl) (Nat.le_refl _) (v := (some (.inl (b2i q12.1)))) (σ1 := q12.2) (lk_X0_follow l d (by omega) x1 σ q12 e13) _ rfl ?_
        refine go_ifb_eq dc_X0_decide_132 (by rfl) (fun hc => ?_) (fun hc => ?_)
        · replace h := (if_neg hc).symm.trans h
          refine go_ops ok_X0_decide_141_3 (L' := [some (.inr 33), some (.inl x1), some (.inl x2), some (.inl v1), none]) (st' := [.inl x1, .inr 35]) (σ1 := q12.2) rfl ?_
          refine go_SN (M1 := m_X10_at) (as := [.inr 35, .inl x1]) (st := []) dc_X0_decide_146 ln_0_67 sm_X10_at mk_X10_at rfl (Nat.le_of_ble_eq_true rfl) (Nat.le_refl _) (v := some (.inl (rdD (-1) q12.2 35 1969 x1))) (σ1 := q12.2) (lk_X10_at l d LAYC 35 1969 rfl q12.2 _) _ rfl ?_
          refine go_wk (L' := [some (.inr 33), none, some (.inl x2), none, none]) ⟨rfl, rfl, trivial⟩ ?_
          exact hB_X0_decide_149 x2 (rdD (-1) q12.2 35 1969 x1) q12.2 h
        · replace h := (if_pos hc).symm.trans h
          refine go_ops ok_X0_decide_135_3 (L' := [some (.inr 33), some (.inl x1), some (.inl x2), some (.inl v1), none]) (st' := [.inl (wrap (x1 + 1))]) (σ1 := q12.2) rfl ?_
          refine go_goto dc_X0_decide_138 (by rfl) ?_
          refine go_wk (L' := [some (.inr 33), none, some (.inl x2), none, none]) ⟨rfl, rfl, trivial⟩ ?_
          exact hB_X0_decide_149 x2 (wrap (x1 + 1)) q12.2 h
    have hB_X0_decide_16 : ∀ (σ : Sg), B_X0_decide_16 σ = some q → Go l m_X0_decide (d + 1) LAYC (.inl (some (.inl q.1))) q.2 16 [some (.inr 33), none, none, none, none] [] σ := by
      intro σ h
      unfold B_X0_decide_16 at h
      refine go_ops ok_X0_decide_16_4 (L' := [some (.inr 33), some (.inl 0), some (.inl 0), none, none]) (st' := []) (σ1 := σ) rfl ?_
      obtain ⟨y14, e15, h⟩ := bind_inv h
      refine hL_X0_decide_20  3000 (0, 0, σ) y14 e15 ?_
      rcases y14 with z16 | r17
      rotate_left
      · show r17 = q
        cases h; rfl
      show Go l m_X0_decide (d + 1) LAYC (.inl (some (.inl q.1))) q.2 156 [some (.inr 33), none, none, none, none] [] z16
      rw [Sum.elim_inl] at h
      refine go_ops ok_X0_decide_156_2 (L' := [some (.inr 33), none, none, none, none]) (st' := [.inr 27]) (σ1 := z16) rfl ?_
      obtain ⟨q18, e19, h⟩ := bnd_inv h
      refine go_V (M1 := m_X1_miss) (as := []) (st := []) (k := 27) (ci := 1) dc_X0_decide_160 ln_0_60 im_X1_miss (by decide) rfl rfl mk_X1_miss rfl (Nat.le_of_ble_eq_true rfl) (Nat.le_refl _) (v := (some (.inl q18.1))) (σ1 := q18.2) (lk_X1_miss l d (by omega) z16 q18 e19.symm) _ rfl ?_
      have h9 := Option.some.inj h
      subst h9
      exact go_iret dc_X0_decide_163 rfl
    refine go_ops ok_X0_decide_0_2 (L' := [some (.inr 33), none, none, none, none]) (st' := [.inl (σ 33 3)]) (σ1 := σ) rfl ?_
    refine go_if_ne dc_X0_decide_4 (by rfl) (fun hc => ?_) (fun hc => ?_)
    · replace h := (if_neg hc).symm.trans h
      exact hB_X0_decide_16 σ h
    · replace h := (if_pos hc).symm.trans h
      refine go_ops ok_X0_decide_7_1 (L' := [some (.inr 33), none, none, none, none]) (st' := [.inr 33]) (σ1 := σ) rfl ?_
      obtain ⟨q20, e21, h⟩ := bind_inv h
      refine go_V (M1 := m_X0_compile) (as := []) (st := []) (k := 33) (ci := 0) dc_X0_decide_8 ln_0_44 im_X0_compile (by decide) rfl rfl mk_X0_compile rfl (Nat.le_of_ble_eq_true rfl) (Nat.le_refl _) (v := none) (σ1 := q20) (lk_X0_compile l d (by omega) σ q20 e21) _ rfl ?_
      refine go_ops ok_X0_decide_11_2 (L' := [some (.inr 33), none, none, none, none]) (st' := [.inl 1, .inr 33]) (σ1 := q20) rfl ?_
      obtain ⟨s22, e23, h⟩ := bnd_inv h
      refine go_pfb (b := true) (k := 33) (ci := 0) (sl := 3) dc_X0_decide_13 (by decide +kernel) (by decide) rfl rfl (by decide +kernel) (by decide +kernel) e23 ?_
      exact hB_X0_decide_16 s22 h
  have hf := go_ct (as := [.inr 33]) mk_X0_decide (by rfl) (Nat.le_of_ble_eq_true rfl) key
  exact hf
theorem dc_X1_clear_11 : decode m_X1_clear.2.2.1 11 = .ok (.invokevirtual 49, 3) := by decide +kernel
theorem dc_X1_clear_14 : decode m_X1_clear.2.2.1 14 = .ok (.return_, 1) := by decide +kernel
theorem ok_X1_clear_0_7 : oks m_X1_clear.1 m_X1_clear.2.2.1 0 [(.aload_n 0, 1, (0, 0, 0)), (.iconst 0, 1, (0, 0, 0)), (.putfield 9, 3, (1, 3, 0)), (.aload_n 0, 1, (0, 0, 0)), (.iconst 0, 1, (0, 0, 0)), (.putfield 15, 3, (1, 4, 0)), (.aload_n 0, 1, (0, 0, 0))] = true ∧ plen 0 [(.aload_n 0, 1, (0, 0, 0)), (.iconst 0, 1, (0, 0, 0)), (.putfield 9, 3, (1, 3, 0)), (.aload_n 0, 1, (0, 0, 0)), (.iconst 0, 1, (0, 0, 0)), (.putfield 15, 3, (1, 4, 0)), (.aload_n 0, 1, (0, 0, 0))] = 11 := by decide +kernel
def F_X1_clear (σ : Sg) : Sg :=
bnd (up2 σ 27 3 0) fun s1 =>
bnd (up2 s1 27 4 0) fun s3 =>
bnd (F_X1_unbind s3) fun q5 =>
q5
theorem lk_X1_clear (l : Launch) (d : Nat) (hd : 2 ≤ d) (σ : Sg) (q : Sg) (h : F_X1_clear σ = q) : CT l d m_X1_clear.2.1 m_X1_clear.2.2.1 m_X1_clear.2.2.2.1 m_X1_clear.2.2.2.2 [.inr 27] (LAYC, σ) none (LAYC, q) := by
  obtain ⟨d, rfl⟩ : ∃ e, d = e + 1 := ⟨d - 1, by omega⟩
  have key : Go l m_X1_clear (d + 1) LAYC (.inl none) q 0 [some (.inr 27)] [] σ := by
    unfold F_X1_clear at h
    obtain ⟨s1, e2, h⟩ := bnd_inv h
    obtain ⟨s3, e4, h⟩ := bnd_inv h
    refine go_ops ok_X1_clear_0_7 (L' := [some (.inr 27)]) (st' := [.inr 27]) (σ1 := s3) (by subst e4; subst e2; rfl) ?_
    obtain ⟨q5, e6, h⟩ := bnd_inv h
    refine go_V (M1 := m_X1_unbind) (as := []) (st := []) (k := 27) (ci := 1) dc_X1_clear_11 ln_1_49 im_X1_unbind (by decide) rfl rfl mk_X1_unbind rfl (Nat.le_of_ble_eq_true rfl) (Nat.le_refl _) (v := none) (σ1 := q5) (lk_X1_unbind l d (by omega) s3 q5 e6.symm) _ rfl ?_
    subst h
    exact go_vret dc_X1_clear_14 rfl
  have hf := go_ct (as := [.inr 27]) mk_X1_clear (by rfl) (Nat.le_of_ble_eq_true rfl) key
  exact hf
