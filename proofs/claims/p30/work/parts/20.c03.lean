/-! read off: X7_nodeCount .. X7_areSame -/
theorem dc_X7_nodeCount_4 : decode m_X7_nodeCount.2.2.1 4 = .ok (.ireturn, 1) := by decide +kernel
theorem ok_X7_nodeCount_0_2 : oks m_X7_nodeCount.1 m_X7_nodeCount.2.2.1 0 [(.aload_n 0, 1, (0, 0, 0)), (.getfield 15, 3, (7, 4, 0))] = true ∧ plen 0 [(.aload_n 0, 1, (0, 0, 0)), (.getfield 15, 3, (7, 4, 0))] = 4 := by decide +kernel
def F_X7_nodeCount (t : Nat) (σ : Sg) : Int :=
σ t 4
theorem lk_X7_nodeCount_43 (l : Launch) (d : Nat) (hd : 0 ≤ d) (σ : Sg) (q : Int) (h : F_X7_nodeCount 43 σ = q) : CT l d m_X7_nodeCount.2.1 m_X7_nodeCount.2.2.1 m_X7_nodeCount.2.2.2.1 m_X7_nodeCount.2.2.2.2 [.inr 43] (LAYC, σ) (some (.inl q)) (LAYC, σ) := by
  skip
  have key : Go l m_X7_nodeCount d LAYC (.inl (some (.inl q))) σ 0 [some (.inr 43)] [] σ := by
    unfold F_X7_nodeCount at h
    refine go_ops ok_X7_nodeCount_0_2 (L' := [some (.inr 43)]) (st' := [.inl (σ 43 4)]) (σ1 := σ) rfl ?_
    subst h
    exact go_iret dc_X7_nodeCount_4 rfl
  have hf := go_ct (as := [.inr 43]) mk_X7_nodeCount (by rfl) (Nat.le_of_ble_eq_true rfl) key
  exact hf
theorem lk_X7_nodeCount_49 (l : Launch) (d : Nat) (hd : 0 ≤ d) (σ : Sg) (q : Int) (h : F_X7_nodeCount 49 σ = q) : CT l d m_X7_nodeCount.2.1 m_X7_nodeCount.2.2.1 m_X7_nodeCount.2.2.2.1 m_X7_nodeCount.2.2.2.2 [.inr 49] (LAYC, σ) (some (.inl q)) (LAYC, σ) := by
  skip
  have key : Go l m_X7_nodeCount d LAYC (.inl (some (.inl q))) σ 0 [some (.inr 49)] [] σ := by
    unfold F_X7_nodeCount at h
    refine go_ops ok_X7_nodeCount_0_2 (L' := [some (.inr 49)]) (st' := [.inl (σ 49 4)]) (σ1 := σ) rfl ?_
    subst h
    exact go_iret dc_X7_nodeCount_4 rfl
  have hf := go_ct (as := [.inr 49]) mk_X7_nodeCount (by rfl) (Nat.le_of_ble_eq_true rfl) key
  exact hf
theorem dc_X7_missedCount_4 : decode m_X7_missedCount.2.2.1 4 = .ok (.ireturn, 1) := by decide +kernel
theorem ok_X7_missedCount_0_2 : oks m_X7_missedCount.1 m_X7_missedCount.2.2.1 0 [(.aload_n 0, 1, (0, 0, 0)), (.getfield 25, 3, (7, 7, 0))] = true ∧ plen 0 [(.aload_n 0, 1, (0, 0, 0)), (.getfield 25, 3, (7, 7, 0))] = 4 := by decide +kernel
def F_X7_missedCount (t : Nat) (σ : Sg) : Int :=
σ t 7
theorem lk_X7_missedCount_43 (l : Launch) (d : Nat) (hd : 0 ≤ d) (σ : Sg) (q : Int) (h : F_X7_missedCount 43 σ = q) : CT l d m_X7_missedCount.2.1 m_X7_missedCount.2.2.1 m_X7_missedCount.2.2.2.1 m_X7_missedCount.2.2.2.2 [.inr 43] (LAYC, σ) (some (.inl q)) (LAYC, σ) := by
  skip
  have key : Go l m_X7_missedCount d LAYC (.inl (some (.inl q))) σ 0 [some (.inr 43)] [] σ := by
    unfold F_X7_missedCount at h
    refine go_ops ok_X7_missedCount_0_2 (L' := [some (.inr 43)]) (st' := [.inl (σ 43 7)]) (σ1 := σ) rfl ?_
    subst h
    exact go_iret dc_X7_missedCount_4 rfl
  have hf := go_ct (as := [.inr 43]) mk_X7_missedCount (by rfl) (Nat.le_of_ble_eq_true rfl) key
  exact hf
theorem lk_X7_missedCount_49 (l : Launch) (d : Nat) (hd : 0 ≤ d) (σ : Sg) (q : Int) (h : F_X7_missedCount 49 σ = q) : CT l d m_X7_missedCount.2.1 m_X7_missedCount.2.2.1 m_X7_missedCount.2.2.2.1 m_X7_missedCount.2.2.2.2 [.inr 49] (LAYC, σ) (some (.inl q)) (LAYC, σ) := by
  skip
  have key : Go l m_X7_missedCount d LAYC (.inl (some (.inl q))) σ 0 [some (.inr 49)] [] σ := by
    unfold F_X7_missedCount at h
    refine go_ops ok_X7_missedCount_0_2 (L' := [some (.inr 49)]) (st' := [.inl (σ 49 7)]) (σ1 := σ) rfl ?_
    subst h
    exact go_iret dc_X7_missedCount_4 rfl
  have hf := go_ct (as := [.inr 49]) mk_X7_missedCount (by rfl) (Nat.le_of_ble_eq_true rfl) key
  exact hf
theorem dc_X7_hasLeafOf_9 : decode m_X7_hasLeafOf.2.2.1 9 = .ok (.if_icmp .ne 7, 3) := by decide +kernel
theorem dc_X7_hasLeafOf_13 : decode m_X7_hasLeafOf.2.2.1 13 = .ok (.goto 4, 3) := by decide +kernel
theorem dc_X7_hasLeafOf_17 : decode m_X7_hasLeafOf.2.2.1 17 = .ok (.ireturn, 1) := by decide +kernel
theorem ok_X7_hasLeafOf_0_7 : oks m_X7_hasLeafOf.1 m_X7_hasLeafOf.2.2.1 0 [(.aload_n 0, 1, (0, 0, 0)), (.getfield 31, 3, (7, 9, 0)), (.iload_n 1, 1, (0, 0, 0)), (.ishr, 1, (0, 0, 0)), (.iconst 1, 1, (0, 0, 0)), (.iand, 1, (0, 0, 0)), (.iconst 1, 1, (0, 0, 0))] = true ∧ plen 0 [(.aload_n 0, 1, (0, 0, 0)), (.getfield 31, 3, (7, 9, 0)), (.iload_n 1, 1, (0, 0, 0)), (.ishr, 1, (0, 0, 0)), (.iconst 1, 1, (0, 0, 0)), (.iand, 1, (0, 0, 0)), (.iconst 1, 1, (0, 0, 0))] = 9 := by decide +kernel
theorem ok_X7_hasLeafOf_12_1 : oks m_X7_hasLeafOf.1 m_X7_hasLeafOf.2.2.1 12 [(.iconst 1, 1, (0, 0, 0))] = true ∧ plen 12 [(.iconst 1, 1, (0, 0, 0))] = 13 := by decide +kernel
theorem ok_X7_hasLeafOf_16_1 : oks m_X7_hasLeafOf.1 m_X7_hasLeafOf.2.2.1 16 [(.iconst 0, 1, (0, 0, 0))] = true ∧ plen 16 [(.iconst 0, 1, (0, 0, 0))] = 17 := by decide +kernel
def F_X7_hasLeafOf (t : Nat) (a1 : Int) (σ : Sg) : Bool :=
if (jand (jshr (σ t 9) a1) 1) = 1 then
true
else
false
theorem lk_X7_hasLeafOf_43 (l : Launch) (d : Nat) (hd : 0 ≤ d) (a1 : Int) (σ : Sg) (q : Bool) (h : F_X7_hasLeafOf 43 a1 σ = q) : CT l d m_X7_hasLeafOf.2.1 m_X7_hasLeafOf.2.2.1 m_X7_hasLeafOf.2.2.2.1 m_X7_hasLeafOf.2.2.2.2 [.inr 43, .inl a1] (LAYC, σ) (some (.inl (b2i q))) (LAYC, σ) := by
  skip
  have key : Go l m_X7_hasLeafOf d LAYC (.inl (some (.inl (b2i q)))) σ 0 [some (.inr 43), some (.inl a1)] [] σ := by
    unfold F_X7_hasLeafOf at h
    refine go_ops ok_X7_hasLeafOf_0_7 (L' := [some (.inr 43), some (.inl a1)]) (st' := [.inl 1, .inl (jand (jshr (σ 43 9) a1) 1)]) (σ1 := σ) rfl ?_
    refine go_icmp_ne dc_X7_hasLeafOf_9 (by rfl) (fun hc => ?_) (fun hc => ?_)
    · replace h := (if_neg hc).symm.trans h
      refine go_ops ok_X7_hasLeafOf_16_1 (L' := [some (.inr 43), some (.inl a1)]) (st' := [.inl 0]) (σ1 := σ) rfl ?_
      subst h
      exact go_zret (x := false) dc_X7_hasLeafOf_17 rfl
    · replace h := (if_pos hc).symm.trans h
      refine go_ops ok_X7_hasLeafOf_12_1 (L' := [some (.inr 43), some (.inl a1)]) (st' := [.inl 1]) (σ1 := σ) rfl ?_
      refine go_goto dc_X7_hasLeafOf_13 (by rfl) ?_
      subst h
      exact go_zret (x := true) dc_X7_hasLeafOf_17 rfl
  have hf := go_ct (as := [.inr 43, .inl a1]) mk_X7_hasLeafOf (by rfl) (Nat.le_of_ble_eq_true rfl) key
  exact hf
theorem lk_X7_hasLeafOf_49 (l : Launch) (d : Nat) (hd : 0 ≤ d) (a1 : Int) (σ : Sg) (q : Bool) (h : F_X7_hasLeafOf 49 a1 σ = q) : CT l d m_X7_hasLeafOf.2.1 m_X7_hasLeafOf.2.2.1 m_X7_hasLeafOf.2.2.2.1 m_X7_hasLeafOf.2.2.2.2 [.inr 49, .inl a1] (LAYC, σ) (some (.inl (b2i q))) (LAYC, σ) := by
  skip
  have key : Go l m_X7_hasLeafOf d LAYC (.inl (some (.inl (b2i q)))) σ 0 [some (.inr 49), some (.inl a1)] [] σ := by
    unfold F_X7_hasLeafOf at h
    refine go_ops ok_X7_hasLeafOf_0_7 (L' := [some (.inr 49), some (.inl a1)]) (st' := [.inl 1, .inl (jand (jshr (σ 49 9) a1) 1)]) (σ1 := σ) rfl ?_
    refine go_icmp_ne dc_X7_hasLeafOf_9 (by rfl) (fun hc => ?_) (fun hc => ?_)
    · replace h := (if_neg hc).symm.trans h
      refine go_ops ok_X7_hasLeafOf_16_1 (L' := [some (.inr 49), some (.inl a1)]) (st' := [.inl 0]) (σ1 := σ) rfl ?_
      subst h
      exact go_zret (x := false) dc_X7_hasLeafOf_17 rfl
    · replace h := (if_pos hc).symm.trans h
      refine go_ops ok_X7_hasLeafOf_12_1 (L' := [some (.inr 49), some (.inl a1)]) (st' := [.inl 1]) (σ1 := σ) rfl ?_
      refine go_goto dc_X7_hasLeafOf_13 (by rfl) ?_
      subst h
      exact go_zret (x := true) dc_X7_hasLeafOf_17 rfl
  have hf := go_ct (as := [.inr 49, .inl a1]) mk_X7_hasLeafOf (by rfl) (Nat.le_of_ble_eq_true rfl) key
  exact hf
theorem dc_X7_sortOf_5 : decode m_X7_sortOf.2.2.1 5 = .ok (.invokestatic 61, 3) := by decide +kernel
theorem dc_X7_sortOf_11 : decode m_X7_sortOf.2.2.1 11 = .ok (.ireturn, 1) := by decide +kernel
theorem ok_X7_sortOf_0_3 : oks m_X7_sortOf.1 m_X7_sortOf.2.2.1 0 [(.aload_n 0, 1, (0, 0, 0)), (.getfield 34, 3, (7, 10, 0)), (.iload_n 1, 1, (0, 0, 0))] = true ∧ plen 0 [(.aload_n 0, 1, (0, 0, 0)), (.getfield 34, 3, (7, 10, 0)), (.iload_n 1, 1, (0, 0, 0))] = 5 := by decide +kernel
theorem ok_X7_sortOf_8_2 : oks m_X7_sortOf.1 m_X7_sortOf.2.2.1 8 [(.bipush 7, 2, (0, 0, 0)), (.iand, 1, (0, 0, 0))] = true ∧ plen 8 [(.bipush 7, 2, (0, 0, 0)), (.iand, 1, (0, 0, 0))] = 11 := by decide +kernel
def F_X7_sortOf (t : Nat) (a1 : Int) (σ : Sg) : Int :=
jand (rdD (-1) σ (t + 1) 500 a1) 7
theorem lk_X7_sortOf_43 (l : Launch) (d : Nat) (hd : 1 ≤ d) (a1 : Int) (σ : Sg) (q : Int) (h : F_X7_sortOf 43 a1 σ = q) : CT l d m_X7_sortOf.2.1 m_X7_sortOf.2.2.1 m_X7_sortOf.2.2.2.1 m_X7_sortOf.2.2.2.2 [.inr 43, .inl a1] (LAYC, σ) (some (.inl q)) (LAYC, σ) := by
  obtain ⟨d, rfl⟩ : ∃ e, d = e + 1 := ⟨d - 1, by omega⟩
  have key : Go l m_X7_sortOf (d + 1) LAYC (.inl (some (.inl q))) σ 0 [some (.inr 43), some (.inl a1)] [] σ := by
    unfold F_X7_sortOf at h
    refine go_ops ok_X7_sortOf_0_3 (L' := [some (.inr 43), some (.inl a1)]) (st' := [.inl a1, .inr 44]) (σ1 := σ) rfl ?_
    refine go_SN (M1 := m_X10_at) (as := [.inr 44, .inl a1]) (st := []) dc_X7_sortOf_5 ln_7_61 sm_X10_at mk_X10_at rfl (Nat.le_of_ble_eq_true rfl) (Nat.le_refl _) (v := some (.inl (rdD (-1) σ 44 500 a1))) (σ1 := σ) (lk_X10_at l d LAYC 44 500 rfl σ _) _ rfl ?_
    refine go_ops ok_X7_sortOf_8_2 (L' := [some (.inr 43), some (.inl a1)]) (st' := [.inl (jand (rdD (-1) σ 44 500 a1) 7)]) (σ1 := σ) rfl ?_
    subst h
    exact go_iret dc_X7_sortOf_11 rfl
  have hf := go_ct (as := [.inr 43, .inl a1]) mk_X7_sortOf (by rfl) (Nat.le_of_ble_eq_true rfl) key
  exact hf
theorem lk_X7_sortOf_49 (l : Launch) (d : Nat) (hd : 1 ≤ d) (a1 : Int) (σ : Sg) (q : Int) (h : F_X7_sortOf 49 a1 σ = q) : CT l d m_X7_sortOf.2.1 m_X7_sortOf.2.2.1 m_X7_sortOf.2.2.2.1 m_X7_sortOf.2.2.2.2 [.inr 49, .inl a1] (LAYC, σ) (some (.inl q)) (LAYC, σ) := by
  obtain ⟨d, rfl⟩ : ∃ e, d = e + 1 := ⟨d - 1, by omega⟩
  have key : Go l m_X7_sortOf (d + 1) LAYC (.inl (some (.inl q))) σ 0 [some (.inr 49), some (.inl a1)] [] σ := by
    unfold F_X7_sortOf at h
    refine go_ops ok_X7_sortOf_0_3 (L' := [some (.inr 49), some (.inl a1)]) (st' := [.inl a1, .inr 50]) (σ1 := σ) rfl ?_
    refine go_SN (M1 := m_X10_at) (as := [.inr 50, .inl a1]) (st := []) dc_X7_sortOf_5 ln_7_61 sm_X10_at mk_X10_at rfl (Nat.le_of_ble_eq_true rfl) (Nat.le_refl _) (v := some (.inl (rdD (-1) σ 50 500 a1))) (σ1 := σ) (lk_X10_at l d LAYC 50 500 rfl σ _) _ rfl ?_
    refine go_ops ok_X7_sortOf_8_2 (L' := [some (.inr 49), some (.inl a1)]) (st' := [.inl (jand (rdD (-1) σ 50 500 a1) 7)]) (σ1 := σ) rfl ?_
    subst h
    exact go_iret dc_X7_sortOf_11 rfl
  have hf := go_ct (as := [.inr 49, .inl a1]) mk_X7_sortOf (by rfl) (Nat.le_of_ble_eq_true rfl) key
  exact hf
theorem dc_X7_whatOf_5 : decode m_X7_whatOf.2.2.1 5 = .ok (.invokestatic 61, 3) := by decide +kernel
theorem dc_X7_whatOf_11 : decode m_X7_whatOf.2.2.1 11 = .ok (.ireturn, 1) := by decide +kernel
theorem ok_X7_whatOf_0_3 : oks m_X7_whatOf.1 m_X7_whatOf.2.2.1 0 [(.aload_n 0, 1, (0, 0, 0)), (.getfield 34, 3, (7, 10, 0)), (.iload_n 1, 1, (0, 0, 0))] = true ∧ plen 0 [(.aload_n 0, 1, (0, 0, 0)), (.getfield 34, 3, (7, 10, 0)), (.iload_n 1, 1, (0, 0, 0))] = 5 := by decide +kernel
theorem ok_X7_whatOf_8_2 : oks m_X7_whatOf.1 m_X7_whatOf.2.2.1 8 [(.bipush 6, 2, (0, 0, 0)), (.ishr, 1, (0, 0, 0))] = true ∧ plen 8 [(.bipush 6, 2, (0, 0, 0)), (.ishr, 1, (0, 0, 0))] = 11 := by decide +kernel
def F_X7_whatOf (t : Nat) (a1 : Int) (σ : Sg) : Int :=
jshr (rdD (-1) σ (t + 1) 500 a1) 6
theorem lk_X7_whatOf_43 (l : Launch) (d : Nat) (hd : 1 ≤ d) (a1 : Int) (σ : Sg) (q : Int) (h : F_X7_whatOf 43 a1 σ = q) : CT l d m_X7_whatOf.2.1 m_X7_whatOf.2.2.1 m_X7_whatOf.2.2.2.1 m_X7_whatOf.2.2.2.2 [.inr 43, .inl a1] (LAYC, σ) (some (.inl q)) (LAYC, σ) := by
  obtain ⟨d, rfl⟩ : ∃ e, d = e + 1 := ⟨d - 1, by omega⟩
  have key : Go l m_X7_whatOf (d + 1) LAYC (.inl (some (.inl q))) σ 0 [some (.inr 43), some (.inl a1)] [] σ := by
    unfold F_X7_whatOf at h
    refine go_ops ok_X7_whatOf_0_3 (L' := [some (.inr 43), some (.inl a1)]) (st' := [.inl a1, .inr 44]) (σ1 := σ) rfl ?_
    refine go_SN (M1 := m_X10_at) (as := [.inr 44, .inl a1]) (st := []) dc_X7_whatOf_5 ln_7_61 sm_X10_at mk_X10_at rfl (Nat.le_of_ble_eq_true rfl) (Nat.le_refl _) (v := some (.inl (rdD (-1) σ 44 500 a1))) (σ1 := σ) (lk_X10_at l d LAYC 44 500 rfl σ _) _ rfl ?_
    refine go_ops ok_X7_whatOf_8_2 (L' := [some (.inr 43), some (.inl a1)]) (st' := [.inl (jshr (rdD (-1) σ 44 500 a1) 6)]) (σ1 := σ) rfl ?_
    subst h
    exact go_iret dc_X7_whatOf_11 rfl
  have hf := go_ct (as := [.inr 43, .inl a1]) mk_X7_whatOf (by rfl) (Nat.le_of_ble_eq_true rfl) key
  exact hf
theorem lk_X7_whatOf_49 (l : Launch) (d : Nat) (hd : 1 ≤ d) (a1 : Int) (σ : Sg) (q : Int) (h : F_X7_whatOf 49 a1 σ = q) : CT l d m_X7_whatOf.2.1 m_X7_whatOf.2.2.1 m_X7_whatOf.2.2.2.1 m_X7_whatOf.2.2.2.2 [.inr 49, .inl a1] (LAYC, σ) (some (.inl q)) (LAYC, σ) := by
  obtain ⟨d, rfl⟩ : ∃ e, d = e + 1 := ⟨d - 1, by omega⟩
  have key : Go l m_X7_whatOf (d + 1) LAYC (.inl (some (.inl q))) σ 0 [some (.inr 49), some (.inl a1)] [] σ := by
    unfold F_X7_whatOf at h
    refine go_ops ok_X7_whatOf_0_3 (L' := [some (.inr 49), some (.inl a1)]) (st' := [.inl a1, .inr 50]) (σ1 := σ) rfl ?_
    refine go_SN (M1 := m_X10_at) (as := [.inr 50, .inl a1]) (st := []) dc_X7_whatOf_5 ln_7_61 sm_X10_at mk_X10_at rfl (Nat.le_of_ble_eq_true rfl) (Nat.le_refl _) (v := some (.inl (rdD (-1) σ 50 500 a1))) (σ1 := σ) (lk_X10_at l d LAYC 50 500 rfl σ _) _ rfl ?_
    refine go_ops ok_X7_whatOf_8_2 (L' := [some (.inr 49), some (.inl a1)]) (st' := [.inl (jshr (rdD (-1) σ 50 500 a1) 6)]) (σ1 := σ) rfl ?_
    subst h
    exact go_iret dc_X7_whatOf_11 rfl
  have hf := go_ct (as := [.inr 49, .inl a1]) mk_X7_whatOf (by rfl) (Nat.le_of_ble_eq_true rfl) key
  exact hf
theorem dc_X7_widthOf_7 : decode m_X7_widthOf.2.2.1 7 = .ok (.if_icmp .ge 16, 3) := by decide +kernel
theorem dc_X7_widthOf_17 : decode m_X7_widthOf.2.2.1 17 = .ok (.invokestatic 61, 3) := by decide +kernel
theorem dc_X7_widthOf_20 : decode m_X7_widthOf.2.2.1 20 = .ok (.goto 7, 3) := by decide +kernel
theorem dc_X7_widthOf_34 : decode m_X7_widthOf.2.2.1 34 = .ok (.invokestatic 61, 3) := by decide +kernel
theorem dc_X7_widthOf_38 : decode m_X7_widthOf.2.2.1 38 = .ok (.ireturn, 1) := by decide +kernel
theorem ok_X7_widthOf_0_5 : oks m_X7_widthOf.1 m_X7_widthOf.2.2.1 0 [(.iload_n 1, 1, (0, 0, 0)), (.iconst 1, 1, (0, 0, 0)), (.iadd, 1, (0, 0, 0)), (.aload_n 0, 1, (0, 0, 0)), (.getfield 15, 3, (7, 4, 0))] = true ∧ plen 0 [(.iload_n 1, 1, (0, 0, 0)), (.iconst 1, 1, (0, 0, 0)), (.iadd, 1, (0, 0, 0)), (.aload_n 0, 1, (0, 0, 0)), (.getfield 15, 3, (7, 4, 0))] = 7 := by decide +kernel
theorem ok_X7_widthOf_10_5 : oks m_X7_widthOf.1 m_X7_widthOf.2.2.1 10 [(.aload_n 0, 1, (0, 0, 0)), (.getfield 38, 3, (7, 11, 0)), (.iload_n 1, 1, (0, 0, 0)), (.iconst 1, 1, (0, 0, 0)), (.iadd, 1, (0, 0, 0))] = true ∧ plen 10 [(.aload_n 0, 1, (0, 0, 0)), (.getfield 38, 3, (7, 11, 0)), (.iload_n 1, 1, (0, 0, 0)), (.iconst 1, 1, (0, 0, 0)), (.iadd, 1, (0, 0, 0))] = 17 := by decide +kernel
theorem ok_X7_widthOf_23_2 : oks m_X7_widthOf.1 m_X7_widthOf.2.2.1 23 [(.aload_n 0, 1, (0, 0, 0)), (.getfield 19, 3, (7, 5, 0))] = true ∧ plen 23 [(.aload_n 0, 1, (0, 0, 0)), (.getfield 19, 3, (7, 5, 0))] = 27 := by decide +kernel
theorem ok_X7_widthOf_27_5 : oks m_X7_widthOf.1 m_X7_widthOf.2.2.1 27 [(.istore_n 2, 1, (0, 0, 0)), (.iload_n 2, 1, (0, 0, 0)), (.aload_n 0, 1, (0, 0, 0)), (.getfield 38, 3, (7, 11, 0)), (.iload_n 1, 1, (0, 0, 0))] = true ∧ plen 27 [(.istore_n 2, 1, (0, 0, 0)), (.iload_n 2, 1, (0, 0, 0)), (.aload_n 0, 1, (0, 0, 0)), (.getfield 38, 3, (7, 11, 0)), (.iload_n 1, 1, (0, 0, 0))] = 34 := by decide +kernel
theorem ok_X7_widthOf_37_1 : oks m_X7_widthOf.1 m_X7_widthOf.2.2.1 37 [(.isub, 1, (0, 0, 0))] = true ∧ plen 37 [(.isub, 1, (0, 0, 0))] = 38 := by decide +kernel
def B_X7_widthOf_27 (t : Nat) (x1 : Int) (y0 : Int) (σ : Sg) : Int :=
wrap (y0 - (rdD (-1) σ (t + 2) 500 x1))
def F_X7_widthOf (t : Nat) (a1 : Int) (σ : Sg) : Int :=
if (σ t 4) ≤ (wrap (a1 + 1)) then
B_X7_widthOf_27 t a1 (σ t 5) σ
else
B_X7_widthOf_27 t a1 (rdD (-1) σ (t + 2) 500 (wrap (a1 + 1))) σ
theorem lk_X7_widthOf_43 (l : Launch) (d : Nat) (hd : 1 ≤ d) (a1 : Int) (σ : Sg) (q : Int) (h : F_X7_widthOf 43 a1 σ = q) : CT l d m_X7_widthOf.2.1 m_X7_widthOf.2.2.1 m_X7_widthOf.2.2.2.1 m_X7_widthOf.2.2.2.2 [.inr 43, .inl a1] (LAYC, σ) (some (.inl q)) (LAYC, σ) := by
  obtain ⟨d, rfl⟩ : ∃ e, d = e + 1 := ⟨d - 1, by omega⟩
  have key : Go l m_X7_widthOf (d + 1) LAYC (.inl (some (.inl q))) σ 0 [some (.inr 43), some (.inl a1), none] [] σ := by
    unfold F_X7_widthOf at h
    have hB_X7_widthOf_27 : ∀ (x1 : Int) (y0 : Int) (σ : Sg), B_X7_widthOf_27 43 x1 y0 σ = q → Go l m_X7_widthOf (d + 1) LAYC (.inl (some (.inl q))) σ 27 [some (.inr 43), some (.inl x1), none] [.inl y0] σ := by
      intro x1 y0 σ h
      unfold B_X7_widthOf_27 at h
      refine go_ops ok_X7_widthOf_27_5 (L' := [some (.inr 43), some (.inl x1), some (.inl y0)]) (st' := [.inl x1, .inr 45, .inl y0]) (σ1 := σ) rfl ?_
      refine go_SN (M1 := m_X10_at) (as := [.inr 45, .inl x1]) (st := [.inl y0]) dc_X7_widthOf_34 ln_7_61 sm_X10_at mk_X10_at rfl (Nat.le_of_ble_eq_true rfl) (Nat.le_refl _) (v := some (.inl (rdD (-1) σ 45 500 x1))) (σ1 := σ) (lk_X10_at l d LAYC 45 500 rfl σ _) _ rfl ?_
      refine go_ops ok_X7_widthOf_37_1 (L' := [some (.inr 43), some (.inl x1), some (.inl y0)]) (st' := [.inl (wrap (y0 - (rdD (-1) σ 45 500 x1)))]) (σ1 := σ) rfl ?_
      subst h
      exact go_iret dc_X7_widthOf_38 rfl
    refine go_ops ok_X7_widthOf_0_5 (L' := [some (.inr 43), some (.inl a1), none]) (st' := [.inl (σ 43 4), .inl (wrap (a1 + 1))]) (σ1 := σ) rfl ?_
    refine go_icmp_ge dc_X7_widthOf_7 (by rfl) (fun hc => ?_) (fun hc => ?_)
    · replace h := (if_pos hc).symm.trans h
      refine go_ops ok_X7_widthOf_23_2 (L' := [some (.inr 43), some (.inl a1), none]) (st' := [.inl (σ 43 5)]) (σ1 := σ) rfl ?_
      exact hB_X7_widthOf_27 a1 (σ 43 5) σ h
    · replace h := (if_neg hc).symm.trans h
      refine go_ops ok_X7_widthOf_10_5 (L' := [some (.inr 43), some (.inl a1), none]) (st' := [.inl (wrap (a1 + 1)), .inr 45]) (σ1 := σ) rfl ?_
      refine go_SN (M1 := m_X10_at) (as := [.inr 45, .inl (wrap (a1 + 1))]) (st := []) dc_X7_widthOf_17 ln_7_61 sm_X10_at mk_X10_at rfl (Nat.le_of_ble_eq_true rfl) (Nat.le_refl _) (v := some (.inl (rdD (-1) σ 45 500 (wrap (a1 + 1))))) (σ1 := σ) (lk_X10_at l d LAYC 45 500 rfl σ _) _ rfl ?_
      refine go_goto dc_X7_widthOf_20 (by rfl) ?_
      exact hB_X7_widthOf_27 a1 (rdD (-1) σ 45 500 (wrap (a1 + 1))) σ h
  have hf := go_ct (as := [.inr 43, .inl a1]) mk_X7_widthOf (by rfl) (Nat.le_of_ble_eq_true rfl) key
  exact hf
theorem lk_X7_widthOf_49 (l : Launch) (d : Nat) (hd : 1 ≤ d) (a1 : Int) (σ : Sg) (q : Int) (h : F_X7_widthOf 49 a1 σ = q) : CT l d m_X7_widthOf.2.1 m_X7_widthOf.2.2.1 m_X7_widthOf.2.2.2.1 m_X7_widthOf.2.2.2.2 [.inr 49, .inl a1] (LAYC, σ) (some (.inl q)) (LAYC, σ) := by
  obtain ⟨d, rfl⟩ : ∃ e, d = e + 1 := ⟨d - 1, by omega⟩
  have key : Go l m_X7_widthOf (d + 1) LAYC (.inl (some (.inl q))) σ 0 [some (.inr 49), some (.inl a1), none] [] σ := by
    unfold F_X7_widthOf at h
    have hB_X7_widthOf_27 : ∀ (x1 : Int) (y0 : Int) (σ : Sg), B_X7_widthOf_27 49 x1 y0 σ = q → Go l m_X7_widthOf (d + 1) LAYC (.inl (some (.inl q))) σ 27 [some (.inr 49), some (.inl x1), none] [.inl y0] σ := by
      intro x1 y0 σ h
      unfold B_X7_widthOf_27 at h
      refine go_ops ok_X7_widthOf_27_5 (L' := [some (.inr 49), some (.inl x1), some (.inl y0)]) (st' := [.inl x1, .inr 51, .inl y0]) (σ1 := σ) rfl ?_
      refine go_SN (M1 := m_X10_at) (as := [.inr 51, .inl x1]) (st := [.inl y0]) dc_X7_widthOf_34 ln_7_61 sm_X10_at mk_X10_at rfl (Nat.le_of_ble_eq_true rfl) (Nat.le_refl _) (v := some (.inl (rdD (-1) σ 51 500 x1))) (σ1 := σ) (lk_X10_at l d LAYC 51 500 rfl σ _) _ rfl ?_
      refine go_ops ok_X7_widthOf_37_1 (L' := [some (.inr 49), some (.inl x1), some (.inl y0)]) (st' := [.inl (wrap (y0 - (rdD (-1) σ 51 500 x1)))]) (σ1 := σ) rfl ?_
      subst h
      exact go_iret dc_X7_widthOf_38 rfl
    refine go_ops ok_X7_widthOf_0_5 (L' := [some (.inr 49), some (.inl a1), none]) (st' := [.inl (σ 49 4), .inl (wrap (a1 + 1))]) (σ1 := σ) rfl ?_
    refine go_icmp_ge dc_X7_widthOf_7 (by rfl) (fun hc => ?_) (fun hc => ?_)
    · replace h := (if_pos hc).symm.trans h
      refine go_ops ok_X7_widthOf_23_2 (L' := [some (.inr 49), some (.inl a1), none]) (st' := [.inl (σ 49 5)]) (σ1 := σ) rfl ?_
      exact hB_X7_widthOf_27 a1 (σ 49 5) σ h
    · replace h := (if_neg hc).symm.trans h
      refine go_ops ok_X7_widthOf_10_5 (L' := [some (.inr 49), some (.inl a1), none]) (st' := [.inl (wrap (a1 + 1)), .inr 51]) (σ1 := σ) rfl ?_
      refine go_SN (M1 := m_X10_at) (as := [.inr 51, .inl (wrap (a1 + 1))]) (st := []) dc_X7_widthOf_17 ln_7_61 sm_X10_at mk_X10_at rfl (Nat.le_of_ble_eq_true rfl) (Nat.le_refl _) (v := some (.inl (rdD (-1) σ 51 500 (wrap (a1 + 1))))) (σ1 := σ) (lk_X10_at l d LAYC 51 500 rfl σ _) _ rfl ?_
      refine go_goto dc_X7_widthOf_20 (by rfl) ?_
      exact hB_X7_widthOf_27 a1 (rdD (-1) σ 51 500 (wrap (a1 + 1))) σ h
  have hf := go_ct (as := [.inr 49, .inl a1]) mk_X7_widthOf (by rfl) (Nat.le_of_ble_eq_true rfl) key
  exact hf
theorem dc_X7_nodeBehind_4 : decode m_X7_nodeBehind.2.2.1 4 = .ok (.invokevirtual 78, 3) := by decide +kernel
theorem dc_X7_nodeBehind_9 : decode m_X7_nodeBehind.2.2.1 9 = .ok (.invokestatic 84, 3) := by decide +kernel
theorem dc_X7_nodeBehind_12 : decode m_X7_nodeBehind.2.2.1 12 = .ok (.ifCond .eq 23, 3) := by decide +kernel
theorem dc_X7_nodeBehind_24 : decode m_X7_nodeBehind.2.2.1 24 = .ok (.invokestatic 61, 3) := by decide +kernel
theorem dc_X7_nodeBehind_29 : decode m_X7_nodeBehind.2.2.1 29 = .ok (.invokestatic 61, 3) := by decide +kernel
theorem dc_X7_nodeBehind_32 : decode m_X7_nodeBehind.2.2.1 32 = .ok (.goto 4, 3) := by decide +kernel
theorem dc_X7_nodeBehind_36 : decode m_X7_nodeBehind.2.2.1 36 = .ok (.ireturn, 1) := by decide +kernel
theorem ok_X7_nodeBehind_0_4 : oks m_X7_nodeBehind.1 m_X7_nodeBehind.2.2.1 0 [(.iload_n 2, 1, (0, 0, 0)), (.iconst 0, 1, (0, 0, 0)), (.aload_n 0, 1, (0, 0, 0)), (.iload_n 1, 1, (0, 0, 0))] = true ∧ plen 0 [(.iload_n 2, 1, (0, 0, 0)), (.iconst 0, 1, (0, 0, 0)), (.aload_n 0, 1, (0, 0, 0)), (.iload_n 1, 1, (0, 0, 0))] = 4 := by decide +kernel
theorem ok_X7_nodeBehind_7_2 : oks m_X7_nodeBehind.1 m_X7_nodeBehind.2.2.1 7 [(.iconst 1, 1, (0, 0, 0)), (.isub, 1, (0, 0, 0))] = true ∧ plen 7 [(.iconst 1, 1, (0, 0, 0)), (.isub, 1, (0, 0, 0))] = 9 := by decide +kernel
theorem ok_X7_nodeBehind_15_5 : oks m_X7_nodeBehind.1 m_X7_nodeBehind.2.2.1 15 [(.aload_n 0, 1, (0, 0, 0)), (.getfield 41, 3, (7, 12, 0)), (.aload_n 0, 1, (0, 0, 0)), (.getfield 38, 3, (7, 11, 0)), (.iload_n 1, 1, (0, 0, 0))] = true ∧ plen 15 [(.aload_n 0, 1, (0, 0, 0)), (.getfield 41, 3, (7, 12, 0)), (.aload_n 0, 1, (0, 0, 0)), (.getfield 38, 3, (7, 11, 0)), (.iload_n 1, 1, (0, 0, 0))] = 24 := by decide +kernel
theorem ok_X7_nodeBehind_27_2 : oks m_X7_nodeBehind.1 m_X7_nodeBehind.2.2.1 27 [(.iload_n 2, 1, (0, 0, 0)), (.iadd, 1, (0, 0, 0))] = true ∧ plen 27 [(.iload_n 2, 1, (0, 0, 0)), (.iadd, 1, (0, 0, 0))] = 29 := by decide +kernel
theorem ok_X7_nodeBehind_35_1 : oks m_X7_nodeBehind.1 m_X7_nodeBehind.2.2.1 35 [(.iconst (-1), 1, (0, 0, 0))] = true ∧ plen 35 [(.iconst (-1), 1, (0, 0, 0))] = 36 := by decide +kernel
def F_X7_nodeBehind (t : Nat) (a1 : Int) (a2 : Int) (σ : Sg) : Int :=
if (F_X10_isIn a2 0 (wrap ((F_X7_widthOf t a1 σ) - 1))) = true then
rdD (-1) σ (t + 3) 500 (wrap ((rdD (-1) σ (t + 2) 500 a1) + a2))
else
(-1)
theorem lk_X7_nodeBehind_43 (l : Launch) (d : Nat) (hd : 2 ≤ d) (a1 : Int) (a2 : Int) (σ : Sg) (q : Int) (h : F_X7_nodeBehind 43 a1 a2 σ = q) : CT l d m_X7_nodeBehind.2.1 m_X7_nodeBehind.2.2.1 m_X7_nodeBehind.2.2.2.1 m_X7_nodeBehind.2.2.2.2 [.inr 43, .inl a1, .inl a2] (LAYC, σ) (some (.inl q)) (LAYC, σ) := by
  obtain ⟨d, rfl⟩ : ∃ e, d = e + 1 := ⟨d - 1, by omega⟩
  have key : Go l m_X7_nodeBehind (d + 1) LAYC (.inl (some (.inl q))) σ 0 [some (.inr 43), some (.inl a1), some (.inl a2)] [] σ := by
    unfold F_X7_nodeBehind at h
    refine go_ops ok_X7_nodeBehind_0_4 (L' := [some (.inr 43), some (.inl a1), some (.inl a2)]) (st' := [.inl a1, .inr 43, .inl 0, .inl a2]) (σ1 := σ) rfl ?_
    refine go_V (M1 := m_X7_widthOf) (as := [.inl a1]) (st := [.inl 0, .inl a2]) (k := 43) (ci := 7) dc_X7_nodeBehind_4 ln_7_78 im_X7_widthOf (by decide) rfl rfl mk_X7_widthOf rfl (Nat.le_of_ble_eq_true rfl) (Nat.le_refl _) (v := (some (.inl (F_X7_widthOf 43 a1 σ)))) (σ1 := σ) (lk_X7_widthOf_43 l d (by omega) a1 σ _ rfl) _ rfl ?_
    refine go_ops ok_X7_nodeBehind_7_2 (L' := [some (.inr 43), some (.inl a1), some (.inl a2)]) (st' := [.inl (wrap ((F_X7_widthOf 43 a1 σ) - 1)), .inl 0, .inl a2]) (σ1 := σ) rfl ?_
    refine go_SN (M1 := m_X10_isIn) (as := [.inl a2, .inl 0, .inl (wrap ((F_X7_widthOf 43 a1 σ) - 1))]) (st := []) dc_X7_nodeBehind_9 ln_7_84 sm_X10_isIn mk_X10_isIn rfl (Nat.le_of_ble_eq_true rfl) (Nat.le_refl _) (v := (some (.inl (b2i (F_X10_isIn a2 0 (wrap ((F_X7_widthOf 43 a1 σ) - 1))))))) (σ1 := σ) (lk_X10_isIn l d (by omega) a2 0 (wrap ((F_X7_widthOf 43 a1 σ) - 1)) σ _ rfl) _ rfl ?_
    refine go_ifb_eq dc_X7_nodeBehind_12 (by rfl) (fun hc => ?_) (fun hc => ?_)
    · replace h := (if_neg hc).symm.trans h
      refine go_ops ok_X7_nodeBehind_35_1 (L' := [some (.inr 43), some (.inl a1), some (.inl a2)]) (st' := [.inl (-1)]) (σ1 := σ) rfl ?_
      subst h
      exact go_iret dc_X7_nodeBehind_36 rfl
    · replace h := (if_pos hc).symm.trans h
      refine go_ops ok_X7_nodeBehind_15_5 (L' := [some (.inr 43), some (.inl a1), some (.inl a2)]) (st' := [.inl a1, .inr 45, .inr 46]) (σ1 := σ) rfl ?_
      refine go_SN (M1 := m_X10_at) (as := [.inr 45, .inl a1]) (st := [.inr 46]) dc_X7_nodeBehind_24 ln_7_61 sm_X10_at mk_X10_at rfl (Nat.le_of_ble_eq_true rfl) (Nat.le_refl _) (v := some (.inl (rdD (-1) σ 45 500 a1))) (σ1 := σ) (lk_X10_at l d LAYC 45 500 rfl σ _) _ rfl ?_
      refine go_ops ok_X7_nodeBehind_27_2 (L' := [some (.inr 43), some (.inl a1), some (.inl a2)]) (st' := [.inl (wrap ((rdD (-1) σ 45 500 a1) + a2)), .inr 46]) (σ1 := σ) rfl ?_
      refine go_SN (M1 := m_X10_at) (as := [.inr 46, .inl (wrap ((rdD (-1) σ 45 500 a1) + a2))]) (st := []) dc_X7_nodeBehind_29 ln_7_61 sm_X10_at mk_X10_at rfl (Nat.le_of_ble_eq_true rfl) (Nat.le_refl _) (v := some (.inl (rdD (-1) σ 46 500 (wrap ((rdD (-1) σ 45 500 a1) + a2))))) (σ1 := σ) (lk_X10_at l d LAYC 46 500 rfl σ _) _ rfl ?_
      refine go_goto dc_X7_nodeBehind_32 (by rfl) ?_
      subst h
      exact go_iret dc_X7_nodeBehind_36 rfl
  have hf := go_ct (as := [.inr 43, .inl a1, .inl a2]) mk_X7_nodeBehind (by rfl) (Nat.le_of_ble_eq_true rfl) key
  exact hf
theorem lk_X7_nodeBehind_49 (l : Launch) (d : Nat) (hd : 2 ≤ d) (a1 : Int) (a2 : Int) (σ : Sg) (q : Int) (h : F_X7_nodeBehind 49 a1 a2 σ = q) : CT l d m_X7_nodeBehind.2.1 m_X7_nodeBehind.2.2.1 m_X7_nodeBehind.2.2.2.1 m_X7_nodeBehind.2.2.2.2 [.inr 49, .inl a1, .inl a2] (LAYC, σ) (some (.inl q)) (LAYC, σ) := by
  obtain ⟨d, rfl⟩ : ∃ e, d = e + 1 := ⟨d - 1, by omega⟩
  have key : Go l m_X7_nodeBehind (d + 1) LAYC (.inl (some (.inl q))) σ 0 [some (.inr 49), some (.inl a1), some (.inl a2)] [] σ := by
    unfold F_X7_nodeBehind at h
    refine go_ops ok_X7_nodeBehind_0_4 (L' := [some (.inr 49), some (.inl a1), some (.inl a2)]) (st' := [.inl a1, .inr 49, .inl 0, .inl a2]) (σ1 := σ) rfl ?_
    refine go_V (M1 := m_X7_widthOf) (as := [.inl a1]) (st := [.inl 0, .inl a2]) (k := 49) (ci := 7) dc_X7_nodeBehind_4 ln_7_78 im_X7_widthOf (by decide) rfl rfl mk_X7_widthOf rfl (Nat.le_of_ble_eq_true rfl) (Nat.le_refl _) (v := (some (.inl (F_X7_widthOf 49 a1 σ)))) (σ1 := σ) (lk_X7_widthOf_49 l d (by omega) a1 σ _ rfl) _ rfl ?_
    refine go_ops ok_X7_nodeBehind_7_2 (L' := [some (.inr 49), some (.inl a1), some (.inl a2)]) (st' := [.inl (wrap ((F_X7_widthOf 49 a1 σ) - 1)), .inl 0, .inl a2]) (σ1 := σ) rfl ?_
    refine go_SN (M1 := m_X10_isIn) (as := [.inl a2, .inl 0, .inl (wrap ((F_X7_widthOf 49 a1 σ) - 1))]) (st := []) dc_X7_nodeBehind_9 ln_7_84 sm_X10_isIn mk_X10_isIn rfl (Nat.le_of_ble_eq_true rfl) (Nat.le_refl _) (v := (some (.inl (b2i (F_X10_isIn a2 0 (wrap ((F_X7_widthOf 49 a1 σ) - 1))))))) (σ1 := σ) (lk_X10_isIn l d (by omega) a2 0 (wrap ((F_X7_widthOf 49 a1 σ) - 1)) σ _ rfl) _ rfl ?_
    refine go_ifb_eq dc_X7_nodeBehind_12 (by rfl) (fun hc => ?_) (fun hc => ?_)
    · replace h := (if_neg hc).symm.trans h
      refine go_ops ok_X7_nodeBehind_35_1 (L' := [some (.inr 49), some (.inl a1), some (.inl a2)]) (st' := [.inl (-1)]) (σ1 := σ) rfl ?_
      subst h
      exact go_iret dc_X7_nodeBehind_36 rfl
    · replace h := (if_pos hc).symm.trans h
      refine go_ops ok_X7_nodeBehind_15_5 (L' := [some (.inr 49), some (.inl a1), some (.inl a2)]) (st' := [.inl a1, .inr 51, .inr 52]) (σ1 := σ) rfl ?_
      refine go_SN (M1 := m_X10_at) (as := [.inr 51, .inl a1]) (st := [.inr 52]) dc_X7_nodeBehind_24 ln_7_61 sm_X10_at mk_X10_at rfl (Nat.le_of_ble_eq_true rfl) (Nat.le_refl _) (v := some (.inl (rdD (-1) σ 51 500 a1))) (σ1 := σ) (lk_X10_at l d LAYC 51 500 rfl σ _) _ rfl ?_
      refine go_ops ok_X7_nodeBehind_27_2 (L' := [some (.inr 49), some (.inl a1), some (.inl a2)]) (st' := [.inl (wrap ((rdD (-1) σ 51 500 a1) + a2)), .inr 52]) (σ1 := σ) rfl ?_
      refine go_SN (M1 := m_X10_at) (as := [.inr 52, .inl (wrap ((rdD (-1) σ 51 500 a1) + a2))]) (st := []) dc_X7_nodeBehind_29 ln_7_61 sm_X10_at mk_X10_at rfl (Nat.le_of_ble_eq_true rfl) (Nat.le_refl _) (v := some (.inl (rdD (-1) σ 52 500 (wrap ((rdD (-1) σ 51 500 a1) + a2))))) (σ1 := σ) (lk_X10_at l d LAYC 52 500 rfl σ _) _ rfl ?_
      refine go_goto dc_X7_nodeBehind_32 (by rfl) ?_
      subst h
      exact go_iret dc_X7_nodeBehind_36 rfl
  have hf := go_ct (as := [.inr 49, .inl a1, .inl a2]) mk_X7_nodeBehind (by rfl) (Nat.le_of_ble_eq_true rfl) key
  exact hf
theorem dc_X7_branchTo_5 : decode m_X7_branchTo.2.2.1 5 = .ok (.invokevirtual 78, 3) := by decide +kernel
theorem dc_X7_branchTo_8 : decode m_X7_branchTo.2.2.1 8 = .ok (.if_icmp .ge 21, 3) := by decide +kernel
theorem dc_X7_branchTo_14 : decode m_X7_branchTo.2.2.1 14 = .ok (.invokevirtual 81, 3) := by decide +kernel
theorem dc_X7_branchTo_18 : decode m_X7_branchTo.2.2.1 18 = .ok (.if_icmp .ne 5, 3) := by decide +kernel
theorem dc_X7_branchTo_22 : decode m_X7_branchTo.2.2.1 22 = .ok (.ireturn, 1) := by decide +kernel
theorem dc_X7_branchTo_26 : decode m_X7_branchTo.2.2.1 26 = .ok (.goto (-24), 3) := by decide +kernel
theorem dc_X7_branchTo_31 : decode m_X7_branchTo.2.2.1 31 = .ok (.ireturn, 1) := by decide +kernel
theorem ok_X7_branchTo_0_2 : oks m_X7_branchTo.1 m_X7_branchTo.2.2.1 0 [(.iconst 0, 1, (0, 0, 0)), (.istore_n 3, 1, (0, 0, 0))] = true ∧ plen 0 [(.iconst 0, 1, (0, 0, 0)), (.istore_n 3, 1, (0, 0, 0))] = 2 := by decide +kernel
theorem ok_X7_branchTo_2_3 : oks m_X7_branchTo.1 m_X7_branchTo.2.2.1 2 [(.iload_n 3, 1, (0, 0, 0)), (.aload_n 0, 1, (0, 0, 0)), (.iload_n 1, 1, (0, 0, 0))] = true ∧ plen 2 [(.iload_n 3, 1, (0, 0, 0)), (.aload_n 0, 1, (0, 0, 0)), (.iload_n 1, 1, (0, 0, 0))] = 5 := by decide +kernel
theorem ok_X7_branchTo_11_3 : oks m_X7_branchTo.1 m_X7_branchTo.2.2.1 11 [(.aload_n 0, 1, (0, 0, 0)), (.iload_n 1, 1, (0, 0, 0)), (.iload_n 3, 1, (0, 0, 0))] = true ∧ plen 11 [(.aload_n 0, 1, (0, 0, 0)), (.iload_n 1, 1, (0, 0, 0)), (.iload_n 3, 1, (0, 0, 0))] = 14 := by decide +kernel
theorem ok_X7_branchTo_17_1 : oks m_X7_branchTo.1 m_X7_branchTo.2.2.1 17 [(.iload_n 2, 1, (0, 0, 0))] = true ∧ plen 17 [(.iload_n 2, 1, (0, 0, 0))] = 18 := by decide +kernel
theorem ok_X7_branchTo_21_1 : oks m_X7_branchTo.1 m_X7_branchTo.2.2.1 21 [(.iload_n 3, 1, (0, 0, 0))] = true ∧ plen 21 [(.iload_n 3, 1, (0, 0, 0))] = 22 := by decide +kernel
theorem ok_X7_branchTo_23_1 : oks m_X7_branchTo.1 m_X7_branchTo.2.2.1 23 [(.iinc 3 1, 3, (0, 0, 0))] = true ∧ plen 23 [(.iinc 3 1, 3, (0, 0, 0))] = 26 := by decide +kernel
theorem ok_X7_branchTo_29_1 : oks m_X7_branchTo.1 m_X7_branchTo.2.2.1 29 [(.bipush (-4), 2, (0, 0, 0))] = true ∧ plen 29 [(.bipush (-4), 2, (0, 0, 0))] = 31 := by decide +kernel
def L_X7_branchTo_2 (t : Nat) (x1 : Int) (x2 : Int) (σ : Sg) (x3 : Int) : Option (Int ⊕ (Unit ⊕ Int)) :=
if (F_X7_widthOf t x1 σ) ≤ x3 then
some (.inr (.inl ()))
else
if (F_X7_nodeBehind t x1 x3 σ) = x2 then
some (.inr (.inr x3))
else
some (.inl (wrap (x3 + 1)))
def F_X7_branchTo (t : Nat) (a1 : Int) (a2 : Int) (σ : Sg) : Option Int :=
(iter (fun a : Int => L_X7_branchTo_2 t a1 a2 σ a) 3000 0).bind fun y1 => Sum.elim (fun z3 =>
some (-4)) (fun r4 => some r4) y1
theorem lk_X7_branchTo_43 (l : Launch) (d : Nat) (hd : 3 ≤ d) (a1 : Int) (a2 : Int) (σ : Sg) (q : Int) (h : F_X7_branchTo 43 a1 a2 σ = some q) : CT l d m_X7_branchTo.2.1 m_X7_branchTo.2.2.1 m_X7_branchTo.2.2.2.1 m_X7_branchTo.2.2.2.2 [.inr 43, .inl a1, .inl a2] (LAYC, σ) (some (.inl q)) (LAYC, σ) := by
  obtain ⟨d, rfl⟩ : ∃ e, d = e + 1 := ⟨d - 1, by omega⟩
  have key : Go l m_X7_branchTo (d + 1) LAYC (.inl (some (.inl q))) σ 0 [some (.inr 43), some (.inl a1), some (.inl a2), none] [] σ := by
    unfold F_X7_branchTo at h
    have hL_X7_branchTo_2 : ∀ (x1 : Int) (x2 : Int) (σ : Sg) (n : Nat) (a : Int) (y : (Unit ⊕ Int)), iter (fun a : Int => L_X7_branchTo_2 43 x1 x2 σ a) n a = some y → (Sum.elim (fun y : Unit => Go l m_X7_branchTo (d + 1) LAYC (.inl (some (.inl q))) σ 29 [none, none, none, none] [] σ) (fun r : Int => r = q)) y → (fun a : Int => Go l m_X7_branchTo (d + 1) LAYC (.inl (some (.inl q))) σ 2 [some (.inr 43), some (.inl x1), some (.inl x2), some (.inl a)] [] σ) a := by
      intro x1 x2 σ
      refine go_iter (G := fun a : Int => Go l m_X7_branchTo (d + 1) LAYC (.inl (some (.inl q))) σ 2 [some (.inr 43), some (.inl x1), some (.inl x2), some (.inl a)] [] σ) (K := Sum.elim (fun y : Unit => Go l m_X7_branchTo (d + 1) LAYC (.inl (some (.inl q))) σ 29 [none, none, none, none] [] σ) (fun r : Int => r = q)) ?_
      rintro x3 w h hK
      replace h : L_X7_branchTo_2 43 x1 x2 σ x3 = some w := h
      show Go l m_X7_branchTo (d + 1) LAYC (.inl (some (.inl q))) σ 2 [some (.inr 43), some (.inl x1), some (.inl x2), some (.inl x3)] [] σ
      unfold L_X7_branchTo_2 at h
      refine go_ops ok_X7_branchTo_2_3 (L' := [some (.inr 43), some (.inl x1), some (.inl x2), some (.inl x3)]) (st' := [.inl x1, .inr 43, .inl x3]) (σ1 := σ) rfl ?_
      refine go_V (M1 := m_X7_widthOf) (as := [.inl x1]) (st := [.inl x3]) (k := 43) (ci := 7) dc_X7_branchTo_5 ln_7_78 im_X7_widthOf (by decide) rfl rfl mk_X7_widthOf rfl (Nat.le_of_ble_eq_true rfl) (Nat.le_refl _) (v := (some (.inl (F_X7_widthOf 43 x1 σ)))) (σ1 := σ) (lk_X7_widthOf_43 l d (by omega) x1 σ _ rfl) _ rfl ?_
      refine go_icmp_ge dc_X7_branchTo_8 (by rfl) (fun hc => ?_) (fun hc => ?_)
      · replace h := (if_pos hc).symm.trans h
        cases h
        refine go_wk (L' := [none, none, none, none]) trivial ?_
        exact hK
      · replace h := (if_neg hc).symm.trans h
        refine go_ops ok_X7_branchTo_11_3 (L' := [some (.inr 43), some (.inl x1), some (.inl x2), some (.inl x3)]) (st' := [.inl x3, .inl x1, .inr 43]) (σ1 := σ) rfl ?_
        refine go_V (M1 := m_X7_nodeBehind) (as := [.inl x1, .inl x3]) (st := []) (k := 43) (ci := 7) dc_X7_branchTo_14 ln_7_81 im_X7_nodeBehind (by decide) rfl rfl mk_X7_nodeBehind rfl (Nat.le_of_ble_eq_true rfl) (Nat.le_refl _) (v := (some (.inl (F_X7_nodeBehind 43 x1 x3 σ)))) (σ1 := σ) (lk_X7_nodeBehind_43 l d (by omega) x1 x3 σ _ rfl) _ rfl ?_
        refine go_ops ok_X7_branchTo_17_1 (L' := [some (.inr 43), some (.inl x1), some (.inl x2), some (.inl x3)]) (st' := [.inl x2, .inl (F_X7_nodeBehind 43 x1 x3 σ)]) (σ1 := σ) rfl ?_
        refine go_icmp_ne dc_X7_branchTo_18 (by rfl) (fun hc => ?_) (fun hc => ?_)
        · replace h := (if_neg hc).symm.trans h
          refine go_ops ok_X7_branchTo_23_1 (L' := [some (.inr 43), some (.inl x1), some (.inl x2), some (.inl (wrap (x3 + 1)))]) (st' := []) (σ1 := σ) rfl ?_
          refine go_goto dc_X7_branchTo_26 (by rfl) ?_
          cases h
          exact hK
        · replace h := (if_pos hc).symm.trans h
          refine go_ops ok_X7_branchTo_21_1 (L' := [some (.inr 43), some (.inl x1), some (.inl x2), some (.inl x3)]) (st' := [.inl x3]) (σ1 := σ) rfl ?_
          cases h
          have hK2 : _ = q := hK
          subst hK2
          exact go_iret dc_X7_branchTo_22 rfl
    refine go_ops ok_X7_branchTo_0_2 (L' := [some (.inr 43), some (.inl a1), some (.inl a2), some (.inl 0)]) (st' := []) (σ1 := σ) rfl ?_
    obtain ⟨y1, e2, h⟩ := bind_inv h
    refine hL_X7_branchTo_2 a1 a2 σ 3000 0 y1 e2 ?_
    rcases y1 with z3 | r4
    rotate_left
    · show r4 = q
      cases h; rfl
    show Go l m_X7_branchTo (d + 1) LAYC (.inl (some (.inl q))) σ 29 [none, none, none, none] [] σ
    rw [Sum.elim_inl] at h
    refine go_ops ok_X7_branchTo_29_1 (L' := [none, none, none, none]) (st' := [.inl (-4)]) (σ1 := σ) rfl ?_
    have h9 := Option.some.inj h
    subst h9
    exact go_iret dc_X7_branchTo_31 rfl
  have hf := go_ct (as := [.inr 43, .inl a1, .inl a2]) mk_X7_branchTo (by rfl) (Nat.le_of_ble_eq_true rfl) key
  exact hf
theorem lk_X7_branchTo_49 (l : Launch) (d : Nat) (hd : 3 ≤ d) (a1 : Int) (a2 : Int) (σ : Sg) (q : Int) (h : F_X7_branchTo 49 a1 a2 σ = some q) : CT l d m_X7_branchTo.2.1 m_X7_branchTo.2.2.1 m_X7_branchTo.2.2.2.1 m_X7_branchTo.2.2.2.2 [.inr 49, .inl a1, .inl a2] (LAYC, σ) (some (.inl q)) (LAYC, σ) := by
  obtain ⟨d, rfl⟩ : ∃ e, d = e + 1 := ⟨d - 1, by omega⟩
  have key : Go l m_X7_branchTo (d + 1) LAYC (.inl (some (.inl q))) σ 0 [some (.inr 49), some (.inl a1), some (.inl a2), none] [] σ := by
    unfold F_X7_branchTo at h
    have hL_X7_branchTo_2 : ∀ (x1 : Int) (x2 : Int) (σ : Sg) (n : Nat) (a : Int) (y : (Unit ⊕ Int)), iter (fun a : Int => L_X7_branchTo_2 49 x1 x2 σ a) n a = some y → (Sum.elim (fun y : Unit => Go l m_X7_branchTo (d + 1) LAYC (.inl (some (.inl q))) σ 29 [none, none, none, none] [] σ) (fun r : Int => r = q)) y → (fun a : Int => Go l m_X7_branchTo (d + 1) LAYC (.inl (some (.inl q))) σ 2 [some (.inr 49), some (.inl x1), some (.inl x2), some (.inl a)] [] σ) a := by
      intro x1 x2 σ
      refine go_iter (G := fun a : Int => Go l m_X7_branchTo (d + 1) LAYC (.inl (some (.inl q))) σ 2 [some (.inr 49), some (.inl x1), some (.inl x2), some (.inl a)] [] σ) (K := Sum.elim (fun y : Unit => Go l m_X7_branchTo (d + 1) LAYC (.inl (some (.inl q))) σ 29 [none, none, none, none] [] σ) (fun r : Int => r = q)) ?_
      rintro x3 w h hK
      replace h : L_X7_branchTo_2 49 x1 x2 σ x3 = some w := h
      show Go l m_X7_branchTo (d + 1) LAYC (.inl (some (.inl q))) σ 2 [some (.inr 49), some (.inl x1), some (.inl x2), some (.inl x3)] [] σ
      unfold L_X7_branchTo_2 at h
      refine go_ops ok_X7_branchTo_2_3 (L' := [some (.inr 49), some (.inl x1), some (.inl x2), some (.inl x3)]) (st' := [.inl x1, .inr 49, .inl x3]) (σ1 := σ) rfl ?_
      refine go_V (M1 := m_X7_widthOf) (as := [.inl x1]) (st := [.inl x3]) (k := 49) (ci := 7) dc_X7_branchTo_5 ln_7_78 im_X7_widthOf (by decide) rfl rfl mk_X7_widthOf rfl (Nat.le_of_ble_eq_true rfl) (Nat.le_refl _) (v := (some (.inl (F_X7_widthOf 49 x1 σ)))) (σ1 := σ) (lk_X7_widthOf_49 l d (by omega) x1 σ _ rfl) _ rfl ?_
      refine go_icmp_ge dc_X7_branchTo_8 (by rfl) (fun hc => ?_) (fun hc => ?_)
      · replace h := (if_pos hc).symm.trans h
        cases h
        refine go_wk (L' := [none, none, none, none]) trivial ?_
        exact hK
      · replace h := (if_neg hc).symm.trans h
        refine go_ops ok_X7_branchTo_11_3 (L' := [some (.inr 49), some (.inl x1), some (.inl x2), some (.inl x3)]) (st' := [.inl x3, .inl x1, .inr 49]) (σ1 := σ) rfl ?_
        refine go_V (M1 := m_X7_nodeBehind) (as := [.inl x1, .inl x3]) (st := []) (k := 49) (ci := 7) dc_X7_branchTo_14 ln_7_81 im_X7_nodeBehind (by decide) rfl rfl mk_X7_nodeBehind rfl (Nat.le_of_ble_eq_true rfl) (Nat.le_refl _) (v := (some (.inl (F_X7_nodeBehind 49 x1 x3 σ)))) (σ1 := σ) (lk_X7_nodeBehind_49 l d (by omega) x1 x3 σ _ rfl) _ rfl ?_
        refine go_ops ok_X7_branchTo_17_1 (L' := [some (.inr 49), some (.inl x1), some (.inl x2), some (.inl x3)]) (st' := [.inl x2, .inl (F_X7_nodeBehind 49 x1 x3 σ)]) (σ1 := σ) rfl ?_
        refine go_icmp_ne dc_X7_branchTo_18 (by rfl) (fun hc => ?_) (fun hc => ?_)
        · replace h := (if_neg hc).symm.trans h
          refine go_ops ok_X7_branchTo_23_1 (L' := [some (.inr 49), some (.inl x1), some (.inl x2), some (.inl (wrap (x3 + 1)))]) (st' := []) (σ1 := σ) rfl ?_
          refine go_goto dc_X7_branchTo_26 (by rfl) ?_
          cases h
          exact hK
        · replace h := (if_pos hc).symm.trans h
          refine go_ops ok_X7_branchTo_21_1 (L' := [some (.inr 49), some (.inl x1), some (.inl x2), some (.inl x3)]) (st' := [.inl x3]) (σ1 := σ) rfl ?_
          cases h
          have hK2 : _ = q := hK
          subst hK2
          exact go_iret dc_X7_branchTo_22 rfl
    refine go_ops ok_X7_branchTo_0_2 (L' := [some (.inr 49), some (.inl a1), some (.inl a2), some (.inl 0)]) (st' := []) (σ1 := σ) rfl ?_
    obtain ⟨y1, e2, h⟩ := bind_inv h
    refine hL_X7_branchTo_2 a1 a2 σ 3000 0 y1 e2 ?_
    rcases y1 with z3 | r4
    rotate_left
    · show r4 = q
      cases h; rfl
    show Go l m_X7_branchTo (d + 1) LAYC (.inl (some (.inl q))) σ 29 [none, none, none, none] [] σ
    rw [Sum.elim_inl] at h
    refine go_ops ok_X7_branchTo_29_1 (L' := [none, none, none, none]) (st' := [.inl (-4)]) (σ1 := σ) rfl ?_
    have h9 := Option.some.inj h
    subst h9
    exact go_iret dc_X7_branchTo_31 rfl
  have hf := go_ct (as := [.inr 49, .inl a1, .inl a2]) mk_X7_branchTo (by rfl) (Nat.le_of_ble_eq_true rfl) key
  exact hf
theorem dc_X7_exampleAt_11 : decode m_X7_exampleAt.2.2.1 11 = .ok (.if_icmp .ge 54, 3) := by decide +kernel
theorem dc_X7_exampleAt_15 : decode m_X7_exampleAt.2.2.1 15 = .ok (.ifCond .le 50, 3) := by decide +kernel
theorem dc_X7_exampleAt_23 : decode m_X7_exampleAt.2.2.1 23 = .ok (.invokestatic 61, 3) := by decide +kernel
theorem dc_X7_exampleAt_31 : decode m_X7_exampleAt.2.2.1 31 = .ok (.invokevirtual 65, 3) := by decide +kernel
theorem dc_X7_exampleAt_35 : decode m_X7_exampleAt.2.2.1 35 = .ok (.if_icmp .ne 21, 3) := by decide +kernel
theorem dc_X7_exampleAt_41 : decode m_X7_exampleAt.2.2.1 41 = .ok (.invokevirtual 71, 3) := by decide +kernel
theorem dc_X7_exampleAt_45 : decode m_X7_exampleAt.2.2.1 45 = .ok (.if_icmp .ne 11, 3) := by decide +kernel
theorem dc_X7_exampleAt_52 : decode m_X7_exampleAt.2.2.1 52 = .ok (.invokevirtual 74, 3) := by decide +kernel
theorem dc_X7_exampleAt_55 : decode m_X7_exampleAt.2.2.1 55 = .ok (.ireturn, 1) := by decide +kernel
theorem dc_X7_exampleAt_62 : decode m_X7_exampleAt.2.2.1 62 = .ok (.goto (-55), 3) := by decide +kernel
theorem dc_X7_exampleAt_67 : decode m_X7_exampleAt.2.2.1 67 = .ok (.ireturn, 1) := by decide +kernel
theorem ok_X7_exampleAt_0_5 : oks m_X7_exampleAt.1 m_X7_exampleAt.2.2.1 0 [(.aload_n 0, 1, (0, 0, 0)), (.getfield 28, 3, (7, 8, 0)), (.istore_n 2, 1, (0, 0, 0)), (.iconst 0, 1, (0, 0, 0)), (.istore_n 3, 1, (0, 0, 0))] = true ∧ plen 0 [(.aload_n 0, 1, (0, 0, 0)), (.getfield 28, 3, (7, 8, 0)), (.istore_n 2, 1, (0, 0, 0)), (.iconst 0, 1, (0, 0, 0)), (.istore_n 3, 1, (0, 0, 0))] = 7 := by decide +kernel
theorem ok_X7_exampleAt_7_2 : oks m_X7_exampleAt.1 m_X7_exampleAt.2.2.1 7 [(.iload_n 3, 1, (0, 0, 0)), (.sipush 500, 3, (0, 0, 0))] = true ∧ plen 7 [(.iload_n 3, 1, (0, 0, 0)), (.sipush 500, 3, (0, 0, 0))] = 11 := by decide +kernel
theorem ok_X7_exampleAt_14_1 : oks m_X7_exampleAt.1 m_X7_exampleAt.2.2.1 14 [(.iload_n 2, 1, (0, 0, 0))] = true ∧ plen 14 [(.iload_n 2, 1, (0, 0, 0))] = 15 := by decide +kernel
theorem ok_X7_exampleAt_18_3 : oks m_X7_exampleAt.1 m_X7_exampleAt.2.2.1 18 [(.aload_n 0, 1, (0, 0, 0)), (.getfield 44, 3, (7, 13, 0)), (.iload_n 2, 1, (0, 0, 0))] = true ∧ plen 18 [(.aload_n 0, 1, (0, 0, 0)), (.getfield 44, 3, (7, 13, 0)), (.iload_n 2, 1, (0, 0, 0))] = 23 := by decide +kernel
theorem ok_X7_exampleAt_26_3 : oks m_X7_exampleAt.1 m_X7_exampleAt.2.2.1 26 [(.istore 4, 2, (0, 0, 0)), (.aload_n 0, 1, (0, 0, 0)), (.iload 4, 2, (0, 0, 0))] = true ∧ plen 26 [(.istore 4, 2, (0, 0, 0)), (.aload_n 0, 1, (0, 0, 0)), (.iload 4, 2, (0, 0, 0))] = 31 := by decide +kernel
theorem ok_X7_exampleAt_34_1 : oks m_X7_exampleAt.1 m_X7_exampleAt.2.2.1 34 [(.iconst 3, 1, (0, 0, 0))] = true ∧ plen 34 [(.iconst 3, 1, (0, 0, 0))] = 35 := by decide +kernel
theorem ok_X7_exampleAt_38_2 : oks m_X7_exampleAt.1 m_X7_exampleAt.2.2.1 38 [(.aload_n 0, 1, (0, 0, 0)), (.iload 4, 2, (0, 0, 0))] = true ∧ plen 38 [(.aload_n 0, 1, (0, 0, 0)), (.iload 4, 2, (0, 0, 0))] = 41 := by decide +kernel
theorem ok_X7_exampleAt_44_1 : oks m_X7_exampleAt.1 m_X7_exampleAt.2.2.1 44 [(.iload_n 1, 1, (0, 0, 0))] = true ∧ plen 44 [(.iload_n 1, 1, (0, 0, 0))] = 45 := by decide +kernel
theorem ok_X7_exampleAt_48_3 : oks m_X7_exampleAt.1 m_X7_exampleAt.2.2.1 48 [(.aload_n 0, 1, (0, 0, 0)), (.iload 4, 2, (0, 0, 0)), (.iload_n 2, 1, (0, 0, 0))] = true ∧ plen 48 [(.aload_n 0, 1, (0, 0, 0)), (.iload 4, 2, (0, 0, 0)), (.iload_n 2, 1, (0, 0, 0))] = 52 := by decide +kernel
theorem ok_X7_exampleAt_56_3 : oks m_X7_exampleAt.1 m_X7_exampleAt.2.2.1 56 [(.iload 4, 2, (0, 0, 0)), (.istore_n 2, 1, (0, 0, 0)), (.iinc 3 1, 3, (0, 0, 0))] = true ∧ plen 56 [(.iload 4, 2, (0, 0, 0)), (.istore_n 2, 1, (0, 0, 0)), (.iinc 3 1, 3, (0, 0, 0))] = 62 := by decide +kernel
theorem ok_X7_exampleAt_65_1 : oks m_X7_exampleAt.1 m_X7_exampleAt.2.2.1 65 [(.bipush (-4), 2, (0, 0, 0))] = true ∧ plen 65 [(.bipush (-4), 2, (0, 0, 0))] = 67 := by decide +kernel
def B_X7_exampleAt_56 (t : Nat) (x3 : Int) (x4 : Int) (σ : Sg) : Option ((Int × Int) ⊕ (Unit ⊕ Int)) :=
some (.inl (x4, wrap (x3 + 1)))
def L_X7_exampleAt_7 (t : Nat) (x1 : Int) (σ : Sg) (x2 : Int) (x3 : Int) : Option ((Int × Int) ⊕ (Unit ⊕ Int)) :=
if 500 ≤ x3 then
some (.inr (.inl ()))
else
if x2 ≤ 0 then
some (.inr (.inl ()))
else
bnd (rdD (-1) σ (t + 4) 500 x2) fun v3 =>
if (F_X7_sortOf t v3 σ) = 3 then
if (F_X7_whatOf t v3 σ) = x1 then
(F_X7_branchTo t v3 x2 σ).bind fun q5 =>
some (.inr (.inr q5))
else
B_X7_exampleAt_56 t x3 v3 σ
else
B_X7_exampleAt_56 t x3 v3 σ
def F_X7_exampleAt (t : Nat) (a1 : Int) (σ : Sg) : Option Int :=
bnd (σ t 8) fun v1 =>
(iter (fun a : (Int × Int) => L_X7_exampleAt_7 t a1 σ a.1 a.2) 501 (v1, 0)).bind fun y7 => Sum.elim (fun z9 =>
some (-4)) (fun r10 => some r10) y7
theorem lk_X7_exampleAt_43 (l : Launch) (d : Nat) (hd : 4 ≤ d) (a1 : Int) (σ : Sg) (q : Int) (h : F_X7_exampleAt 43 a1 σ = some q) : CT l d m_X7_exampleAt.2.1 m_X7_exampleAt.2.2.1 m_X7_exampleAt.2.2.2.1 m_X7_exampleAt.2.2.2.2 [.inr 43, .inl a1] (LAYC, σ) (some (.inl q)) (LAYC, σ) := by
  obtain ⟨d, rfl⟩ : ∃ e, d = e + 1 := ⟨d - 1, by omega⟩
  have key : Go l m_X7_exampleAt (d + 1) LAYC (.inl (some (.inl q))) σ 0 [some (.inr 43), some (.inl a1), none, none, none] [] σ := by
    unfold F_X7_exampleAt at h
    have hL_X7_exampleAt_7 : ∀ (x1 : Int) (σ : Sg) (n : Nat) (a : (Int × Int)) (y : (Unit ⊕ Int)), iter (fun a : (Int × Int) => L_X7_exampleAt_7 43 x1 σ a.1 a.2) n a = some y → (Sum.elim (fun y : Unit => Go l m_X7_exampleAt (d + 1) LAYC (.inl (some (.inl q))) σ 65 [none, none, none, none, none] [] σ) (fun r : Int => r = q)) y → (fun a : (Int × Int) => Go l m_X7_exampleAt (d + 1) LAYC (.inl (some (.inl q))) σ 7 [some (.inr 43), some (.inl x1), some (.inl a.1), some (.inl a.2), none] [] σ) a := by
      intro x1 σ
      refine go_iter (G := fun a : (Int × Int) => Go l m_X7_exampleAt (d + 1) LAYC (.inl (some (.inl q))) σ 7 [some (.inr 43), some (.inl x1), some (.inl a.1), some (.inl a.2), none] [] σ) (K := Sum.elim (fun y : Unit => Go l m_X7_exampleAt (d + 1) LAYC (.inl (some (.inl q))) σ 65 [none, none, none, none, none] [] σ) (fun r : Int => r = q)) ?_
      rintro ⟨x2, x3⟩ w h hK
      replace h : L_X7_exampleAt_7 43 x1 σ x2 x3 = some w := h
      show Go l m_X7_exampleAt (d + 1) LAYC (.inl (some (.inl q))) σ 7 [some (.inr 43), some (.inl x1), some (.inl x2), some (.inl x3), none] [] σ
      unfold L_X7_exampleAt_7 at h
      have hB_X7_exampleAt_56 : ∀ (x3 : Int) (x4 : Int), B_X7_exampleAt_56 43 x3 x4 σ = some w → Go l m_X7_exampleAt (d + 1) LAYC (.inl (some (.inl q))) σ 56 [some (.inr 43), some (.inl x1), none, some (.inl x3), some (.inl x4)] [] σ := by
        intro x3 x4 h
        unfold B_X7_exampleAt_56 at h
        refine go_ops ok_X7_exampleAt_56_3 (L' := [some (.inr 43), some (.inl x1), some (.inl x4), some (.inl (wrap (x3 + 1))), some (.inl x4)]) (st' := []) (σ1 := σ) rfl ?_
        refine go_goto dc_X7_exampleAt_62 (by rfl) ?_
        cases h
        refine go_wk (L' := [some (.inr 43), some (.inl x1), some (.inl x4), some (.inl (wrap (x3 + 1))), none]) ⟨rfl, rfl, rfl, rfl, trivial⟩ ?_
        exact hK
      refine go_ops ok_X7_exampleAt_7_2 (L' := [some (.inr 43), some (.inl x1), some (.inl x2), some (.inl x3), none]) (st' := [.inl 500, .inl x3]) (σ1 := σ) rfl ?_
      refine go_icmp_ge dc_X7_exampleAt_11 (by rfl) (fun hc => ?_) (fun hc => ?_)
      · replace h := (if_pos hc).symm.trans h
        cases h
        refine go_wk (L' := [none, none, none, none, none]) trivial ?_
        exact hK
      · replace h := (if_neg hc).symm.trans h
        refine go_ops ok_X7_exampleAt_14_1 (L' := [some (.inr 43), some (.inl x1), some (.inl x2), some (.inl x3), none]) (st' := [.inl x2]) (σ1 := σ) rfl ?_
        refine go_if_le dc_X7_exampleAt_15 (by rfl) (fun hc => ?_) (fun hc => ?_)
        · replace h := (if_pos hc).symm.trans h
          cases h
          refine go_wk (L' := [none, none, none, none, none]) trivial ?_
          exact hK
        · replace h := (if_neg hc).symm.trans h
          refine go_ops ok_X7_exampleAt_18_3 (L' := [some (.inr 43), some (.inl x1), some (.inl x2), some (.inl x3), none]) (st' := [.inl x2, .inr 47]) (σ1 := σ) rfl ?_
          refine go_SN (M1 := m_X10_at) (as := [.inr 47, .inl x2]) (st := []) dc_X7_exampleAt_23 ln_7_61 sm_X10_at mk_X10_at rfl (Nat.le_of_ble_eq_true rfl) (Nat.le_refl _) (v := some (.inl (rdD (-1) σ 47 500 x2))) (σ1 := σ) (lk_X10_at l d LAYC 47 500 rfl σ _) _ rfl ?_
          obtain ⟨v3, e4, h⟩ := bnd_inv h
          refine go_ops ok_X7_exampleAt_26_3 (L' := [some (.inr 43), some (.inl x1), some (.inl x2), some (.inl x3), some (.inl v3)]) (st' := [.inl v3, .inr 43]) (σ1 := σ) (by subst e4; rfl) ?_
          refine go_V (M1 := m_X7_sortOf) (as := [.inl v3]) (st := []) (k := 43) (ci := 7) dc_X7_exampleAt_31 ln_7_65 im_X7_sortOf (by decide) rfl rfl mk_X7_sortOf rfl (Nat.le_of_ble_eq_true rfl) (Nat.le_refl _) (v := (some (.inl (F_X7_sortOf 43 v3 σ)))) (σ1 := σ) (lk_X7_sortOf_43 l d (by omega) v3 σ _ rfl) _ rfl ?_
          refine go_ops ok_X7_exampleAt_34_1 (L' := [some (.inr 43), some (.inl x1), some (.inl x2), some (.inl x3), some (.inl v3)]) (st' := [.inl 3, .inl (F_X7_sortOf 43 v3 σ)]) (σ1 := σ) rfl ?_
          refine go_icmp_ne dc_X7_exampleAt_35 (by rfl) (fun hc => ?_) (fun hc => ?_)
          · replace h := (if_neg hc).symm.trans h
            refine go_wk (L' := [some (.inr 43), some (.inl x1), none, some (.inl x3), some (.inl v3)]) ⟨rfl, rfl, rfl, rfl, trivial⟩ ?_
            exact hB_X7_exampleAt_56 x3 v3 h
          · replace h := (if_pos hc).symm.trans h
            refine go_ops ok_X7_exampleAt_38_2 (L' := [some (.inr 43), some (.inl x1), some (.inl x2), some (.inl x3), some (.inl v3)]) (st' := [.inl v3, .inr 43]) (σ1 := σ) rfl ?_
            refine go_V (M1 := m_X7_whatOf) (as := [.inl v3]) (st := []) (k := 43) (ci := 7) dc_X7_exampleAt_41 ln_7_71 im_X7_whatOf (by decide) rfl rfl mk_X7_whatOf rfl (Nat.le_of_ble_eq_true rfl) (Nat.le_refl _) (v := (some (.inl (F_X7_whatOf 43 v3 σ)))) (σ1 := σ) (lk_X7_whatOf_43 l d (by omega) v3 σ _ rfl) _ rfl ?_
            refine go_ops ok_X7_exampleAt_44_1 (L' := [some (.inr 43), some (.inl x1), some (.inl x2), some (.inl x3), some (.inl v3)]) (st' := [.inl x1, .inl (F_X7_whatOf 43 v3 σ)]) (σ1 := σ) rfl ?_
            refine go_icmp_ne dc_X7_exampleAt_45 (by rfl) (fun hc => ?_) (fun hc => ?_)
            · replace h := (if_neg hc).symm.trans h
              refine go_wk (L' := [some (.inr 43), some (.inl x1), none, some (.inl x3), some (.inl v3)]) ⟨rfl, rfl, rfl, rfl, trivial⟩ ?_
              exact hB_X7_exampleAt_56 x3 v3 h
            · replace h := (if_pos hc).symm.trans h
              refine go_ops ok_X7_exampleAt_48_3 (L' := [some (.inr 43), some (.inl x1), some (.inl x2), some (.inl x3), some (.inl v3)]) (st' := [.inl x2, .inl v3, .inr 43]) (σ1 := σ) rfl ?_
              obtain ⟨q5, e6, h⟩ := bind_inv h
              refine go_V (M1 := m_X7_branchTo) (as := [.inl v3, .inl x2]) (st := []) (k := 43) (ci := 7) dc_X7_exampleAt_52 ln_7_74 im_X7_branchTo (by decide) rfl rfl mk_X7_branchTo rfl (Nat.le_of_ble_eq_true rfl) (Nat.le_refl _) (v := (some (.inl q5))) (σ1 := σ) (lk_X7_branchTo_43 l d (by omega) v3 x2 σ q5 e6) _ rfl ?_
              cases h
              have hK2 : _ = q := hK
              subst hK2
              exact go_iret dc_X7_exampleAt_55 rfl
    obtain ⟨v1, e2, h⟩ := bnd_inv h
    refine go_ops ok_X7_exampleAt_0_5 (L' := [some (.inr 43), some (.inl a1), some (.inl v1), some (.inl 0), none]) (st' := []) (σ1 := σ) (by subst e2; rfl) ?_
    obtain ⟨y7, e8, h⟩ := bind_inv h
    refine hL_X7_exampleAt_7 a1 σ 501 (v1, 0) y7 e8 ?_
    rcases y7 with z9 | r10
    rotate_left
    · show r10 = q
      cases h; rfl
    show Go l m_X7_exampleAt (d + 1) LAYC (.inl (some (.inl q))) σ 65 [none, none, none, none, none] [] σ
    rw [Sum.elim_inl] at h
    refine go_ops ok_X7_exampleAt_65_1 (L' := [none, none, none, none, none]) (st' := [.inl (-4)]) (σ1 := σ) rfl ?_
    have h9 := Option.some.inj h
    subst h9
    exact go_iret dc_X7_exampleAt_67 rfl
  have hf := go_ct (as := [.inr 43, .inl a1]) mk_X7_exampleAt (by rfl) (Nat.le_of_ble_eq_true rfl) key
  exact hf
theorem lk_X7_exampleAt_49 (l : Launch) (d : Nat) (hd : 4 ≤ d) (a1 : Int) (σ : Sg) (q : Int) (h : F_X7_exampleAt 49 a1 σ = some q) : CT l d m_X7_exampleAt.2.1 m_X7_exampleAt.2.2.1 m_X7_exampleAt.2.2.2.1 m_X7_exampleAt.2.2.2.2 [.inr 49, .inl a1] (LAYC, σ) (some (.inl q)) (LAYC, σ) := by
  obtain ⟨d, rfl⟩ : ∃ e, d = e + 1 := ⟨d - 1, by omega⟩
  have key : Go l m_X7_exampleAt (d + 1) LAYC (.inl (some (.inl q))) σ 0 [some (.inr 49), some (.inl a1), none, none, none] [] σ := by
    unfold F_X7_exampleAt at h
    have hL_X7_exampleAt_7 : ∀ (x1 : Int) (σ : Sg) (n : Nat) (a : (Int × Int)) (y : (Unit ⊕ Int)), iter (fun a : (Int × Int) => L_X7_exampleAt_7 49 x1 σ a.1 a.2) n a = some y → (Sum.elim (fun y : Unit => Go l m_X7_exampleAt (d + 1) LAYC (.inl (some (.inl q))) σ 65 [none, none, none, none, none] [] σ) (fun r : Int => r = q)) y → (fun a : (Int × Int) => Go l m_X7_exampleAt (d + 1) LAYC (.inl (some (.inl q))) σ 7 [some (.inr 49), some (.inl x1), some (.inl a.1), some (.inl a.2), none] [] σ) a := by
      intro x1 σ
      refine go_iter (G := fun a : (Int × Int) => Go l m_X7_exampleAt (d + 1) LAYC (.inl (some (.inl q))) σ 7 [some (.inr 49), some (.inl x1), some (.inl a.1), some (.inl a.2), none] [] σ) (K := Sum.elim (fun y : Unit => Go l m_X7_exampleAt (d + 1) LAYC (.inl (some (.inl q))) σ 65 [none, none, none, none, none] [] σ) (fun r : Int => r = q)) ?_
      rintro ⟨x2, x3⟩ w h hK
      replace h : L_X7_exampleAt_7 49 x1 σ x2 x3 = some w := h
      show Go l m_X7_exampleAt (d + 1) LAYC (.inl (some (.inl q))) σ 7 [some (.inr 49), some (.inl x1), some (.inl x2), some (.inl x3), none] [] σ
      unfold L_X7_exampleAt_7 at h
      have hB_X7_exampleAt_56 : ∀ (x3 : Int) (x4 : Int), B_X7_exampleAt_56 49 x3 x4 σ = some w → Go l m_X7_exampleAt (d + 1) LAYC (.inl (some (.inl q))) σ 56 [some (.inr 49), some (.inl x1), none, some (.inl x3), some (.inl x4)] [] σ := by
        intro x3 x4 h
        unfold B_X7_exampleAt_56 at h
        refine go_ops ok_X7_exampleAt_56_3 (L' := [some (.inr 49), some (.inl x1), some (.inl x4), some (.inl (wrap (x3 + 1))), some (.inl x4)]) (st' := []) (σ1 := σ) rfl ?_
        refine go_goto dc_X7_exampleAt_62 (by rfl) ?_
        cases h
        refine go_wk (L' := [some (.inr 49), some (.inl x1), some (.inl x4), some (.inl (wrap (x3 + 1))), none]) ⟨rfl, rfl, rfl, rfl, trivial⟩ ?_
        exact hK
      refine go_ops ok_X7_exampleAt_7_2 (L' := [some (.inr 49), some (.inl x1), some (.inl x2), some (.inl x3), none]) (st' := [.inl 500, .inl x3]) (σ1 := σ) rfl ?_
      refine go_icmp_ge dc_X7_exampleAt_11 (by rfl) (fun hc => ?_) (fun hc => ?_)
      · replace h := (if_pos hc).symm.trans h
        cases h
        refine go_wk (L' := [none, none, none, none, none]) trivial ?_
        exact hK
      · replace h := (if_neg hc).symm.trans h
        refine go_ops ok_X7_exampleAt_14_1 (L' := [some (.inr 49), some (.inl x1), some (.inl x2), some (.inl x3), none]) (st' := [.inl x2]) (σ1 := σ) rfl ?_
        refine go_if_le dc_X7_exampleAt_15 (by rfl) (fun hc => ?_) (fun hc => ?_)
        · replace h := (if_pos hc).symm.trans h
          cases h
          refine go_wk (L' := [none, none, none, none, none]) trivial ?_
          exact hK
        · replace h := (if_neg hc).symm.trans h
          refine go_ops ok_X7_exampleAt_18_3 (L' := [some (.inr 49), some (.inl x1), some (.inl x2), some (.inl x3), none]) (st' := [.inl x2, .inr 53]) (σ1 := σ) rfl ?_
          refine go_SN (M1 := m_X10_at) (as := [.inr 53, .inl x2]) (st := []) dc_X7_exampleAt_23 ln_7_61 sm_X10_at mk_X10_at rfl (Nat.le_of_ble_eq_true rfl) (Nat.le_refl _) (v := some (.inl (rdD (-1) σ 53 500 x2))) (σ1 := σ) (lk_X10_at l d LAYC 53 500 rfl σ _) _ rfl ?_
          obtain ⟨v3, e4, h⟩ := bnd_inv h
          refine go_ops ok_X7_exampleAt_26_3 (L' := [some (.inr 49), some (.inl x1), some (.inl x2), some (.inl x3), some (.inl v3)]) (st' := [.inl v3, .inr 49]) (σ1 := σ) (by subst e4; rfl) ?_
          refine go_V (M1 := m_X7_sortOf) (as := [.inl v3]) (st := []) (k := 49) (ci := 7) dc_X7_exampleAt_31 ln_7_65 im_X7_sortOf (by decide) rfl rfl mk_X7_sortOf rfl (Nat.le_of_ble_eq_true rfl) (Nat.le_refl _) (v := (some (.inl (F_X7_sortOf 49 v3 σ)))) (σ1 := σ) (lk_X7_sortOf_49 l d (by omega) v3 σ _ rfl) _ rfl ?_
          refine go_ops ok_X7_exampleAt_34_1 (L' := [some (.inr 49), some (.inl x1), some (.inl x2), some (.inl x3), some (.inl v3)]) (st' := [.inl 3, .inl (F_X7_sortOf 49 v3 σ)]) (σ1 := σ) rfl ?_
          refine go_icmp_ne dc_X7_exampleAt_35 (by rfl) (fun hc => ?_) (fun hc => ?_)
          · replace h := (if_neg hc).symm.trans h
            refine go_wk (L' := [some (.inr 49), some (.inl x1), none, some (.inl x3), some (.inl v3)]) ⟨rfl, rfl, rfl, rfl, trivial⟩ ?_
            exact hB_X7_exampleAt_56 x3 v3 h
          · replace h := (if_pos hc).symm.trans h
            refine go_ops ok_X7_exampleAt_38_2 (L' := [some (.inr 49), some (.inl x1), some (.inl x2), some (.inl x3), some (.inl v3)]) (st' := [.inl v3, .inr 49]) (σ1 := σ) rfl ?_
            refine go_V (M1 := m_X7_whatOf) (as := [.inl v3]) (st := []) (k := 49) (ci := 7) dc_X7_exampleAt_41 ln_7_71 im_X7_whatOf (by decide) rfl rfl mk_X7_whatOf rfl (Nat.le_of_ble_eq_true rfl) (Nat.le_refl _) (v := (some (.inl (F_X7_whatOf 49 v3 σ)))) (σ1 := σ) (lk_X7_whatOf_49 l d (by omega) v3 σ _ rfl) _ rfl ?_
            refine go_ops ok_X7_exampleAt_44_1 (L' := [some (.inr 49), some (.inl x1), some (.inl x2), some (.inl x3), some (.inl v3)]) (st' := [.inl x1, .inl (F_X7_whatOf 49 v3 σ)]) (σ1 := σ) rfl ?_
            refine go_icmp_ne dc_X7_exampleAt_45 (by rfl) (fun hc => ?_) (fun hc => ?_)
            · replace h := (if_neg hc).symm.trans h
              refine go_wk (L' := [some (.inr 49), some (.inl x1), none, some (.inl x3), some (.inl v3)]) ⟨rfl, rfl, rfl, rfl, trivial⟩ ?_
              exact hB_X7_exampleAt_56 x3 v3 h
            · replace h := (if_pos hc).symm.trans h
              refine go_ops ok_X7_exampleAt_48_3 (L' := [some (.inr 49), some (.inl x1), some (.inl x2), some (.inl x3), some (.inl v3)]) (st' := [.inl x2, .inl v3, .inr 49]) (σ1 := σ) rfl ?_
              obtain ⟨q5, e6, h⟩ := bind_inv h
              refine go_V (M1 := m_X7_branchTo) (as := [.inl v3, .inl x2]) (st := []) (k := 49) (ci := 7) dc_X7_exampleAt_52 ln_7_74 im_X7_branchTo (by decide) rfl rfl mk_X7_branchTo rfl (Nat.le_of_ble_eq_true rfl) (Nat.le_refl _) (v := (some (.inl q5))) (σ1 := σ) (lk_X7_branchTo_49 l d (by omega) v3 x2 σ q5 e6) _ rfl ?_
              cases h
              have hK2 : _ = q := hK
              subst hK2
              exact go_iret dc_X7_exampleAt_55 rfl
    obtain ⟨v1, e2, h⟩ := bnd_inv h
    refine go_ops ok_X7_exampleAt_0_5 (L' := [some (.inr 49), some (.inl a1), some (.inl v1), some (.inl 0), none]) (st' := []) (σ1 := σ) (by subst e2; rfl) ?_
    obtain ⟨y7, e8, h⟩ := bind_inv h
    refine hL_X7_exampleAt_7 a1 σ 501 (v1, 0) y7 e8 ?_
    rcases y7 with z9 | r10
    rotate_left
    · show r10 = q
      cases h; rfl
    show Go l m_X7_exampleAt (d + 1) LAYC (.inl (some (.inl q))) σ 65 [none, none, none, none, none] [] σ
    rw [Sum.elim_inl] at h
    refine go_ops ok_X7_exampleAt_65_1 (L' := [none, none, none, none, none]) (st' := [.inl (-4)]) (σ1 := σ) rfl ?_
    have h9 := Option.some.inj h
    subst h9
    exact go_iret dc_X7_exampleAt_67 rfl
  have hf := go_ct (as := [.inr 49, .inl a1]) mk_X7_exampleAt (by rfl) (Nat.le_of_ble_eq_true rfl) key
  exact hf
theorem dc_X7_whichOf_5 : decode m_X7_whichOf.2.2.1 5 = .ok (.invokestatic 61, 3) := by decide +kernel
theorem dc_X7_whichOf_13 : decode m_X7_whichOf.2.2.1 13 = .ok (.ireturn, 1) := by decide +kernel
theorem ok_X7_whichOf_0_3 : oks m_X7_whichOf.1 m_X7_whichOf.2.2.1 0 [(.aload_n 0, 1, (0, 0, 0)), (.getfield 34, 3, (7, 10, 0)), (.iload_n 1, 1, (0, 0, 0))] = true ∧ plen 0 [(.aload_n 0, 1, (0, 0, 0)), (.getfield 34, 3, (7, 10, 0)), (.iload_n 1, 1, (0, 0, 0))] = 5 := by decide +kernel
theorem ok_X7_whichOf_8_4 : oks m_X7_whichOf.1 m_X7_whichOf.2.2.1 8 [(.iconst 3, 1, (0, 0, 0)), (.ishr, 1, (0, 0, 0)), (.bipush 7, 2, (0, 0, 0)), (.iand, 1, (0, 0, 0))] = true ∧ plen 8 [(.iconst 3, 1, (0, 0, 0)), (.ishr, 1, (0, 0, 0)), (.bipush 7, 2, (0, 0, 0)), (.iand, 1, (0, 0, 0))] = 13 := by decide +kernel
def F_X7_whichOf (t : Nat) (a1 : Int) (σ : Sg) : Int :=
jand (jshr (rdD (-1) σ (t + 1) 500 a1) 3) 7
theorem lk_X7_whichOf_43 (l : Launch) (d : Nat) (hd : 1 ≤ d) (a1 : Int) (σ : Sg) (q : Int) (h : F_X7_whichOf 43 a1 σ = q) : CT l d m_X7_whichOf.2.1 m_X7_whichOf.2.2.1 m_X7_whichOf.2.2.2.1 m_X7_whichOf.2.2.2.2 [.inr 43, .inl a1] (LAYC, σ) (some (.inl q)) (LAYC, σ) := by
  obtain ⟨d, rfl⟩ : ∃ e, d = e + 1 := ⟨d - 1, by omega⟩
  have key : Go l m_X7_whichOf (d + 1) LAYC (.inl (some (.inl q))) σ 0 [some (.inr 43), some (.inl a1)] [] σ := by
    unfold F_X7_whichOf at h
    refine go_ops ok_X7_whichOf_0_3 (L' := [some (.inr 43), some (.inl a1)]) (st' := [.inl a1, .inr 44]) (σ1 := σ) rfl ?_
    refine go_SN (M1 := m_X10_at) (as := [.inr 44, .inl a1]) (st := []) dc_X7_whichOf_5 ln_7_61 sm_X10_at mk_X10_at rfl (Nat.le_of_ble_eq_true rfl) (Nat.le_refl _) (v := some (.inl (rdD (-1) σ 44 500 a1))) (σ1 := σ) (lk_X10_at l d LAYC 44 500 rfl σ _) _ rfl ?_
    refine go_ops ok_X7_whichOf_8_4 (L' := [some (.inr 43), some (.inl a1)]) (st' := [.inl (jand (jshr (rdD (-1) σ 44 500 a1) 3) 7)]) (σ1 := σ) rfl ?_
    subst h
    exact go_iret dc_X7_whichOf_13 rfl
  have hf := go_ct (as := [.inr 43, .inl a1]) mk_X7_whichOf (by rfl) (Nat.le_of_ble_eq_true rfl) key
  exact hf
theorem lk_X7_whichOf_49 (l : Launch) (d : Nat) (hd : 1 ≤ d) (a1 : Int) (σ : Sg) (q : Int) (h : F_X7_whichOf 49 a1 σ = q) : CT l d m_X7_whichOf.2.1 m_X7_whichOf.2.2.1 m_X7_whichOf.2.2.2.1 m_X7_whichOf.2.2.2.2 [.inr 49, .inl a1] (LAYC, σ) (some (.inl q)) (LAYC, σ) := by
  obtain ⟨d, rfl⟩ : ∃ e, d = e + 1 := ⟨d - 1, by omega⟩
  have key : Go l m_X7_whichOf (d + 1) LAYC (.inl (some (.inl q))) σ 0 [some (.inr 49), some (.inl a1)] [] σ := by
    unfold F_X7_whichOf at h
    refine go_ops ok_X7_whichOf_0_3 (L' := [some (.inr 49), some (.inl a1)]) (st' := [.inl a1, .inr 50]) (σ1 := σ) rfl ?_
    refine go_SN (M1 := m_X10_at) (as := [.inr 50, .inl a1]) (st := []) dc_X7_whichOf_5 ln_7_61 sm_X10_at mk_X10_at rfl (Nat.le_of_ble_eq_true rfl) (Nat.le_refl _) (v := some (.inl (rdD (-1) σ 50 500 a1))) (σ1 := σ) (lk_X10_at l d LAYC 50 500 rfl σ _) _ rfl ?_
    refine go_ops ok_X7_whichOf_8_4 (L' := [some (.inr 49), some (.inl a1)]) (st' := [.inl (jand (jshr (rdD (-1) σ 50 500 a1) 3) 7)]) (σ1 := σ) rfl ?_
    subst h
    exact go_iret dc_X7_whichOf_13 rfl
  have hf := go_ct (as := [.inr 49, .inl a1]) mk_X7_whichOf (by rfl) (Nat.le_of_ble_eq_true rfl) key
  exact hf
theorem dc_X7_keepNext_4 : decode m_X7_keepNext.2.2.1 4 = .ok (.invokevirtual 109, 3) := by decide +kernel
theorem dc_X7_keepNext_18 : decode m_X7_keepNext.2.2.1 18 = .ok (.invokevirtual 120, 3) := by decide +kernel
theorem dc_X7_keepNext_28 : decode m_X7_keepNext.2.2.1 28 = .ok (.invokevirtual 123, 3) := by decide +kernel
theorem dc_X7_keepNext_35 : decode m_X7_keepNext.2.2.1 35 = .ok (.invokestatic 94, 3) := by decide +kernel
theorem dc_X7_keepNext_47 : decode m_X7_keepNext.2.2.1 47 = .ok (.invokestatic 94, 3) := by decide +kernel
theorem dc_X7_keepNext_59 : decode m_X7_keepNext.2.2.1 59 = .ok (.invokevirtual 126, 3) := by decide +kernel
theorem dc_X7_keepNext_76 : decode m_X7_keepNext.2.2.1 76 = .ok (.if_icmp .le 7, 3) := by decide +kernel
theorem dc_X7_keepNext_80 : decode m_X7_keepNext.2.2.1 80 = .ok (.goto 4, 3) := by decide +kernel
theorem dc_X7_keepNext_84 : decode m_X7_keepNext.2.2.1 84 = .ok (.putfield 9, 3) := by decide +kernel
theorem dc_X7_keepNext_89 : decode m_X7_keepNext.2.2.1 89 = .ok (.if_icmp .ne 35, 3) := by decide +kernel
theorem dc_X7_keepNext_97 : decode m_X7_keepNext.2.2.1 97 = .ok (.ifCond .ne 7, 3) := by decide +kernel
theorem dc_X7_keepNext_101 : decode m_X7_keepNext.2.2.1 101 = .ok (.goto 7, 3) := by decide +kernel
theorem dc_X7_keepNext_121 : decode m_X7_keepNext.2.2.1 121 = .ok (.goto 30, 3) := by decide +kernel
theorem dc_X7_keepNext_125 : decode m_X7_keepNext.2.2.1 125 = .ok (.ifCond .eq 8, 3) := by decide +kernel
theorem dc_X7_keepNext_130 : decode m_X7_keepNext.2.2.1 130 = .ok (.if_icmp .ne 21, 3) := by decide +kernel
theorem dc_X7_keepNext_143 : decode m_X7_keepNext.2.2.1 143 = .ok (.invokevirtual 123, 3) := by decide +kernel
theorem dc_X7_keepNext_151 : decode m_X7_keepNext.2.2.1 151 = .ok (.return_, 1) := by decide +kernel
theorem ok_X7_keepNext_0_2 : oks m_X7_keepNext.1 m_X7_keepNext.2.2.1 0 [(.aload_n 0, 1, (0, 0, 0)), (.getfield 50, 3, (7, 0, 0))] = true ∧ plen 0 [(.aload_n 0, 1, (0, 0, 0)), (.getfield 50, 3, (7, 0, 0))] = 4 := by decide +kernel
theorem ok_X7_keepNext_7_7 : oks m_X7_keepNext.1 m_X7_keepNext.2.2.1 7 [(.istore_n 2, 1, (0, 0, 0)), (.aload_n 0, 1, (0, 0, 0)), (.getfield 34, 3, (7, 10, 0)), (.iload_n 1, 1, (0, 0, 0)), (.iload_n 2, 1, (0, 0, 0)), (.aload_n 0, 1, (0, 0, 0)), (.getfield 50, 3, (7, 0, 0))] = true ∧ plen 7 [(.istore_n 2, 1, (0, 0, 0)), (.aload_n 0, 1, (0, 0, 0)), (.getfield 34, 3, (7, 10, 0)), (.iload_n 1, 1, (0, 0, 0)), (.iload_n 2, 1, (0, 0, 0)), (.aload_n 0, 1, (0, 0, 0)), (.getfield 50, 3, (7, 0, 0))] = 18 := by decide +kernel
theorem ok_X7_keepNext_21_5 : oks m_X7_keepNext.1 m_X7_keepNext.2.2.1 21 [(.iconst 3, 1, (0, 0, 0)), (.ishl, 1, (0, 0, 0)), (.ior, 1, (0, 0, 0)), (.aload_n 0, 1, (0, 0, 0)), (.getfield 50, 3, (7, 0, 0))] = true ∧ plen 21 [(.iconst 3, 1, (0, 0, 0)), (.ishl, 1, (0, 0, 0)), (.ior, 1, (0, 0, 0)), (.aload_n 0, 1, (0, 0, 0)), (.getfield 50, 3, (7, 0, 0))] = 28 := by decide +kernel
theorem ok_X7_keepNext_31_3 : oks m_X7_keepNext.1 m_X7_keepNext.2.2.1 31 [(.bipush 6, 2, (0, 0, 0)), (.ishl, 1, (0, 0, 0)), (.ior, 1, (0, 0, 0))] = true ∧ plen 31 [(.bipush 6, 2, (0, 0, 0)), (.ishl, 1, (0, 0, 0)), (.ior, 1, (0, 0, 0))] = 35 := by decide +kernel
theorem ok_X7_keepNext_38_5 : oks m_X7_keepNext.1 m_X7_keepNext.2.2.1 38 [(.aload_n 0, 1, (0, 0, 0)), (.getfield 38, 3, (7, 11, 0)), (.iload_n 1, 1, (0, 0, 0)), (.aload_n 0, 1, (0, 0, 0)), (.getfield 19, 3, (7, 5, 0))] = true ∧ plen 38 [(.aload_n 0, 1, (0, 0, 0)), (.getfield 38, 3, (7, 11, 0)), (.iload_n 1, 1, (0, 0, 0)), (.aload_n 0, 1, (0, 0, 0)), (.getfield 19, 3, (7, 5, 0))] = 47 := by decide +kernel
theorem ok_X7_keepNext_50_5 : oks m_X7_keepNext.1 m_X7_keepNext.2.2.1 50 [(.aload_n 0, 1, (0, 0, 0)), (.dup, 1, (0, 0, 0)), (.getfield 19, 3, (7, 5, 0)), (.aload_n 0, 1, (0, 0, 0)), (.getfield 50, 3, (7, 0, 0))] = true ∧ plen 50 [(.aload_n 0, 1, (0, 0, 0)), (.dup, 1, (0, 0, 0)), (.getfield 19, 3, (7, 5, 0)), (.aload_n 0, 1, (0, 0, 0)), (.getfield 50, 3, (7, 0, 0))] = 59 := by decide +kernel
theorem ok_X7_keepNext_62_8 : oks m_X7_keepNext.1 m_X7_keepNext.2.2.1 62 [(.iadd, 1, (0, 0, 0)), (.putfield 19, 3, (7, 5, 0)), (.aload_n 0, 1, (0, 0, 0)), (.aload_n 0, 1, (0, 0, 0)), (.getfield 19, 3, (7, 5, 0)), (.iconst 1, 1, (0, 0, 0)), (.iadd, 1, (0, 0, 0)), (.sipush 500, 3, (0, 0, 0))] = true ∧ plen 62 [(.iadd, 1, (0, 0, 0)), (.putfield 19, 3, (7, 5, 0)), (.aload_n 0, 1, (0, 0, 0)), (.aload_n 0, 1, (0, 0, 0)), (.getfield 19, 3, (7, 5, 0)), (.iconst 1, 1, (0, 0, 0)), (.iadd, 1, (0, 0, 0)), (.sipush 500, 3, (0, 0, 0))] = 76 := by decide +kernel
theorem ok_X7_keepNext_79_1 : oks m_X7_keepNext.1 m_X7_keepNext.2.2.1 79 [(.iconst 1, 1, (0, 0, 0))] = true ∧ plen 79 [(.iconst 1, 1, (0, 0, 0))] = 80 := by decide +kernel
theorem ok_X7_keepNext_83_1 : oks m_X7_keepNext.1 m_X7_keepNext.2.2.1 83 [(.iconst 0, 1, (0, 0, 0))] = true ∧ plen 83 [(.iconst 0, 1, (0, 0, 0))] = 84 := by decide +kernel
theorem ok_X7_keepNext_87_2 : oks m_X7_keepNext.1 m_X7_keepNext.2.2.1 87 [(.iload_n 2, 1, (0, 0, 0)), (.iconst 2, 1, (0, 0, 0))] = true ∧ plen 87 [(.iload_n 2, 1, (0, 0, 0)), (.iconst 2, 1, (0, 0, 0))] = 89 := by decide +kernel
theorem ok_X7_keepNext_92_3 : oks m_X7_keepNext.1 m_X7_keepNext.2.2.1 92 [(.aload_n 0, 1, (0, 0, 0)), (.aload_n 0, 1, (0, 0, 0)), (.getfield 25, 3, (7, 7, 0))] = true ∧ plen 92 [(.aload_n 0, 1, (0, 0, 0)), (.aload_n 0, 1, (0, 0, 0)), (.getfield 25, 3, (7, 7, 0))] = 97 := by decide +kernel
theorem ok_X7_keepNext_100_1 : oks m_X7_keepNext.1 m_X7_keepNext.2.2.1 100 [(.iload_n 1, 1, (0, 0, 0))] = true ∧ plen 100 [(.iload_n 1, 1, (0, 0, 0))] = 101 := by decide +kernel
theorem ok_X7_keepNext_104_2 : oks m_X7_keepNext.1 m_X7_keepNext.2.2.1 104 [(.aload_n 0, 1, (0, 0, 0)), (.getfield 28, 3, (7, 8, 0))] = true ∧ plen 104 [(.aload_n 0, 1, (0, 0, 0)), (.getfield 28, 3, (7, 8, 0))] = 108 := by decide +kernel
theorem ok_X7_keepNext_108_7 : oks m_X7_keepNext.1 m_X7_keepNext.2.2.1 108 [(.putfield 28, 3, (7, 8, 0)), (.aload_n 0, 1, (0, 0, 0)), (.dup, 1, (0, 0, 0)), (.getfield 25, 3, (7, 7, 0)), (.iconst 1, 1, (0, 0, 0)), (.iadd, 1, (0, 0, 0)), (.putfield 25, 3, (7, 7, 0))] = true ∧ plen 108 [(.putfield 28, 3, (7, 8, 0)), (.aload_n 0, 1, (0, 0, 0)), (.dup, 1, (0, 0, 0)), (.getfield 25, 3, (7, 7, 0)), (.iconst 1, 1, (0, 0, 0)), (.iadd, 1, (0, 0, 0)), (.putfield 25, 3, (7, 7, 0))] = 121 := by decide +kernel
theorem ok_X7_keepNext_124_1 : oks m_X7_keepNext.1 m_X7_keepNext.2.2.1 124 [(.iload_n 2, 1, (0, 0, 0))] = true ∧ plen 124 [(.iload_n 2, 1, (0, 0, 0))] = 125 := by decide +kernel
theorem ok_X7_keepNext_128_2 : oks m_X7_keepNext.1 m_X7_keepNext.2.2.1 128 [(.iload_n 2, 1, (0, 0, 0)), (.iconst 1, 1, (0, 0, 0))] = true ∧ plen 128 [(.iload_n 2, 1, (0, 0, 0)), (.iconst 1, 1, (0, 0, 0))] = 130 := by decide +kernel
theorem ok_X7_keepNext_133_6 : oks m_X7_keepNext.1 m_X7_keepNext.2.2.1 133 [(.aload_n 0, 1, (0, 0, 0)), (.dup, 1, (0, 0, 0)), (.getfield 31, 3, (7, 9, 0)), (.iconst 1, 1, (0, 0, 0)), (.aload_n 0, 1, (0, 0, 0)), (.getfield 50, 3, (7, 0, 0))] = true ∧ plen 133 [(.aload_n 0, 1, (0, 0, 0)), (.dup, 1, (0, 0, 0)), (.getfield 31, 3, (7, 9, 0)), (.iconst 1, 1, (0, 0, 0)), (.aload_n 0, 1, (0, 0, 0)), (.getfield 50, 3, (7, 0, 0))] = 143 := by decide +kernel
theorem ok_X7_keepNext_146_3 : oks m_X7_keepNext.1 m_X7_keepNext.2.2.1 146 [(.ishl, 1, (0, 0, 0)), (.ior, 1, (0, 0, 0)), (.putfield 31, 3, (7, 9, 0))] = true ∧ plen 146 [(.ishl, 1, (0, 0, 0)), (.ior, 1, (0, 0, 0)), (.putfield 31, 3, (7, 9, 0))] = 151 := by decide +kernel
def B_X7_keepNext_133 (t : Nat) (σ : Sg) : Sg :=
bnd (up2 σ t 9 (jor (σ t 9) (jshl 1 (F_X3_what σ)))) fun s11 =>
s11
def B_X7_keepNext_108 (t : Nat) (y0 : Int) (σ : Sg) : Sg :=
bnd (up2 σ t 8 y0) fun s13 =>
bnd (up2 s13 t 7 (wrap ((s13 t 7) + 1))) fun s15 =>
s15
def B_X7_keepNext_84 (t : Nat) (x1 : Int) (x2 : Int) (y0 : Bool) (σ : Sg) : Sg :=
bnd (up2 σ t 3 (b2i y0)) fun s9 =>
if x2 = 2 then
if (s9 t 7) = 0 then
B_X7_keepNext_108 t x1 s9
else
B_X7_keepNext_108 t (s9 t 8) s9
else
if x2 = 0 then
B_X7_keepNext_133 t s9
else
if x2 = 1 then
B_X7_keepNext_133 t s9
else
s9
def F_X7_keepNext (t : Nat) (a1 : Int) (σ : Sg) : Sg :=
bnd (F_X3_sort σ) fun v1 =>
bnd (wrD σ (t + 1) 500 a1 (jor (jor v1 (jshl (F_X3_which σ) 3)) (jshl (F_X3_what σ) 6))) fun s3 =>
bnd (wrD s3 (t + 2) 500 a1 (s3 t 5)) fun s5 =>
bnd (up2 s5 t 5 (wrap ((s5 t 5) + (F_X3_width s5)))) fun s7 =>
if (wrap ((s7 t 5) + 1)) ≤ 500 then
B_X7_keepNext_84 t a1 v1 false s7
else
B_X7_keepNext_84 t a1 v1 true s7
theorem lk_X7_keepNext_43 (l : Launch) (d : Nat) (hd : 3 ≤ d) (a1 : Int) (σ : Sg) (q : Sg) (h : F_X7_keepNext 43 a1 σ = q) : CT l d m_X7_keepNext.2.1 m_X7_keepNext.2.2.1 m_X7_keepNext.2.2.2.1 m_X7_keepNext.2.2.2.2 [.inr 43, .inl a1] (LAYC, σ) none (LAYC, q) := by
  obtain ⟨d, rfl⟩ : ∃ e, d = e + 1 := ⟨d - 1, by omega⟩
  have key : Go l m_X7_keepNext (d + 1) LAYC (.inl none) q 0 [some (.inr 43), some (.inl a1), none] [] σ := by
    unfold F_X7_keepNext at h
    have hB_X7_keepNext_133 : ∀ (σ : Sg), B_X7_keepNext_133 43 σ = q → Go l m_X7_keepNext (d + 1) LAYC (.inl none) q 133 [some (.inr 43), none, none] [] σ := by
      intro σ h
      unfold B_X7_keepNext_133 at h
      refine go_ops ok_X7_keepNext_133_6 (L' := [some (.inr 43), none, none]) (st' := [.inr 37, .inl 1, .inl (σ 43 9), .inr 43]) (σ1 := σ) rfl ?_
      refine go_V (M1 := m_X3_what) (as := []) (st := [.inl 1, .inl (σ 43 9), .inr 43]) (k := 37) (ci := 3) dc_X7_keepNext_143 ln_7_123 im_X3_what (by decide) rfl rfl mk_X3_what rfl (Nat.le_of_ble_eq_true rfl) (Nat.le_refl _) (v := (some (.inl (F_X3_what σ)))) (σ1 := σ) (lk_X3_what l d (by omega) σ _ rfl) _ rfl ?_
      obtain ⟨s11, e12, h⟩ := bnd_inv h
      refine go_ops ok_X7_keepNext_146_3 (L' := [some (.inr 43), none, none]) (st' := []) (σ1 := s11) (by subst e12; rfl) ?_
      subst h
      exact go_vret dc_X7_keepNext_151 rfl
    have hB_X7_keepNext_108 : ∀ (y0 : Int) (σ : Sg), B_X7_keepNext_108 43 y0 σ = q → Go l m_X7_keepNext (d + 1) LAYC (.inl none) q 108 [some (.inr 43), none, none] [.inl y0, .inr 43] σ := by
      intro y0 σ h
      unfold B_X7_keepNext_108 at h
      obtain ⟨s13, e14, h⟩ := bnd_inv h
      obtain ⟨s15, e16, h⟩ := bnd_inv h
      refine go_ops ok_X7_keepNext_108_7 (L' := [some (.inr 43), none, none]) (st' := []) (σ1 := s15) (by subst e16; subst e14; rfl) ?_
      refine go_goto dc_X7_keepNext_121 (by rfl) ?_
      subst h
      exact go_vret dc_X7_keepNext_151 rfl
    have hB_X7_keepNext_84 : ∀ (x1 : Int) (x2 : Int) (y0 : Bool) (σ : Sg), B_X7_keepNext_84 43 x1 x2 y0 σ = q → Go l m_X7_keepNext (d + 1) LAYC (.inl none) q 84 [some (.inr 43), some (.inl x1), some (.inl x2)] [.inl (b2i y0), .inr 43] σ := by
      intro x1 x2 y0 σ h
      unfold B_X7_keepNext_84 at h
      obtain ⟨s9, e10, h⟩ := bnd_inv h
      refine go_pfb (b := y0) (k := 43) (ci := 7) (sl := 3) dc_X7_keepNext_84 (by decide +kernel) (by decide) rfl rfl (by decide +kernel) (by decide +kernel) e10 ?_
      refine go_ops ok_X7_keepNext_87_2 (L' := [some (.inr 43), some (.inl x1), some (.inl x2)]) (st' := [.inl 2, .inl x2]) (σ1 := s9) rfl ?_
      refine go_icmp_ne dc_X7_keepNext_89 (by rfl) (fun hc => ?_) (fun hc => ?_)
      · replace h := (if_neg hc).symm.trans h
        refine go_ops ok_X7_keepNext_124_1 (L' := [some (.inr 43), some (.inl x1), some (.inl x2)]) (st' := [.inl x2]) (σ1 := s9) rfl ?_
        refine go_if_eq dc_X7_keepNext_125 (by rfl) (fun hc => ?_) (fun hc => ?_)
        · replace h := (if_pos hc).symm.trans h
          refine go_wk (L' := [some (.inr 43), none, none]) ⟨rfl, trivial⟩ ?_
          exact hB_X7_keepNext_133 s9 h
        · replace h := (if_neg hc).symm.trans h
          refine go_ops ok_X7_keepNext_128_2 (L' := [some (.inr 43), some (.inl x1), some (.inl x2)]) (st' := [.inl 1, .inl x2]) (σ1 := s9) rfl ?_
          refine go_icmp_ne dc_X7_keepNext_130 (by rfl) (fun hc => ?_) (fun hc => ?_)
          · replace h := (if_neg hc).symm.trans h
            subst h
            exact go_vret dc_X7_keepNext_151 rfl
          · replace h := (if_pos hc).symm.trans h
            refine go_wk (L' := [some (.inr 43), none, none]) ⟨rfl, trivial⟩ ?_
            exact hB_X7_keepNext_133 s9 h
      · replace h := (if_pos hc).symm.trans h
        refine go_ops ok_X7_keepNext_92_3 (L' := [some (.inr 43), some (.inl x1), some (.inl x2)]) (st' := [.inl (s9 43 7), .inr 43]) (σ1 := s9) rfl ?_
        refine go_if_ne dc_X7_keepNext_97 (by rfl) (fun hc => ?_) (fun hc => ?_)
        · replace h := (if_neg hc).symm.trans h
          refine go_ops ok_X7_keepNext_104_2 (L' := [some (.inr 43), some (.inl x1), some (.inl x2)]) (st' := [.inl (s9 43 8), .inr 43]) (σ1 := s9) rfl ?_
          refine go_wk (L' := [some (.inr 43), none, none]) ⟨rfl, trivial⟩ ?_
          exact hB_X7_keepNext_108 (s9 43 8) s9 h
        · replace h := (if_pos hc).symm.trans h
          refine go_ops ok_X7_keepNext_100_1 (L' := [some (.inr 43), some (.inl x1), some (.inl x2)]) (st' := [.inl x1, .inr 43]) (σ1 := s9) rfl ?_
          refine go_goto dc_X7_keepNext_101 (by rfl) ?_
          refine go_wk (L' := [some (.inr 43), none, none]) ⟨rfl, trivial⟩ ?_
          exact hB_X7_keepNext_108 x1 s9 h
    refine go_ops ok_X7_keepNext_0_2 (L' := [some (.inr 43), some (.inl a1), none]) (st' := [.inr 37]) (σ1 := σ) rfl ?_
    refine go_V (M1 := m_X3_sort) (as := []) (st := []) (k := 37) (ci := 3) dc_X7_keepNext_4 ln_7_109 im_X3_sort (by decide) rfl rfl mk_X3_sort rfl (Nat.le_of_ble_eq_true rfl) (Nat.le_refl _) (v := (some (.inl (F_X3_sort σ)))) (σ1 := σ) (lk_X3_sort l d (by omega) σ _ rfl) _ rfl ?_
    obtain ⟨v1, e2, h⟩ := bnd_inv h
    refine go_ops ok_X7_keepNext_7_7 (L' := [some (.inr 43), some (.inl a1), some (.inl v1)]) (st' := [.inr 37, .inl v1, .inl a1, .inr 44]) (σ1 := σ) (by subst e2; rfl) ?_
    refine go_V (M1 := m_X3_which) (as := []) (st := [.inl v1, .inl a1, .inr 44]) (k := 37) (ci := 3) dc_X7_keepNext_18 ln_7_120 im_X3_which (by decide) rfl rfl mk_X3_which rfl (Nat.le_of_ble_eq_true rfl) (Nat.le_refl _) (v := (some (.inl (F_X3_which σ)))) (σ1 := σ) (lk_X3_which l d (by omega) σ _ rfl) _ rfl ?_
    refine go_ops ok_X7_keepNext_21_5 (L' := [some (.inr 43), some (.inl a1), some (.inl v1)]) (st' := [.inr 37, .inl (jor v1 (jshl (F_X3_which σ) 3)), .inl a1, .inr 44]) (σ1 := σ) rfl ?_
    refine go_V (M1 := m_X3_what) (as := []) (st := [.inl (jor v1 (jshl (F_X3_which σ) 3)), .inl a1, .inr 44]) (k := 37) (ci := 3) dc_X7_keepNext_28 ln_7_123 im_X3_what (by decide) rfl rfl mk_X3_what rfl (Nat.le_of_ble_eq_true rfl) (Nat.le_refl _) (v := (some (.inl (F_X3_what σ)))) (σ1 := σ) (lk_X3_what l d (by omega) σ _ rfl) _ rfl ?_
    refine go_ops ok_X7_keepNext_31_3 (L' := [some (.inr 43), some (.inl a1), some (.inl v1)]) (st' := [.inl (jor (jor v1 (jshl (F_X3_which σ) 3)) (jshl (F_X3_what σ) 6)), .inl a1, .inr 44]) (σ1 := σ) rfl ?_
    obtain ⟨s3, e4, h⟩ := bnd_inv h
    refine go_SN (M1 := m_X10_put) (as := [.inr 44, .inl a1, .inl (jor (jor v1 (jshl (F_X3_which σ) 3)) (jshl (F_X3_what σ) 6))]) (st := []) dc_X7_keepNext_35 ln_7_94 sm_X10_put mk_X10_put rfl (Nat.le_of_ble_eq_true rfl) (Nat.le_refl _) (v := none) (σ1 := s3) (lk_X10_put l d LAYC 44 500 rfl _ _ s3 e4) _ rfl ?_
    refine go_ops ok_X7_keepNext_38_5 (L' := [some (.inr 43), some (.inl a1), some (.inl v1)]) (st' := [.inl (s3 43 5), .inl a1, .inr 45]) (σ1 := s3) rfl ?_
    obtain ⟨s5, e6, h⟩ := bnd_inv h
    refine go_SN (M1 := m_X10_put) (as := [.inr 45, .inl a1, .inl (s3 43 5)]) (st := []) dc_X7_keepNext_47 ln_7_94 sm_X10_put mk_X10_put rfl (Nat.le_of_ble_eq_true rfl) (Nat.le_refl _) (v := none) (σ1 := s5) (lk_X10_put l d LAYC 45 500 rfl _ _ s5 e6) _ rfl ?_
    refine go_ops ok_X7_keepNext_50_5 (L' := [some (.inr 43), some (.inl a1), some (.inl v1)]) (st' := [.inr 37, .inl (s5 43 5), .inr 43]) (σ1 := s5) rfl ?_
    refine go_V (M1 := m_X3_width) (as := []) (st := [.inl (s5 43 5), .inr 43]) (k := 37) (ci := 3) dc_X7_keepNext_59 ln_7_126 im_X3_width (by decide) rfl rfl mk_X3_width rfl (Nat.le_of_ble_eq_true rfl) (Nat.le_refl _) (v := (some (.inl (F_X3_width s5)))) (σ1 := s5) (lk_X3_width l d (by omega) s5 _ rfl) _ rfl ?_
    obtain ⟨s7, e8, h⟩ := bnd_inv h
    refine go_ops ok_X7_keepNext_62_8 (L' := [some (.inr 43), some (.inl a1), some (.inl v1)]) (st' := [.inl 500, .inl (wrap ((s7 43 5) + 1)), .inr 43]) (σ1 := s7) (by subst e8; rfl) ?_
    refine go_icmp_le dc_X7_keepNext_76 (by rfl) (fun hc => ?_) (fun hc => ?_)
    · replace h := (if_pos hc).symm.trans h
      refine go_ops ok_X7_keepNext_83_1 (L' := [some (.inr 43), some (.inl a1), some (.inl v1)]) (st' := [.inl 0, .inr 43]) (σ1 := s7) rfl ?_
      exact hB_X7_keepNext_84 a1 v1 false s7 h
    · replace h := (if_neg hc).symm.trans h
      refine go_ops ok_X7_keepNext_79_1 (L' := [some (.inr 43), some (.inl a1), some (.inl v1)]) (st' := [.inl 1, .inr 43]) (σ1 := s7) rfl ?_
      refine go_goto dc_X7_keepNext_80 (by rfl) ?_
      exact hB_X7_keepNext_84 a1 v1 true s7 h
  have hf := go_ct (as := [.inr 43, .inl a1]) mk_X7_keepNext (by rfl) (Nat.le_of_ble_eq_true rfl) key
  exact hf
theorem lk_X7_keepNext_49 (l : Launch) (d : Nat) (hd : 3 ≤ d) (a1 : Int) (σ : Sg) (q : Sg) (h : F_X7_keepNext 49 a1 σ = q) : CT l d m_X7_keepNext.2.1 m_X7_keepNext.2.2.1 m_X7_keepNext.2.2.2.1 m_X7_keepNext.2.2.2.2 [.inr 49, .inl a1] (LAYC, σ) none (LAYC, q) := by
  obtain ⟨d, rfl⟩ : ∃ e, d = e + 1 := ⟨d - 1, by omega⟩
  have key : Go l m_X7_keepNext (d + 1) LAYC (.inl none) q 0 [some (.inr 49), some (.inl a1), none] [] σ := by
    unfold F_X7_keepNext at h
    have hB_X7_keepNext_133 : ∀ (σ : Sg), B_X7_keepNext_133 49 σ = q → Go l m_X7_keepNext (d + 1) LAYC (.inl none) q 133 [some (.inr 49), none, none] [] σ := by
      intro σ h
      unfold B_X7_keepNext_133 at h
      refine go_ops ok_X7_keepNext_133_6 (L' := [some (.inr 49), none, none]) (st' := [.inr 37, .inl 1, .inl (σ 49 9), .inr 49]) (σ1 := σ) rfl ?_
      refine go_V (M1 := m_X3_what) (as := []) (st := [.inl 1, .inl (σ 49 9), .inr 49]) (k := 37) (ci := 3) dc_X7_keepNext_143 ln_7_123 im_X3_what (by decide) rfl rfl mk_X3_what rfl (Nat.le_of_ble_eq_true rfl) (Nat.le_refl _) (v := (some (.inl (F_X3_what σ)))) (σ1 := σ) (lk_X3_what l d (by omega) σ _ rfl) _ rfl ?_
      obtain ⟨s11, e12, h⟩ := bnd_inv h
      refine go_ops ok_X7_keepNext_146_3 (L' := [some (.inr 49), none, none]) (st' := []) (σ1 := s11) (by subst e12; rfl) ?_
      subst h
      exact go_vret dc_X7_keepNext_151 rfl
    have hB_X7_keepNext_108 : ∀ (y0 : Int) (σ : Sg), B_X7_keepNext_108 49 y0 σ = q → Go l m_X7_keepNext (d + 1) LAYC (.inl none) q 108 [some (.inr 49), none, none] [.inl y0, .inr 49] σ := by
      intro y0 σ h
      unfold B_X7_keepNext_108 at h
      obtain ⟨s13, e14, h⟩ := bnd_inv h
      obtain ⟨s15, e16, h⟩ := bnd_inv h
      refine go_ops ok_X7_keepNext_108_7 (L' := [some (.inr 49), none, none]) (st' := []) (σ1 := s15) (by subst e16; subst e14; rfl) ?_
      refine go_goto dc_X7_keepNext_121 (by rfl) ?_
      subst h
      exact go_vret dc_X7_keepNext_151 rfl
    have hB_X7_keepNext_84 : ∀ (x1 : Int) (x2 : Int) (y0 : Bool) (σ : Sg), B_X7_keepNext_84 49 x1 x2 y0 σ = q → Go l m_X7_keepNext (d + 1) LAYC (.inl none) q 84 [some (.inr 49), some (.inl x1), some (.inl x2)] [.inl (b2i y0), .inr 49] σ := by
      intro x1 x2 y0 σ h
      unfold B_X7_keepNext_84 at h
      obtain ⟨s9, e10, h⟩ := bnd_inv h
      refine go_pfb (b := y0) (k := 49) (ci := 7) (sl := 3) dc_X7_keepNext_84 (by decide +kernel) (by decide) rfl rfl (by decide +kernel) (by decide +kernel) e10 ?_
      refine go_ops ok_X7_keepNext_87_2 (L' := [some (.inr 49), some (.inl x1), some (.inl x2)]) (st' := [.inl 2, .inl x2]) (σ1 := s9) rfl ?_
      refine go_icmp_ne dc_X7_keepNext_89 (by rfl) (fun hc => ?_) (fun hc => ?_)
      · replace h := (if_neg hc).symm.trans h
        refine go_ops ok_X7_keepNext_124_1 (L' := [some (.inr 49), some (.inl x1), some (.inl x2)]) (st' := [.inl x2]) (σ1 := s9) rfl ?_
        refine go_if_eq dc_X7_keepNext_125 (by rfl) (fun hc => ?_) (fun hc => ?_)
        · replace h := (if_pos hc).symm.trans h
          refine go_wk (L' := [some (.inr 49), none, none]) ⟨rfl, trivial⟩ ?_
          exact hB_X7_keepNext_133 s9 h
        · replace h := (if_neg hc).symm.trans h
          refine go_ops ok_X7_keepNext_128_2 (L' := [some (.inr 49), some (.inl x1), some (.inl x2)]) (st' := [.inl 1, .inl x2]) (σ1 := s9) rfl ?_
          refine go_icmp_ne dc_X7_keepNext_130 (by rfl) (fun hc => ?_) (fun hc => ?_)
          · replace h := (if_neg hc).symm.trans h
            subst h
            exact go_vret dc_X7_keepNext_151 rfl
          · replace h := (if_pos hc).symm.trans h
            refine go_wk (L' := [some (.inr 49), none, none]) ⟨rfl, trivial⟩ ?_
            exact hB_X7_keepNext_133 s9 h
      · replace h := (if_pos hc).symm.trans h
        refine go_ops ok_X7_keepNext_92_3 (L' := [some (.inr 49), some (.inl x1), some (.inl x2)]) (st' := [.inl (s9 49 7), .inr 49]) (σ1 := s9) rfl ?_
        refine go_if_ne dc_X7_keepNext_97 (by rfl) (fun hc => ?_) (fun hc => ?_)
        · replace h := (if_neg hc).symm.trans h
          refine go_ops ok_X7_keepNext_104_2 (L' := [some (.inr 49), some (.inl x1), some (.inl x2)]) (st' := [.inl (s9 49 8), .inr 49]) (σ1 := s9) rfl ?_
          refine go_wk (L' := [some (.inr 49), none, none]) ⟨rfl, trivial⟩ ?_
          exact hB_X7_keepNext_108 (s9 49 8) s9 h
        · replace h := (if_pos hc).symm.trans h
          refine go_ops ok_X7_keepNext_100_1 (L' := [some (.inr 49), some (.inl x1), some (.inl x2)]) (st' := [.inl x1, .inr 49]) (σ1 := s9) rfl ?_
          refine go_goto dc_X7_keepNext_101 (by rfl) ?_
          refine go_wk (L' := [some (.inr 49), none, none]) ⟨rfl, trivial⟩ ?_
          exact hB_X7_keepNext_108 x1 s9 h
    refine go_ops ok_X7_keepNext_0_2 (L' := [some (.inr 49), some (.inl a1), none]) (st' := [.inr 37]) (σ1 := σ) rfl ?_
    refine go_V (M1 := m_X3_sort) (as := []) (st := []) (k := 37) (ci := 3) dc_X7_keepNext_4 ln_7_109 im_X3_sort (by decide) rfl rfl mk_X3_sort rfl (Nat.le_of_ble_eq_true rfl) (Nat.le_refl _) (v := (some (.inl (F_X3_sort σ)))) (σ1 := σ) (lk_X3_sort l d (by omega) σ _ rfl) _ rfl ?_
    obtain ⟨v1, e2, h⟩ := bnd_inv h
    refine go_ops ok_X7_keepNext_7_7 (L' := [some (.inr 49), some (.inl a1), some (.inl v1)]) (st' := [.inr 37, .inl v1, .inl a1, .inr 50]) (σ1 := σ) (by subst e2; rfl) ?_
    refine go_V (M1 := m_X3_which) (as := []) (st := [.inl v1, .inl a1, .inr 50]) (k := 37) (ci := 3) dc_X7_keepNext_18 ln_7_120 im_X3_which (by decide) rfl rfl mk_X3_which rfl (Nat.le_of_ble_eq_true rfl) (Nat.le_refl _) (v := (some (.inl (F_X3_which σ)))) (σ1 := σ) (lk_X3_which l d (by omega) σ _ rfl) _ rfl ?_
    refine go_ops ok_X7_keepNext_21_5 (L' := [some (.inr 49), some (.inl a1), some (.inl v1)]) (st' := [.inr 37, .inl (jor v1 (jshl (F_X3_which σ) 3)), .inl a1, .inr 50]) (σ1 := σ) rfl ?_
    refine go_V (M1 := m_X3_what) (as := []) (st := [.inl (jor v1 (jshl (F_X3_which σ) 3)), .inl a1, .inr 50]) (k := 37) (ci := 3) dc_X7_keepNext_28 ln_7_123 im_X3_what (by decide) rfl rfl mk_X3_what rfl (Nat.le_of_ble_eq_true rfl) (Nat.le_refl _) (v := (some (.inl (F_X3_what σ)))) (σ1 := σ) (lk_X3_what l d (by omega) σ _ rfl) _ rfl ?_
    refine go_ops ok_X7_keepNext_31_3 (L' := [some (.inr 49), some (.inl a1), some (.inl v1)]) (st' := [.inl (jor (jor v1 (jshl (F_X3_which σ) 3)) (jshl (F_X3_what σ) 6)), .inl a1, .inr 50]) (σ1 := σ) rfl ?_
    obtain ⟨s3, e4, h⟩ := bnd_inv h
    refine go_SN (M1 := m_X10_put) (as := [.inr 50, .inl a1, .inl (jor (jor v1 (jshl (F_X3_which σ) 3)) (jshl (F_X3_what σ) 6))]) (st := []) dc_X7_keepNext_35 ln_7_94 sm_X10_put mk_X10_put rfl (Nat.le_of_ble_eq_true rfl) (Nat.le_refl _) (v := none) (σ1 := s3) (lk_X10_put l d LAYC 50 500 rfl _ _ s3 e4) _ rfl ?_
    refine go_ops ok_X7_keepNext_38_5 (L' := [some (.inr 49), some (.inl a1), some (.inl v1)]) (st' := [.inl (s3 49 5), .inl a1, .inr 51]) (σ1 := s3) rfl ?_
    obtain ⟨s5, e6, h⟩ := bnd_inv h
    refine go_SN (M1 := m_X10_put) (as := [.inr 51, .inl a1, .inl (s3 49 5)]) (st := []) dc_X7_keepNext_47 ln_7_94 sm_X10_put mk_X10_put rfl (Nat.le_of_ble_eq_true rfl) (Nat.le_refl _) (v := none) (σ1 := s5) (lk_X10_put l d LAYC 51 500 rfl _ _ s5 e6) _ rfl ?_
    refine go_ops ok_X7_keepNext_50_5 (L' := [some (.inr 49), some (.inl a1), some (.inl v1)]) (st' := [.inr 37, .inl (s5 49 5), .inr 49]) (σ1 := s5) rfl ?_
    refine go_V (M1 := m_X3_width) (as := []) (st := [.inl (s5 49 5), .inr 49]) (k := 37) (ci := 3) dc_X7_keepNext_59 ln_7_126 im_X3_width (by decide) rfl rfl mk_X3_width rfl (Nat.le_of_ble_eq_true rfl) (Nat.le_refl _) (v := (some (.inl (F_X3_width s5)))) (σ1 := s5) (lk_X3_width l d (by omega) s5 _ rfl) _ rfl ?_
    obtain ⟨s7, e8, h⟩ := bnd_inv h
    refine go_ops ok_X7_keepNext_62_8 (L' := [some (.inr 49), some (.inl a1), some (.inl v1)]) (st' := [.inl 500, .inl (wrap ((s7 49 5) + 1)), .inr 49]) (σ1 := s7) (by subst e8; rfl) ?_
    refine go_icmp_le dc_X7_keepNext_76 (by rfl) (fun hc => ?_) (fun hc => ?_)
    · replace h := (if_pos hc).symm.trans h
      refine go_ops ok_X7_keepNext_83_1 (L' := [some (.inr 49), some (.inl a1), some (.inl v1)]) (st' := [.inl 0, .inr 49]) (σ1 := s7) rfl ?_
      exact hB_X7_keepNext_84 a1 v1 false s7 h
    · replace h := (if_neg hc).symm.trans h
      refine go_ops ok_X7_keepNext_79_1 (L' := [some (.inr 49), some (.inl a1), some (.inl v1)]) (st' := [.inl 1, .inr 49]) (σ1 := s7) rfl ?_
      refine go_goto dc_X7_keepNext_80 (by rfl) ?_
      exact hB_X7_keepNext_84 a1 v1 true s7 h
  have hf := go_ct (as := [.inr 49, .inl a1]) mk_X7_keepNext (by rfl) (Nat.le_of_ble_eq_true rfl) key
  exact hf
theorem dc_X7_plant_18 : decode m_X7_plant.2.2.1 18 = .ok (.invokestatic 94, 3) := by decide +kernel
theorem dc_X7_plant_27 : decode m_X7_plant.2.2.1 27 = .ok (.invokestatic 94, 3) := by decide +kernel
theorem dc_X7_plant_32 : decode m_X7_plant.2.2.1 32 = .ok (.if_icmp .eq 21, 3) := by decide +kernel
theorem dc_X7_plant_44 : decode m_X7_plant.2.2.1 44 = .ok (.invokestatic 61, 3) := by decide +kernel
theorem dc_X7_plant_50 : decode m_X7_plant.2.2.1 50 = .ok (.invokestatic 94, 3) := by decide +kernel
theorem dc_X7_plant_55 : decode m_X7_plant.2.2.1 55 = .ok (.if_icmp .eq 28, 3) := by decide +kernel
theorem dc_X7_plant_60 : decode m_X7_plant.2.2.1 60 = .ok (.invokevirtual 65, 3) := by decide +kernel
theorem dc_X7_plant_64 : decode m_X7_plant.2.2.1 64 = .ok (.if_icmp .ne 19, 3) := by decide +kernel
theorem dc_X7_plant_73 : decode m_X7_plant.2.2.1 73 = .ok (.invokevirtual 71, 3) := by decide +kernel
theorem dc_X7_plant_77 : decode m_X7_plant.2.2.1 77 = .ok (.invokevirtual 102, 3) := by decide +kernel
theorem dc_X7_plant_80 : decode m_X7_plant.2.2.1 80 = .ok (.ifCond .ne 35, 3) := by decide +kernel
theorem dc_X7_plant_87 : decode m_X7_plant.2.2.1 87 = .ok (.invokevirtual 106, 3) := by decide +kernel
theorem dc_X7_plant_94 : decode m_X7_plant.2.2.1 94 = .ok (.ifCond .eq 21, 3) := by decide +kernel
theorem dc_X7_plant_101 : decode m_X7_plant.2.2.1 101 = .ok (.invokevirtual 109, 3) := by decide +kernel
theorem dc_X7_plant_105 : decode m_X7_plant.2.2.1 105 = .ok (.if_icmp .ne 10, 3) := by decide +kernel
theorem dc_X7_plant_112 : decode m_X7_plant.2.2.1 112 = .ok (.invokevirtual 113, 3) := by decide +kernel
theorem dc_X7_plant_117 : decode m_X7_plant.2.2.1 117 = .ok (.invokevirtual 116, 3) := by decide +kernel
theorem dc_X7_plant_121 : decode m_X7_plant.2.2.1 121 = .ok (.ireturn, 1) := by decide +kernel
theorem ok_X7_plant_0_12 : oks m_X7_plant.1 m_X7_plant.2.2.1 0 [(.aload_n 0, 1, (0, 0, 0)), (.dup, 1, (0, 0, 0)), (.getfield 15, 3, (7, 4, 0)), (.dup_x1, 1, (0, 0, 0)), (.iconst 1, 1, (0, 0, 0)), (.iadd, 1, (0, 0, 0)), (.putfield 15, 3, (7, 4, 0)), (.istore_n 3, 1, (0, 0, 0)), (.aload_n 0, 1, (0, 0, 0)), (.getfield 44, 3, (7, 13, 0)), (.iload_n 3, 1, (0, 0, 0)), (.iload_n 1, 1, (0, 0, 0))] = true ∧ plen 0 [(.aload_n 0, 1, (0, 0, 0)), (.dup, 1, (0, 0, 0)), (.getfield 15, 3, (7, 4, 0)), (.dup_x1, 1, (0, 0, 0)), (.iconst 1, 1, (0, 0, 0)), (.iadd, 1, (0, 0, 0)), (.putfield 15, 3, (7, 4, 0)), (.istore_n 3, 1, (0, 0, 0)), (.aload_n 0, 1, (0, 0, 0)), (.getfield 44, 3, (7, 13, 0)), (.iload_n 3, 1, (0, 0, 0)), (.iload_n 1, 1, (0, 0, 0))] = 18 := by decide +kernel
theorem ok_X7_plant_21_4 : oks m_X7_plant.1 m_X7_plant.2.2.1 21 [(.aload_n 0, 1, (0, 0, 0)), (.getfield 47, 3, (7, 14, 0)), (.iload_n 3, 1, (0, 0, 0)), (.iconst 0, 1, (0, 0, 0))] = true ∧ plen 21 [(.aload_n 0, 1, (0, 0, 0)), (.getfield 47, 3, (7, 14, 0)), (.iload_n 3, 1, (0, 0, 0)), (.iconst 0, 1, (0, 0, 0))] = 27 := by decide +kernel
theorem ok_X7_plant_30_2 : oks m_X7_plant.1 m_X7_plant.2.2.1 30 [(.iload_n 1, 1, (0, 0, 0)), (.iconst (-1), 1, (0, 0, 0))] = true ∧ plen 30 [(.iload_n 1, 1, (0, 0, 0)), (.iconst (-1), 1, (0, 0, 0))] = 32 := by decide +kernel
theorem ok_X7_plant_35_5 : oks m_X7_plant.1 m_X7_plant.2.2.1 35 [(.aload_n 0, 1, (0, 0, 0)), (.getfield 41, 3, (7, 12, 0)), (.aload_n 0, 1, (0, 0, 0)), (.getfield 38, 3, (7, 11, 0)), (.iload_n 1, 1, (0, 0, 0))] = true ∧ plen 35 [(.aload_n 0, 1, (0, 0, 0)), (.getfield 41, 3, (7, 12, 0)), (.aload_n 0, 1, (0, 0, 0)), (.getfield 38, 3, (7, 11, 0)), (.iload_n 1, 1, (0, 0, 0))] = 44 := by decide +kernel
theorem ok_X7_plant_47_3 : oks m_X7_plant.1 m_X7_plant.2.2.1 47 [(.iload_n 2, 1, (0, 0, 0)), (.iadd, 1, (0, 0, 0)), (.iload_n 3, 1, (0, 0, 0))] = true ∧ plen 47 [(.iload_n 2, 1, (0, 0, 0)), (.iadd, 1, (0, 0, 0)), (.iload_n 3, 1, (0, 0, 0))] = 50 := by decide +kernel
theorem ok_X7_plant_53_2 : oks m_X7_plant.1 m_X7_plant.2.2.1 53 [(.iload_n 1, 1, (0, 0, 0)), (.iconst (-1), 1, (0, 0, 0))] = true ∧ plen 53 [(.iload_n 1, 1, (0, 0, 0)), (.iconst (-1), 1, (0, 0, 0))] = 55 := by decide +kernel
theorem ok_X7_plant_58_2 : oks m_X7_plant.1 m_X7_plant.2.2.1 58 [(.aload_n 0, 1, (0, 0, 0)), (.iload_n 1, 1, (0, 0, 0))] = true ∧ plen 58 [(.aload_n 0, 1, (0, 0, 0)), (.iload_n 1, 1, (0, 0, 0))] = 60 := by decide +kernel
theorem ok_X7_plant_63_1 : oks m_X7_plant.1 m_X7_plant.2.2.1 63 [(.iconst 5, 1, (0, 0, 0))] = true ∧ plen 63 [(.iconst 5, 1, (0, 0, 0))] = 64 := by decide +kernel
theorem ok_X7_plant_67_4 : oks m_X7_plant.1 m_X7_plant.2.2.1 67 [(.aload_n 0, 1, (0, 0, 0)), (.getfield 50, 3, (7, 0, 0)), (.aload_n 0, 1, (0, 0, 0)), (.iload_n 1, 1, (0, 0, 0))] = true ∧ plen 67 [(.aload_n 0, 1, (0, 0, 0)), (.getfield 50, 3, (7, 0, 0)), (.aload_n 0, 1, (0, 0, 0)), (.iload_n 1, 1, (0, 0, 0))] = 73 := by decide +kernel
theorem ok_X7_plant_76_1 : oks m_X7_plant.1 m_X7_plant.2.2.1 76 [(.iload_n 2, 1, (0, 0, 0))] = true ∧ plen 76 [(.iload_n 2, 1, (0, 0, 0))] = 77 := by decide +kernel
theorem ok_X7_plant_83_2 : oks m_X7_plant.1 m_X7_plant.2.2.1 83 [(.aload_n 0, 1, (0, 0, 0)), (.getfield 50, 3, (7, 0, 0))] = true ∧ plen 83 [(.aload_n 0, 1, (0, 0, 0)), (.getfield 50, 3, (7, 0, 0))] = 87 := by decide +kernel
theorem ok_X7_plant_90_2 : oks m_X7_plant.1 m_X7_plant.2.2.1 90 [(.aload_n 0, 1, (0, 0, 0)), (.getfield 58, 3, (7, 2, 0))] = true ∧ plen 90 [(.aload_n 0, 1, (0, 0, 0)), (.getfield 58, 3, (7, 2, 0))] = 94 := by decide +kernel
theorem ok_X7_plant_97_2 : oks m_X7_plant.1 m_X7_plant.2.2.1 97 [(.aload_n 0, 1, (0, 0, 0)), (.getfield 50, 3, (7, 0, 0))] = true ∧ plen 97 [(.aload_n 0, 1, (0, 0, 0)), (.getfield 50, 3, (7, 0, 0))] = 101 := by decide +kernel
theorem ok_X7_plant_104_1 : oks m_X7_plant.1 m_X7_plant.2.2.1 104 [(.iconst 3, 1, (0, 0, 0))] = true ∧ plen 104 [(.iconst 3, 1, (0, 0, 0))] = 105 := by decide +kernel
theorem ok_X7_plant_108_2 : oks m_X7_plant.1 m_X7_plant.2.2.1 108 [(.aload_n 0, 1, (0, 0, 0)), (.getfield 50, 3, (7, 0, 0))] = true ∧ plen 108 [(.aload_n 0, 1, (0, 0, 0)), (.getfield 50, 3, (7, 0, 0))] = 112 := by decide +kernel
theorem ok_X7_plant_115_2 : oks m_X7_plant.1 m_X7_plant.2.2.1 115 [(.aload_n 0, 1, (0, 0, 0)), (.iload_n 3, 1, (0, 0, 0))] = true ∧ plen 115 [(.aload_n 0, 1, (0, 0, 0)), (.iload_n 3, 1, (0, 0, 0))] = 117 := by decide +kernel
theorem ok_X7_plant_120_1 : oks m_X7_plant.1 m_X7_plant.2.2.1 120 [(.iload_n 3, 1, (0, 0, 0))] = true ∧ plen 120 [(.iload_n 3, 1, (0, 0, 0))] = 121 := by decide +kernel
def B_X7_plant_115 (t : Nat) (x3 : Int) (σ : Sg) : Option (Int × Sg) :=
bnd (F_X7_keepNext t x3 σ) fun q11 =>
some (x3, q11)
def B_X7_plant_83 (t : Nat) (x3 : Int) (σ : Sg) : Option (Int × Sg) :=
(F_X3_seek σ).bind fun q9 =>
if (q9 t 2) = 0 then
B_X7_plant_115 t x3 q9
else
if (F_X3_sort q9) = 3 then
(F_X3_seekMost q9).bind fun q13 =>
B_X7_plant_115 t x3 q13
else
B_X7_plant_115 t x3 q9
def B_X7_plant_53 (t : Nat) (x1 : Int) (x2 : Int) (x3 : Int) (σ : Sg) : Option (Int × Sg) :=
if x1 = (-1) then
B_X7_plant_83 t x3 σ
else
if (F_X7_sortOf t x1 σ) = 5 then
bnd (F_X3_seekGuard (F_X7_whatOf t x1 σ) x2 σ) fun q15 =>
if q15.1 = true then
B_X7_plant_115 t x3 q15.2
else
B_X7_plant_83 t x3 q15.2
else
B_X7_plant_83 t x3 σ
def F_X7_plant (t : Nat) (a1 : Int) (a2 : Int) (σ : Sg) : Option (Int × Sg) :=
bnd (up2 σ t 4 (wrap ((σ t 4) + 1))) fun s1 =>
bnd (σ t 4) fun v3 =>
bnd (wrD s1 (t + 4) 500 v3 a1) fun s5 =>
bnd (wrD s5 (t + 5) 500 v3 0) fun s7 =>
if a1 = (-1) then
B_X7_plant_53 t a1 a2 v3 s7
else
bnd (wrD s7 (t + 3) 500 (wrap ((rdD (-1) s7 (t + 2) 500 a1) + a2)) v3) fun s17 =>
B_X7_plant_53 t a1 a2 v3 s17
theorem lk_X7_plant_43 (l : Launch) (d : Nat) (hd : 107 ≤ d) (a1 : Int) (a2 : Int) (σ : Sg) (q : (Int × Sg)) (h : F_X7_plant 43 a1 a2 σ = some q) : CT l d m_X7_plant.2.1 m_X7_plant.2.2.1 m_X7_plant.2.2.2.1 m_X7_plant.2.2.2.2 [.inr 43, .inl a1, .inl a2] (LAYC, σ) (some (.inl q.1)) (LAYC, q.2) := by
  obtain ⟨d, rfl⟩ : ∃ e, d = e + 1 := ⟨d - 1, by omega⟩
  have key : Go l m_X7_plant (d + 1) LAYC (.inl (some (.inl q.1))) q.2 0 [some (.inr 43), some (.inl a1), some (.inl a2), none] [] σ := by
    unfold F_X7_plant at h
    have hB_X7_plant_115 : ∀ (x3 : Int) (σ : Sg), B_X7_plant_115 43 x3 σ = some q → Go l m_X7_plant (d + 1) LAYC (.inl (some (.inl q.1))) q.2 115 [some (.inr 43), none, none, some (.inl x3)] [] σ := by
      intro x3 σ h
      unfold B_X7_plant_115 at h
      refine go_ops ok_X7_plant_115_2 (L' := [some (.inr 43), none, none, some (.inl x3)]) (st' := [.inl x3, .inr 43]) (σ1 := σ) rfl ?_
      obtain ⟨q11, e12, h⟩ := bnd_inv h
      refine go_V (M1 := m_X7_keepNext) (as := [.inl x3]) (st := []) (k := 43) (ci := 7) dc_X7_plant_117 ln_7_116 im_X7_keepNext (by decide) rfl rfl mk_X7_keepNext rfl (Nat.le_of_ble_eq_true rfl) (Nat.le_refl _) (v := none) (σ1 := q11) (lk_X7_keepNext_43 l d (by omega) x3 σ q11 e12.symm) _ rfl ?_
      refine go_ops ok_X7_plant_120_1 (L' := [some (.inr 43), none, none, some (.inl x3)]) (st' := [.inl x3]) (σ1 := q11) rfl ?_
      have h9 := Option.some.inj h
      subst h9
      exact go_iret dc_X7_plant_121 rfl
    have hB_X7_plant_83 : ∀ (x3 : Int) (σ : Sg), B_X7_plant_83 43 x3 σ = some q → Go l m_X7_plant (d + 1) LAYC (.inl (some (.inl q.1))) q.2 83 [some (.inr 43), none, none, some (.inl x3)] [] σ := by
      intro x3 σ h
      unfold B_X7_plant_83 at h
      refine go_ops ok_X7_plant_83_2 (L' := [some (.inr 43), none, none, some (.inl x3)]) (st' := [.inr 37]) (σ1 := σ) rfl ?_
      obtain ⟨q9, e10, h⟩ := bind_inv h
      refine go_V (M1 := m_X3_seek) (as := []) (st := []) (k := 37) (ci := 3) dc_X7_plant_87 ln_7_106 im_X3_seek (by decide) rfl rfl mk_X3_seek rfl (Nat.le_of_ble_eq_true rfl) (Nat.le_refl _) (v := none) (σ1 := q9) (lk_X3_seek l d (by omega) σ q9 e10) _ rfl ?_
      refine go_ops ok_X7_plant_90_2 (L' := [some (.inr 43), none, none, some (.inl x3)]) (st' := [.inl (q9 43 2)]) (σ1 := q9) rfl ?_
      refine go_if_eq dc_X7_plant_94 (by rfl) (fun hc => ?_) (fun hc => ?_)
      · replace h := (if_pos hc).symm.trans h
        exact hB_X7_plant_115 x3 q9 h
      · replace h := (if_neg hc).symm.trans h
        refine go_ops ok_X7_plant_97_2 (L' := [some (.inr 43), none, none, some (.inl x3)]) (st' := [.inr 37]) (σ1 := q9) rfl ?_
        refine go_V (M1 := m_X3_sort) (as := []) (st := []) (k := 37) (ci := 3) dc_X7_plant_101 ln_7_109 im_X3_sort (by decide) rfl rfl mk_X3_sort rfl (Nat.le_of_ble_eq_true rfl) (Nat.le_refl _) (v := (some (.inl (F_X3_sort q9)))) (σ1 := q9) (lk_X3_sort l d (by omega) q9 _ rfl) _ rfl ?_
        refine go_ops ok_X7_plant_104_1 (L' := [some (.inr 43), none, none, some (.inl x3)]) (st' := [.inl 3, .inl (F_X3_sort q9)]) (σ1 := q9) rfl ?_
        refine go_icmp_ne dc_X7_plant_105 (by rfl) (fun hc => ?_) (fun hc => ?_)
        · replace h := (if_neg hc).symm.trans h
          exact hB_X7_plant_115 x3 q9 h
        · replace h := (if_pos hc).symm.trans h
          refine go_ops ok_X7_plant_108_2 (L' := [some (.inr 43), none, none, some (.inl x3)]) (st' := [.inr 37]) (σ1 := q9) rfl ?_
          obtain ⟨q13, e14, h⟩ := bind_inv h
          refine go_V (M1 := m_X3_seekMost) (as := []) (st := []) (k := 37) (ci := 3) dc_X7_plant_112 ln_7_113 im_X3_seekMost (by decide) rfl rfl mk_X3_seekMost rfl (Nat.le_of_ble_eq_true rfl) (Nat.le_refl _) (v := none) (σ1 := q13) (lk_X3_seekMost l d (by omega) q9 q13 e14) _ rfl ?_
          exact hB_X7_plant_115 x3 q13 h
    have hB_X7_plant_53 : ∀ (x1 : Int) (x2 : Int) (x3 : Int) (σ : Sg), B_X7_plant_53 43 x1 x2 x3 σ = some q → Go l m_X7_plant (d + 1) LAYC (.inl (some (.inl q.1))) q.2 53 [some (.inr 43), some (.inl x1), some (.inl x2), some (.inl x3)] [] σ := by
      intro x1 x2 x3 σ h
      unfold B_X7_plant_53 at h
      refine go_ops ok_X7_plant_53_2 (L' := [some (.inr 43), some (.inl x1), some (.inl x2), some (.inl x3)]) (st' := [.inl (-1), .inl x1]) (σ1 := σ) rfl ?_
      refine go_icmp_eq dc_X7_plant_55 (by rfl) (fun hc => ?_) (fun hc => ?_)
      · replace h := (if_pos hc).symm.trans h
        refine go_wk (L' := [some (.inr 43), none, none, some (.inl x3)]) ⟨rfl, rfl, trivial⟩ ?_
        exact hB_X7_plant_83 x3 σ h
      · replace h := (if_neg hc).symm.trans h
        refine go_ops ok_X7_plant_58_2 (L' := [some (.inr 43), some (.inl x1), some (.inl x2), some (.inl x3)]) (st' := [.inl x1, .inr 43]) (σ1 := σ) rfl ?_
        refine go_V (M1 := m_X7_sortOf) (as := [.inl x1]) (st := []) (k := 43) (ci := 7) dc_X7_plant_60 ln_7_65 im_X7_sortOf (by decide) rfl rfl mk_X7_sortOf rfl (Nat.le_of_ble_eq_true rfl) (Nat.le_refl _) (v := (some (.inl (F_X7_sortOf 43 x1 σ)))) (σ1 := σ) (lk_X7_sortOf_43 l d (by omega) x1 σ _ rfl) _ rfl ?_
        refine go_ops ok_X7_plant_63_1 (L' := [some (.inr 43), some (.inl x1), some (.inl x2), some (.inl x3)]) (st' := [.inl 5, .inl (F_X7_sortOf 43 x1 σ)]) (σ1 := σ) rfl ?_
        refine go_icmp_ne dc_X7_plant_64 (by rfl) (fun hc => ?_) (fun hc => ?_)
        · replace h := (if_neg hc).symm.trans h
          refine go_wk (L' := [some (.inr 43), none, none, some (.inl x3)]) ⟨rfl, rfl, trivial⟩ ?_
          exact hB_X7_plant_83 x3 σ h
        · replace h := (if_pos hc).symm.trans h
          refine go_ops ok_X7_plant_67_4 (L' := [some (.inr 43), some (.inl x1), some (.inl x2), some (.inl x3)]) (st' := [.inl x1, .inr 43, .inr 37]) (σ1 := σ) rfl ?_
          refine go_V (M1 := m_X7_whatOf) (as := [.inl x1]) (st := [.inr 37]) (k := 43) (ci := 7) dc_X7_plant_73 ln_7_71 im_X7_whatOf (by decide) rfl rfl mk_X7_whatOf rfl (Nat.le_of_ble_eq_true rfl) (Nat.le_refl _) (v := (some (.inl (F_X7_whatOf 43 x1 σ)))) (σ1 := σ) (lk_X7_whatOf_43 l d (by omega) x1 σ _ rfl) _ rfl ?_
          refine go_ops ok_X7_plant_76_1 (L' := [some (.inr 43), some (.inl x1), some (.inl x2), some (.inl x3)]) (st' := [.inl x2, .inl (F_X7_whatOf 43 x1 σ), .inr 37]) (σ1 := σ) rfl ?_
          obtain ⟨q15, e16, h⟩ := bnd_inv h
          refine go_V (M1 := m_X3_seekGuard) (as := [.inl (F_X7_whatOf 43 x1 σ), .inl x2]) (st := []) (k := 37) (ci := 3) dc_X7_plant_77 ln_7_102 im_X3_seekGuard (by decide) rfl rfl mk_X3_seekGuard rfl (Nat.le_of_ble_eq_true rfl) (Nat.le_refl _) (v := (some (.inl (b2i q15.1)))) (σ1 := q15.2) (lk_X3_seekGuard l d (by omega) (F_X7_whatOf 43 x1 σ) x2 σ q15 e16.symm) _ rfl ?_
          refine go_ifb_ne dc_X7_plant_80 (by rfl) (fun hc => ?_) (fun hc => ?_)
          · replace h := (if_pos hc).symm.trans h
            refine go_wk (L' := [some (.inr 43), none, none, some (.inl x3)]) ⟨rfl, rfl, trivial⟩ ?_
            exact hB_X7_plant_115 x3 q15.2 h
          · replace h := (if_neg hc).symm.trans h
            refine go_wk (L' := [some (.inr 43), none, none, some (.inl x3)]) ⟨rfl, rfl, trivial⟩ ?_
            exact hB_X7_plant_83 x3 q15.2 h
    obtain ⟨s1, e2, h⟩ := bnd_inv h
    obtain ⟨v3, e4, h⟩ := bnd_inv h
    refine go_ops ok_X7_plant_0_12 (L' := [some (.inr 43), some (.inl a1), some (.inl a2), some (.inl v3)]) (st' := [.inl a1, .inl v3, .inr 47]) (σ1 := s1) (by subst e4; subst e2; rfl) ?_
    obtain ⟨s5, e6, h⟩ := bnd_inv h
    refine go_SN (M1 := m_X10_put) (as := [.inr 47, .inl v3, .inl a1]) (st := []) dc_X7_plant_18 ln_7_94 sm_X10_put mk_X10_put rfl (Nat.le_of_ble_eq_true rfl) (Nat.le_refl _) (v := none) (σ1 := s5) (lk_X10_put l d LAYC 47 500 rfl _ _ s5 e6) _ rfl ?_
    refine go_ops ok_X7_plant_21_4 (L' := [some (.inr 43), some (.inl a1), some (.inl a2), some (.inl v3)]) (st' := [.inl 0, .inl v3, .inr 48]) (σ1 := s5) rfl ?_
    obtain ⟨s7, e8, h⟩ := bnd_inv h
    refine go_SN (M1 := m_X10_put) (as := [.inr 48, .inl v3, .inl 0]) (st := []) dc_X7_plant_27 ln_7_94 sm_X10_put mk_X10_put rfl (Nat.le_of_ble_eq_true rfl) (Nat.le_refl _) (v := none) (σ1 := s7) (lk_X10_put l d LAYC 48 500 rfl _ _ s7 e8) _ rfl ?_
    refine go_ops ok_X7_plant_30_2 (L' := [some (.inr 43), some (.inl a1), some (.inl a2), some (.inl v3)]) (st' := [.inl (-1), .inl a1]) (σ1 := s7) rfl ?_
    refine go_icmp_eq dc_X7_plant_32 (by rfl) (fun hc => ?_) (fun hc => ?_)
    · replace h := (if_pos hc).symm.trans h
      exact hB_X7_plant_53 a1 a2 v3 s7 h
    · replace h := (if_neg hc).symm.trans h
      refine go_ops ok_X7_plant_35_5 (L' := [some (.inr 43), some (.inl a1), some (.inl a2), some (.inl v3)]) (st' := [.inl a1, .inr 45, .inr 46]) (σ1 := s7) rfl ?_
      refine go_SN (M1 := m_X10_at) (as := [.inr 45, .inl a1]) (st := [.inr 46]) dc_X7_plant_44 ln_7_61 sm_X10_at mk_X10_at rfl (Nat.le_of_ble_eq_true rfl) (Nat.le_refl _) (v := some (.inl (rdD (-1) s7 45 500 a1))) (σ1 := s7) (lk_X10_at l d LAYC 45 500 rfl s7 _) _ rfl ?_
      refine go_ops ok_X7_plant_47_3 (L' := [some (.inr 43), some (.inl a1), some (.inl a2), some (.inl v3)]) (st' := [.inl v3, .inl (wrap ((rdD (-1) s7 45 500 a1) + a2)), .inr 46]) (σ1 := s7) rfl ?_
      obtain ⟨s17, e18, h⟩ := bnd_inv h
      refine go_SN (M1 := m_X10_put) (as := [.inr 46, .inl (wrap ((rdD (-1) s7 45 500 a1) + a2)), .inl v3]) (st := []) dc_X7_plant_50 ln_7_94 sm_X10_put mk_X10_put rfl (Nat.le_of_ble_eq_true rfl) (Nat.le_refl _) (v := none) (σ1 := s17) (lk_X10_put l d LAYC 46 500 rfl _ _ s17 e18) _ rfl ?_
      exact hB_X7_plant_53 a1 a2 v3 s17 h
  have hf := go_ct (as := [.inr 43, .inl a1, .inl a2]) mk_X7_plant (by rfl) (Nat.le_of_ble_eq_true rfl) key
  exact hf
theorem lk_X7_plant_49 (l : Launch) (d : Nat) (hd : 107 ≤ d) (a1 : Int) (a2 : Int) (σ : Sg) (q : (Int × Sg)) (h : F_X7_plant 49 a1 a2 σ = some q) : CT l d m_X7_plant.2.1 m_X7_plant.2.2.1 m_X7_plant.2.2.2.1 m_X7_plant.2.2.2.2 [.inr 49, .inl a1, .inl a2] (LAYC, σ) (some (.inl q.1)) (LAYC, q.2) := by
  obtain ⟨d, rfl⟩ : ∃ e, d = e + 1 := ⟨d - 1, by omega⟩
  have key : Go l m_X7_plant (d + 1) LAYC (.inl (some (.inl q.1))) q.2 0 [some (.inr 49), some (.inl a1), some (.inl a2), none] [] σ := by
    unfold F_X7_plant at h
    have hB_X7_plant_115 : ∀ (x3 : Int) (σ : Sg), B_X7_plant_115 49 x3 σ = some q → Go l m_X7_plant (d + 1) LAYC (.inl (some (.inl q.1))) q.2 115 [some (.inr 49), none, none, some (.inl x3)] [] σ := by
      intro x3 σ h
      unfold B_X7_plant_115 at h
      refine go_ops ok_X7_plant_115_2 (L' := [some (.inr 49), none, none, some (.inl x3)]) (st' := [.inl x3, .inr 49]) (σ1 := σ) rfl ?_
      obtain ⟨q11, e12, h⟩ := bnd_inv h
      refine go_V (M1 := m_X7_keepNext) (as := [.inl x3]) (st := []) (k := 49) (ci := 7) dc_X7_plant_117 ln_7_116 im_X7_keepNext (by decide) rfl rfl mk_X7_keepNext rfl (Nat.le_of_ble_eq_true rfl) (Nat.le_refl _) (v := none) (σ1 := q11) (lk_X7_keepNext_49 l d (by omega) x3 σ q11 e12.symm) _ rfl ?_
      refine go_ops ok_X7_plant_120_1 (L' := [some (.inr 49), none, none, some (.inl x3)]) (st' := [.inl x3]) (σ1 := q11) rfl ?_
      have h9 := Option.some.inj h
      subst h9
      exact go_iret dc_X7_plant_121 rfl
    have hB_X7_plant_83 : ∀ (x3 : Int) (σ : Sg), B_X7_plant_83 49 x3 σ = some q → Go l m_X7_plant (d + 1) LAYC (.inl (some (.inl q.1))) q.2 83 [some (.inr 49), none, none, some (.inl x3)] [] σ := by
      intro x3 σ h
      unfold B_X7_plant_83 at h
      refine go_ops ok_X7_plant_83_2 (L' := [some (.inr 49), none, none, some (.inl x3)]) (st' := [.inr 37]) (σ1 := σ) rfl ?_
      obtain ⟨q9, e10, h⟩ := bind_inv h
      refine go_V (M1 := m_X3_seek) (as := []) (st := []) (k := 37) (ci := 3) dc_X7_plant_87 ln_7_106 im_X3_seek (by decide) rfl rfl mk_X3_seek rfl (Nat.le_of_ble_eq_true rfl) (Nat.le_refl _) (v := none) (σ1 := q9) (lk_X3_seek l d (by omega) σ q9 e10) _ rfl ?_
      refine go_ops ok_X7_plant_90_2 (L' := [some (.inr 49), none, none, some (.inl x3)]) (st' := [.inl (q9 49 2)]) (σ1 := q9) rfl ?_
      refine go_if_eq dc_X7_plant_94 (by rfl) (fun hc => ?_) (fun hc => ?_)
      · replace h := (if_pos hc).symm.trans h
        exact hB_X7_plant_115 x3 q9 h
      · replace h := (if_neg hc).symm.trans h
        refine go_ops ok_X7_plant_97_2 (L' := [some (.inr 49), none, none, some (.inl x3)]) (st' := [.inr 37]) (σ1 := q9) rfl ?_
        refine go_V (M1 := m_X3_sort) (as := []) (st := []) (k := 37) (ci := 3) dc_X7_plant_101 ln_7_109 im_X3_sort (by decide) rfl rfl mk_X3_sort rfl (Nat.le_of_ble_eq_true rfl) (Nat.le_refl _) (v := (some (.inl (F_X3_sort q9)))) (σ1 := q9) (lk_X3_sort l d (by omega) q9 _ rfl) _ rfl ?_
        refine go_ops ok_X7_plant_104_1 (L' := [some (.inr 49), none, none, some (.inl x3)]) (st' := [.inl 3, .inl (F_X3_sort q9)]) (σ1 := q9) rfl ?_
        refine go_icmp_ne dc_X7_plant_105 (by rfl) (fun hc => ?_) (fun hc => ?_)
        · replace h := (if_neg hc).symm.trans h
          exact hB_X7_plant_115 x3 q9 h
        · replace h := (if_pos hc).symm.trans h
          refine go_ops ok_X7_plant_108_2 (L' := [some (.inr 49), none, none, some (.inl x3)]) (st' := [.inr 37]) (σ1 := q9) rfl ?_
          obtain ⟨q13, e14, h⟩ := bind_inv h
          refine go_V (M1 := m_X3_seekMost) (as := []) (st := []) (k := 37) (ci := 3) dc_X7_plant_112 ln_7_113 im_X3_seekMost (by decide) rfl rfl mk_X3_seekMost rfl (Nat.le_of_ble_eq_true rfl) (Nat.le_refl _) (v := none) (σ1 := q13) (lk_X3_seekMost l d (by omega) q9 q13 e14) _ rfl ?_
          exact hB_X7_plant_115 x3 q13 h
    have hB_X7_plant_53 : ∀ (x1 : Int) (x2 : Int) (x3 : Int) (σ : Sg), B_X7_plant_53 49 x1 x2 x3 σ = some q → Go l m_X7_plant (d + 1) LAYC (.inl (some (.inl q.1))) q.2 53 [some (.inr 49), some (.inl x1), some (.inl x2), some (.inl x3)] [] σ := by
      intro x1 x2 x3 σ h
      unfold B_X7_plant_53 at h
      refine go_ops ok_X7_plant_53_2 (L' := [some (.inr 49), some (.inl x1), some (.inl x2), some (.inl x3)]) (st' := [.inl (-1), .inl x1]) (σ1 := σ) rfl ?_
      refine go_icmp_eq dc_X7_plant_55 (by rfl) (fun hc => ?_) (fun hc => ?_)
      · replace h := (if_pos hc).symm.trans h
        refine go_wk (L' := [some (.inr 49), none, none, some (.inl x3)]) ⟨rfl, rfl, trivial⟩ ?_
        exact hB_X7_plant_83 x3 σ h
      · replace h := (if_neg hc).symm.trans h
        refine go_ops ok_X7_plant_58_2 (L' := [some (.inr 49), some (.inl x1), some (.inl x2), some (.inl x3)]) (st' := [.inl x1, .inr 49]) (σ1 := σ) rfl ?_
        refine go_V (M1 := m_X7_sortOf) (as := [.inl x1]) (st := []) (k := 49) (ci := 7) dc_X7_plant_60 ln_7_65 im_X7_sortOf (by decide) rfl rfl mk_X7_sortOf rfl (Nat.le_of_ble_eq_true rfl) (Nat.le_refl _) (v := (some (.inl (F_X7_sortOf 49 x1 σ)))) (σ1 := σ) (lk_X7_sortOf_49 l d (by omega) x1 σ _ rfl) _ rfl ?_
        refine go_ops ok_X7_plant_63_1 (L' := [some (.inr 49), some (.inl x1), some (.inl x2), some (.inl x3)]) (st' := [.inl 5, .inl (F_X7_sortOf 49 x1 σ)]) (σ1 := σ) rfl ?_
        refine go_icmp_ne dc_X7_plant_64 (by rfl) (fun hc => ?_) (fun hc => ?_)
        · replace h := (if_neg hc).symm.trans h
          refine go_wk (L' := [some (.inr 49), none, none, some (.inl x3)]) ⟨rfl, rfl, trivial⟩ ?_
          exact hB_X7_plant_83 x3 σ h
        · replace h := (if_pos hc).symm.trans h
          refine go_ops ok_X7_plant_67_4 (L' := [some (.inr 49), some (.inl x1), some (.inl x2), some (.inl x3)]) (st' := [.inl x1, .inr 49, .inr 37]) (σ1 := σ) rfl ?_
          refine go_V (M1 := m_X7_whatOf) (as := [.inl x1]) (st := [.inr 37]) (k := 49) (ci := 7) dc_X7_plant_73 ln_7_71 im_X7_whatOf (by decide) rfl rfl mk_X7_whatOf rfl (Nat.le_of_ble_eq_true rfl) (Nat.le_refl _) (v := (some (.inl (F_X7_whatOf 49 x1 σ)))) (σ1 := σ) (lk_X7_whatOf_49 l d (by omega) x1 σ _ rfl) _ rfl ?_
          refine go_ops ok_X7_plant_76_1 (L' := [some (.inr 49), some (.inl x1), some (.inl x2), some (.inl x3)]) (st' := [.inl x2, .inl (F_X7_whatOf 49 x1 σ), .inr 37]) (σ1 := σ) rfl ?_
          obtain ⟨q15, e16, h⟩ := bnd_inv h
          refine go_V (M1 := m_X3_seekGuard) (as := [.inl (F_X7_whatOf 49 x1 σ), .inl x2]) (st := []) (k := 37) (ci := 3) dc_X7_plant_77 ln_7_102 im_X3_seekGuard (by decide) rfl rfl mk_X3_seekGuard rfl (Nat.le_of_ble_eq_true rfl) (Nat.le_refl _) (v := (some (.inl (b2i q15.1)))) (σ1 := q15.2) (lk_X3_seekGuard l d (by omega) (F_X7_whatOf 49 x1 σ) x2 σ q15 e16.symm) _ rfl ?_
          refine go_ifb_ne dc_X7_plant_80 (by rfl) (fun hc => ?_) (fun hc => ?_)
          · replace h := (if_pos hc).symm.trans h
            refine go_wk (L' := [some (.inr 49), none, none, some (.inl x3)]) ⟨rfl, rfl, trivial⟩ ?_
            exact hB_X7_plant_115 x3 q15.2 h
          · replace h := (if_neg hc).symm.trans h
            refine go_wk (L' := [some (.inr 49), none, none, some (.inl x3)]) ⟨rfl, rfl, trivial⟩ ?_
            exact hB_X7_plant_83 x3 q15.2 h
    obtain ⟨s1, e2, h⟩ := bnd_inv h
    obtain ⟨v3, e4, h⟩ := bnd_inv h
    refine go_ops ok_X7_plant_0_12 (L' := [some (.inr 49), some (.inl a1), some (.inl a2), some (.inl v3)]) (st' := [.inl a1, .inl v3, .inr 53]) (σ1 := s1) (by subst e4; subst e2; rfl) ?_
    obtain ⟨s5, e6, h⟩ := bnd_inv h
    refine go_SN (M1 := m_X10_put) (as := [.inr 53, .inl v3, .inl a1]) (st := []) dc_X7_plant_18 ln_7_94 sm_X10_put mk_X10_put rfl (Nat.le_of_ble_eq_true rfl) (Nat.le_refl _) (v := none) (σ1 := s5) (lk_X10_put l d LAYC 53 500 rfl _ _ s5 e6) _ rfl ?_
    refine go_ops ok_X7_plant_21_4 (L' := [some (.inr 49), some (.inl a1), some (.inl a2), some (.inl v3)]) (st' := [.inl 0, .inl v3, .inr 54]) (σ1 := s5) rfl ?_
    obtain ⟨s7, e8, h⟩ := bnd_inv h
    refine go_SN (M1 := m_X10_put) (as := [.inr 54, .inl v3, .inl 0]) (st := []) dc_X7_plant_27 ln_7_94 sm_X10_put mk_X10_put rfl (Nat.le_of_ble_eq_true rfl) (Nat.le_refl _) (v := none) (σ1 := s7) (lk_X10_put l d LAYC 54 500 rfl _ _ s7 e8) _ rfl ?_
    refine go_ops ok_X7_plant_30_2 (L' := [some (.inr 49), some (.inl a1), some (.inl a2), some (.inl v3)]) (st' := [.inl (-1), .inl a1]) (σ1 := s7) rfl ?_
    refine go_icmp_eq dc_X7_plant_32 (by rfl) (fun hc => ?_) (fun hc => ?_)
    · replace h := (if_pos hc).symm.trans h
      exact hB_X7_plant_53 a1 a2 v3 s7 h
    · replace h := (if_neg hc).symm.trans h
      refine go_ops ok_X7_plant_35_5 (L' := [some (.inr 49), some (.inl a1), some (.inl a2), some (.inl v3)]) (st' := [.inl a1, .inr 51, .inr 52]) (σ1 := s7) rfl ?_
      refine go_SN (M1 := m_X10_at) (as := [.inr 51, .inl a1]) (st := [.inr 52]) dc_X7_plant_44 ln_7_61 sm_X10_at mk_X10_at rfl (Nat.le_of_ble_eq_true rfl) (Nat.le_refl _) (v := some (.inl (rdD (-1) s7 51 500 a1))) (σ1 := s7) (lk_X10_at l d LAYC 51 500 rfl s7 _) _ rfl ?_
      refine go_ops ok_X7_plant_47_3 (L' := [some (.inr 49), some (.inl a1), some (.inl a2), some (.inl v3)]) (st' := [.inl v3, .inl (wrap ((rdD (-1) s7 51 500 a1) + a2)), .inr 52]) (σ1 := s7) rfl ?_
      obtain ⟨s17, e18, h⟩ := bnd_inv h
      refine go_SN (M1 := m_X10_put) (as := [.inr 52, .inl (wrap ((rdD (-1) s7 51 500 a1) + a2)), .inl v3]) (st := []) dc_X7_plant_50 ln_7_94 sm_X10_put mk_X10_put rfl (Nat.le_of_ble_eq_true rfl) (Nat.le_refl _) (v := none) (σ1 := s17) (lk_X10_put l d LAYC 52 500 rfl _ _ s17 e18) _ rfl ?_
      exact hB_X7_plant_53 a1 a2 v3 s17 h
  have hf := go_ct (as := [.inr 49, .inl a1, .inl a2]) mk_X7_plant (by rfl) (Nat.le_of_ble_eq_true rfl) key
  exact hf
theorem dc_X7_learn_2 : decode m_X7_learn.2.2.1 2 = .ok (.invokevirtual 71, 3) := by decide +kernel
theorem dc_X7_learn_8 : decode m_X7_learn.2.2.1 8 = .ok (.invokevirtual 65, 3) := by decide +kernel
theorem dc_X7_learn_11 : decode m_X7_learn.2.2.1 11 = .ok (.tableswitch 75 3 5 #[25, 37, 54], 25) := by decide +kernel
theorem dc_X7_learn_42 : decode m_X7_learn.2.2.1 42 = .ok (.invokevirtual 129, 3) := by decide +kernel
theorem dc_X7_learn_45 : decode m_X7_learn.2.2.1 45 = .ok (.goto 41, 3) := by decide +kernel
theorem dc_X7_learn_54 : decode m_X7_learn.2.2.1 54 = .ok (.invokevirtual 132, 3) := by decide +kernel
theorem dc_X7_learn_59 : decode m_X7_learn.2.2.1 59 = .ok (.invokevirtual 135, 3) := by decide +kernel
theorem dc_X7_learn_62 : decode m_X7_learn.2.2.1 62 = .ok (.goto 24, 3) := by decide +kernel
theorem dc_X7_learn_72 : decode m_X7_learn.2.2.1 72 = .ok (.if_icmp .ne 7, 3) := by decide +kernel
theorem dc_X7_learn_76 : decode m_X7_learn.2.2.1 76 = .ok (.goto 4, 3) := by decide +kernel
theorem dc_X7_learn_80 : decode m_X7_learn.2.2.1 80 = .ok (.invokevirtual 139, 3) := by decide +kernel
theorem dc_X7_learn_83 : decode m_X7_learn.2.2.1 83 = .ok (.goto 3, 3) := by decide +kernel
theorem dc_X7_learn_86 : decode m_X7_learn.2.2.1 86 = .ok (.return_, 1) := by decide +kernel
theorem ok_X7_learn_0_2 : oks m_X7_learn.1 m_X7_learn.2.2.1 0 [(.aload_n 0, 1, (0, 0, 0)), (.iload_n 1, 1, (0, 0, 0))] = true ∧ plen 0 [(.aload_n 0, 1, (0, 0, 0)), (.iload_n 1, 1, (0, 0, 0))] = 2 := by decide +kernel
theorem ok_X7_learn_5_3 : oks m_X7_learn.1 m_X7_learn.2.2.1 5 [(.istore_n 3, 1, (0, 0, 0)), (.aload_n 0, 1, (0, 0, 0)), (.iload_n 1, 1, (0, 0, 0))] = true ∧ plen 5 [(.istore_n 3, 1, (0, 0, 0)), (.aload_n 0, 1, (0, 0, 0)), (.iload_n 1, 1, (0, 0, 0))] = 8 := by decide +kernel
theorem ok_X7_learn_36_4 : oks m_X7_learn.1 m_X7_learn.2.2.1 36 [(.aload_n 0, 1, (0, 0, 0)), (.getfield 50, 3, (7, 0, 0)), (.iload_n 3, 1, (0, 0, 0)), (.iload_n 2, 1, (0, 0, 0))] = true ∧ plen 36 [(.aload_n 0, 1, (0, 0, 0)), (.getfield 50, 3, (7, 0, 0)), (.iload_n 3, 1, (0, 0, 0)), (.iload_n 2, 1, (0, 0, 0))] = 42 := by decide +kernel
theorem ok_X7_learn_48_4 : oks m_X7_learn.1 m_X7_learn.2.2.1 48 [(.aload_n 0, 1, (0, 0, 0)), (.getfield 50, 3, (7, 0, 0)), (.aload_n 0, 1, (0, 0, 0)), (.iload_n 1, 1, (0, 0, 0))] = true ∧ plen 48 [(.aload_n 0, 1, (0, 0, 0)), (.getfield 50, 3, (7, 0, 0)), (.aload_n 0, 1, (0, 0, 0)), (.iload_n 1, 1, (0, 0, 0))] = 54 := by decide +kernel
theorem ok_X7_learn_57_2 : oks m_X7_learn.1 m_X7_learn.2.2.1 57 [(.iload_n 3, 1, (0, 0, 0)), (.iload_n 2, 1, (0, 0, 0))] = true ∧ plen 57 [(.iload_n 3, 1, (0, 0, 0)), (.iload_n 2, 1, (0, 0, 0))] = 59 := by decide +kernel
theorem ok_X7_learn_65_5 : oks m_X7_learn.1 m_X7_learn.2.2.1 65 [(.aload_n 0, 1, (0, 0, 0)), (.getfield 50, 3, (7, 0, 0)), (.iload_n 3, 1, (0, 0, 0)), (.iload_n 2, 1, (0, 0, 0)), (.iconst 1, 1, (0, 0, 0))] = true ∧ plen 65 [(.aload_n 0, 1, (0, 0, 0)), (.getfield 50, 3, (7, 0, 0)), (.iload_n 3, 1, (0, 0, 0)), (.iload_n 2, 1, (0, 0, 0)), (.iconst 1, 1, (0, 0, 0))] = 72 := by decide +kernel
theorem ok_X7_learn_75_1 : oks m_X7_learn.1 m_X7_learn.2.2.1 75 [(.iconst 1, 1, (0, 0, 0))] = true ∧ plen 75 [(.iconst 1, 1, (0, 0, 0))] = 76 := by decide +kernel
theorem ok_X7_learn_79_1 : oks m_X7_learn.1 m_X7_learn.2.2.1 79 [(.iconst 0, 1, (0, 0, 0))] = true ∧ plen 79 [(.iconst 0, 1, (0, 0, 0))] = 80 := by decide +kernel
def B_X7_learn_80 (t : Nat) (y0 : Bool) (y1 : Int) (σ : Sg) : Sg :=
bnd (F_X3_learnFailed y1 y0 σ) fun q9 =>
q9
def F_X7_learn (t : Nat) (a1 : Int) (a2 : Int) (σ : Sg) : Sg :=
bnd (F_X7_whatOf t a1 σ) fun v1 =>
if (F_X7_sortOf t a1 σ) = 3 then
bnd (F_X3_learnHead v1 a2 σ) fun q3 =>
q3
else if (F_X7_sortOf t a1 σ) = 4 then
bnd (F_X3_learnGiven (F_X7_whichOf t a1 σ) v1 a2 σ) fun q6 =>
q6
else if (F_X7_sortOf t a1 σ) = 5 then
if a2 = 1 then
B_X7_learn_80 t true v1 σ
else
B_X7_learn_80 t false v1 σ
else σ
theorem lk_X7_learn_43 (l : Launch) (d : Nat) (hd : 3 ≤ d) (a1 : Int) (a2 : Int) (σ : Sg) (q : Sg) (h : F_X7_learn 43 a1 a2 σ = q) : CT l d m_X7_learn.2.1 m_X7_learn.2.2.1 m_X7_learn.2.2.2.1 m_X7_learn.2.2.2.2 [.inr 43, .inl a1, .inl a2] (LAYC, σ) none (LAYC, q) := by
  obtain ⟨d, rfl⟩ : ∃ e, d = e + 1 := ⟨d - 1, by omega⟩
  have key : Go l m_X7_learn (d + 1) LAYC (.inl none) q 0 [some (.inr 43), some (.inl a1), some (.inl a2), none] [] σ := by
    unfold F_X7_learn at h
    have hB_X7_learn_80 : ∀ (y0 : Bool) (y1 : Int) (σ : Sg), B_X7_learn_80 43 y0 y1 σ = q → Go l m_X7_learn (d + 1) LAYC (.inl none) q 80 [none, none, none, none] [.inl (b2i y0), .inl y1, .inr 37] σ := by
      intro y0 y1 σ h
      unfold B_X7_learn_80 at h
      obtain ⟨q9, e10, h⟩ := bnd_inv h
      refine go_V (M1 := m_X3_learnFailed) (as := [.inl y1, .inl (b2i y0)]) (st := []) (k := 37) (ci := 3) dc_X7_learn_80 ln_7_139 im_X3_learnFailed (by decide) rfl rfl mk_X3_learnFailed rfl (Nat.le_of_ble_eq_true rfl) (Nat.le_refl _) (v := none) (σ1 := q9) (lk_X3_learnFailed l d (by omega) y1 y0 σ q9 e10.symm) _ rfl ?_
      refine go_goto dc_X7_learn_83 (by rfl) ?_
      subst h
      exact go_vret dc_X7_learn_86 rfl
    refine go_ops ok_X7_learn_0_2 (L' := [some (.inr 43), some (.inl a1), some (.inl a2), none]) (st' := [.inl a1, .inr 43]) (σ1 := σ) rfl ?_
    refine go_V (M1 := m_X7_whatOf) (as := [.inl a1]) (st := []) (k := 43) (ci := 7) dc_X7_learn_2 ln_7_71 im_X7_whatOf (by decide) rfl rfl mk_X7_whatOf rfl (Nat.le_of_ble_eq_true rfl) (Nat.le_refl _) (v := (some (.inl (F_X7_whatOf 43 a1 σ)))) (σ1 := σ) (lk_X7_whatOf_43 l d (by omega) a1 σ _ rfl) _ rfl ?_
    obtain ⟨v1, e2, h⟩ := bnd_inv h
    refine go_ops ok_X7_learn_5_3 (L' := [some (.inr 43), some (.inl a1), some (.inl a2), some (.inl v1)]) (st' := [.inl a1, .inr 43]) (σ1 := σ) (by subst e2; rfl) ?_
    refine go_V (M1 := m_X7_sortOf) (as := [.inl a1]) (st := []) (k := 43) (ci := 7) dc_X7_learn_8 ln_7_65 im_X7_sortOf (by decide) rfl rfl mk_X7_sortOf rfl (Nat.le_of_ble_eq_true rfl) (Nat.le_refl _) (v := (some (.inl (F_X7_sortOf 43 a1 σ)))) (σ1 := σ) (lk_X7_sortOf_43 l d (by omega) a1 σ _ rfl) _ rfl ?_
    rcases Decidable.em ((F_X7_sortOf 43 a1 σ) = 3) with hs5 | hs5
    · replace h := (if_pos hs5).symm.trans h
      refine go_tsw (off := 25) dc_X7_learn_11 (by decide) (by decide) (tsk hs5 (by decide +kernel)) (by rfl) ?_
      refine go_ops ok_X7_learn_36_4 (L' := [some (.inr 43), some (.inl a1), some (.inl a2), some (.inl v1)]) (st' := [.inl a2, .inl v1, .inr 37]) (σ1 := σ) rfl ?_
      obtain ⟨q3, e4, h⟩ := bnd_inv h
      refine go_V (M1 := m_X3_learnHead) (as := [.inl v1, .inl a2]) (st := []) (k := 37) (ci := 3) dc_X7_learn_42 ln_7_129 im_X3_learnHead (by decide) rfl rfl mk_X3_learnHead rfl (Nat.le_of_ble_eq_true rfl) (Nat.le_refl _) (v := none) (σ1 := q3) (lk_X3_learnHead l d (by omega) v1 a2 σ q3 e4.symm) _ rfl ?_
      refine go_goto dc_X7_learn_45 (by rfl) ?_
      subst h
      exact go_vret dc_X7_learn_86 rfl
    replace h := (if_neg hs5).symm.trans h
    rcases Decidable.em ((F_X7_sortOf 43 a1 σ) = 4) with hs8 | hs8
    · replace h := (if_pos hs8).symm.trans h
      refine go_tsw (off := 37) dc_X7_learn_11 (by decide) (by decide) (tsk hs8 (by decide +kernel)) (by rfl) ?_
      refine go_ops ok_X7_learn_48_4 (L' := [some (.inr 43), some (.inl a1), some (.inl a2), some (.inl v1)]) (st' := [.inl a1, .inr 43, .inr 37]) (σ1 := σ) rfl ?_
      refine go_V (M1 := m_X7_whichOf) (as := [.inl a1]) (st := [.inr 37]) (k := 43) (ci := 7) dc_X7_learn_54 ln_7_132 im_X7_whichOf (by decide) rfl rfl mk_X7_whichOf rfl (Nat.le_of_ble_eq_true rfl) (Nat.le_refl _) (v := (some (.inl (F_X7_whichOf 43 a1 σ)))) (σ1 := σ) (lk_X7_whichOf_43 l d (by omega) a1 σ _ rfl) _ rfl ?_
      refine go_ops ok_X7_learn_57_2 (L' := [some (.inr 43), some (.inl a1), some (.inl a2), some (.inl v1)]) (st' := [.inl a2, .inl v1, .inl (F_X7_whichOf 43 a1 σ), .inr 37]) (σ1 := σ) rfl ?_
      obtain ⟨q6, e7, h⟩ := bnd_inv h
      refine go_V (M1 := m_X3_learnGiven) (as := [.inl (F_X7_whichOf 43 a1 σ), .inl v1, .inl a2]) (st := []) (k := 37) (ci := 3) dc_X7_learn_59 ln_7_135 im_X3_learnGiven (by decide) rfl rfl mk_X3_learnGiven rfl (Nat.le_of_ble_eq_true rfl) (Nat.le_refl _) (v := none) (σ1 := q6) (lk_X3_learnGiven l d (by omega) (F_X7_whichOf 43 a1 σ) v1 a2 σ q6 e7.symm) _ rfl ?_
      refine go_goto dc_X7_learn_62 (by rfl) ?_
      subst h
      exact go_vret dc_X7_learn_86 rfl
    replace h := (if_neg hs8).symm.trans h
    rcases Decidable.em ((F_X7_sortOf 43 a1 σ) = 5) with hs11 | hs11
    · replace h := (if_pos hs11).symm.trans h
      refine go_tsw (off := 54) dc_X7_learn_11 (by decide) (by decide) (tsk hs11 (by decide +kernel)) (by rfl) ?_
      refine go_ops ok_X7_learn_65_5 (L' := [some (.inr 43), some (.inl a1), some (.inl a2), some (.inl v1)]) (st' := [.inl 1, .inl a2, .inl v1, .inr 37]) (σ1 := σ) rfl ?_
      refine go_icmp_ne dc_X7_learn_72 (by rfl) (fun hc => ?_) (fun hc => ?_)
      · replace h := (if_neg hc).symm.trans h
        refine go_ops ok_X7_learn_79_1 (L' := [some (.inr 43), some (.inl a1), some (.inl a2), some (.inl v1)]) (st' := [.inl 0, .inl v1, .inr 37]) (σ1 := σ) rfl ?_
        refine go_wk (L' := [none, none, none, none]) trivial ?_
        exact hB_X7_learn_80 false v1 σ h
      · replace h := (if_pos hc).symm.trans h
        refine go_ops ok_X7_learn_75_1 (L' := [some (.inr 43), some (.inl a1), some (.inl a2), some (.inl v1)]) (st' := [.inl 1, .inl v1, .inr 37]) (σ1 := σ) rfl ?_
        refine go_goto dc_X7_learn_76 (by rfl) ?_
        refine go_wk (L' := [none, none, none, none]) trivial ?_
        exact hB_X7_learn_80 true v1 σ h
    replace h := (if_neg hs11).symm.trans h
    refine go_tsw (off := 75) dc_X7_learn_11 (by decide) (by decide) (ts_d [3, 4, 5] (nn1 hs5 (nn1 hs8 (nn1 hs11 nn0))) (by decide +kernel)) (by rfl) ?_
    subst h
    exact go_vret dc_X7_learn_86 rfl
  have hf := go_ct (as := [.inr 43, .inl a1, .inl a2]) mk_X7_learn (by rfl) (Nat.le_of_ble_eq_true rfl) key
  exact hf
theorem lk_X7_learn_49 (l : Launch) (d : Nat) (hd : 3 ≤ d) (a1 : Int) (a2 : Int) (σ : Sg) (q : Sg) (h : F_X7_learn 49 a1 a2 σ = q) : CT l d m_X7_learn.2.1 m_X7_learn.2.2.1 m_X7_learn.2.2.2.1 m_X7_learn.2.2.2.2 [.inr 49, .inl a1, .inl a2] (LAYC, σ) none (LAYC, q) := by
  obtain ⟨d, rfl⟩ : ∃ e, d = e + 1 := ⟨d - 1, by omega⟩
  have key : Go l m_X7_learn (d + 1) LAYC (.inl none) q 0 [some (.inr 49), some (.inl a1), some (.inl a2), none] [] σ := by
    unfold F_X7_learn at h
    have hB_X7_learn_80 : ∀ (y0 : Bool) (y1 : Int) (σ : Sg), B_X7_learn_80 49 y0 y1 σ = q → Go l m_X7_learn (d + 1) LAYC (.inl none) q 80 [none, none, none, none] [.inl (b2i y0), .inl y1, .inr 37] σ := by
      intro y0 y1 σ h
      unfold B_X7_learn_80 at h
      obtain ⟨q9, e10, h⟩ := bnd_inv h
      refine go_V (M1 := m_X3_learnFailed) (as := [.inl y1, .inl (b2i y0)]) (st := []) (k := 37) (ci := 3) dc_X7_learn_80 ln_7_139 im_X3_learnFailed (by decide) rfl rfl mk_X3_learnFailed rfl (Nat.le_of_ble_eq_true rfl) (Nat.le_refl _) (v := none) (σ1 := q9) (lk_X3_learnFailed l d (by omega) y1 y0 σ q9 e10.symm) _ rfl ?_
      refine go_goto dc_X7_learn_83 (by rfl) ?_
      subst h
      exact go_vret dc_X7_learn_86 rfl
    refine go_ops ok_X7_learn_0_2 (L' := [some (.inr 49), some (.inl a1), some (.inl a2), none]) (st' := [.inl a1, .inr 49]) (σ1 := σ) rfl ?_
    refine go_V (M1 := m_X7_whatOf) (as := [.inl a1]) (st := []) (k := 49) (ci := 7) dc_X7_learn_2 ln_7_71 im_X7_whatOf (by decide) rfl rfl mk_X7_whatOf rfl (Nat.le_of_ble_eq_true rfl) (Nat.le_refl _) (v := (some (.inl (F_X7_whatOf 49 a1 σ)))) (σ1 := σ) (lk_X7_whatOf_49 l d (by omega) a1 σ _ rfl) _ rfl ?_
    obtain ⟨v1, e2, h⟩ := bnd_inv h
    refine go_ops ok_X7_learn_5_3 (L' := [some (.inr 49), some (.inl a1), some (.inl a2), some (.inl v1)]) (st' := [.inl a1, .inr 49]) (σ1 := σ) (by subst e2; rfl) ?_
    refine go_V (M1 := m_X7_sortOf) (as := [.inl a1]) (st := []) (k := 49) (ci := 7) dc_X7_learn_8 ln_7_65 im_X7_sortOf (by decide) rfl rfl mk_X7_sortOf rfl (Nat.le_of_ble_eq_true rfl) (Nat.le_refl _) (v := (some (.inl (F_X7_sortOf 49 a1 σ)))) (σ1 := σ) (lk_X7_sortOf_49 l d (by omega) a1 σ _ rfl) _ rfl ?_
    rcases Decidable.em ((F_X7_sortOf 49 a1 σ) = 3) with hs5 | hs5
    · replace h := (if_pos hs5).symm.trans h
      refine go_tsw (off := 25) dc_X7_learn_11 (by decide) (by decide) (tsk hs5 (by decide +kernel)) (by rfl) ?_
      refine go_ops ok_X7_learn_36_4 (L' := [some (.inr 49), some (.inl a1), some (.inl a2), some (.inl v1)]) (st' := [.inl a2, .inl v1, .inr 37]) (σ1 := σ) rfl ?_
      obtain ⟨q3, e4, h⟩ := bnd_inv h
      refine go_V (M1 := m_X3_learnHead) (as := [.inl v1, .inl a2]) (st := []) (k := 37) (ci := 3) dc_X7_learn_42 ln_7_129 im_X3_learnHead (by decide) rfl rfl mk_X3_learnHead rfl (Nat.le_of_ble_eq_true rfl) (Nat.le_refl _) (v := none) (σ1 := q3) (lk_X3_learnHead l d (by omega) v1 a2 σ q3 e4.symm) _ rfl ?_
      refine go_goto dc_X7_learn_45 (by rfl) ?_
      subst h
      exact go_vret dc_X7_learn_86 rfl
    replace h := (if_neg hs5).symm.trans h
    rcases Decidable.em ((F_X7_sortOf 49 a1 σ) = 4) with hs8 | hs8
    · replace h := (if_pos hs8).symm.trans h
      refine go_tsw (off := 37) dc_X7_learn_11 (by decide) (by decide) (tsk hs8 (by decide +kernel)) (by rfl) ?_
      refine go_ops ok_X7_learn_48_4 (L' := [some (.inr 49), some (.inl a1), some (.inl a2), some (.inl v1)]) (st' := [.inl a1, .inr 49, .inr 37]) (σ1 := σ) rfl ?_
      refine go_V (M1 := m_X7_whichOf) (as := [.inl a1]) (st := [.inr 37]) (k := 49) (ci := 7) dc_X7_learn_54 ln_7_132 im_X7_whichOf (by decide) rfl rfl mk_X7_whichOf rfl (Nat.le_of_ble_eq_true rfl) (Nat.le_refl _) (v := (some (.inl (F_X7_whichOf 49 a1 σ)))) (σ1 := σ) (lk_X7_whichOf_49 l d (by omega) a1 σ _ rfl) _ rfl ?_
      refine go_ops ok_X7_learn_57_2 (L' := [some (.inr 49), some (.inl a1), some (.inl a2), some (.inl v1)]) (st' := [.inl a2, .inl v1, .inl (F_X7_whichOf 49 a1 σ), .inr 37]) (σ1 := σ) rfl ?_
      obtain ⟨q6, e7, h⟩ := bnd_inv h
      refine go_V (M1 := m_X3_learnGiven) (as := [.inl (F_X7_whichOf 49 a1 σ), .inl v1, .inl a2]) (st := []) (k := 37) (ci := 3) dc_X7_learn_59 ln_7_135 im_X3_learnGiven (by decide) rfl rfl mk_X3_learnGiven rfl (Nat.le_of_ble_eq_true rfl) (Nat.le_refl _) (v := none) (σ1 := q6) (lk_X3_learnGiven l d (by omega) (F_X7_whichOf 49 a1 σ) v1 a2 σ q6 e7.symm) _ rfl ?_
      refine go_goto dc_X7_learn_62 (by rfl) ?_
      subst h
      exact go_vret dc_X7_learn_86 rfl
    replace h := (if_neg hs8).symm.trans h
    rcases Decidable.em ((F_X7_sortOf 49 a1 σ) = 5) with hs11 | hs11
    · replace h := (if_pos hs11).symm.trans h
      refine go_tsw (off := 54) dc_X7_learn_11 (by decide) (by decide) (tsk hs11 (by decide +kernel)) (by rfl) ?_
      refine go_ops ok_X7_learn_65_5 (L' := [some (.inr 49), some (.inl a1), some (.inl a2), some (.inl v1)]) (st' := [.inl 1, .inl a2, .inl v1, .inr 37]) (σ1 := σ) rfl ?_
      refine go_icmp_ne dc_X7_learn_72 (by rfl) (fun hc => ?_) (fun hc => ?_)
      · replace h := (if_neg hc).symm.trans h
        refine go_ops ok_X7_learn_79_1 (L' := [some (.inr 49), some (.inl a1), some (.inl a2), some (.inl v1)]) (st' := [.inl 0, .inl v1, .inr 37]) (σ1 := σ) rfl ?_
        refine go_wk (L' := [none, none, none, none]) trivial ?_
        exact hB_X7_learn_80 false v1 σ h
      · replace h := (if_pos hc).symm.trans h
        refine go_ops ok_X7_learn_75_1 (L' := [some (.inr 49), some (.inl a1), some (.inl a2), some (.inl v1)]) (st' := [.inl 1, .inl v1, .inr 37]) (σ1 := σ) rfl ?_
        refine go_goto dc_X7_learn_76 (by rfl) ?_
        refine go_wk (L' := [none, none, none, none]) trivial ?_
        exact hB_X7_learn_80 true v1 σ h
    replace h := (if_neg hs11).symm.trans h
    refine go_tsw (off := 75) dc_X7_learn_11 (by decide) (by decide) (ts_d [3, 4, 5] (nn1 hs5 (nn1 hs8 (nn1 hs11 nn0))) (by decide +kernel)) (by rfl) ?_
    subst h
    exact go_vret dc_X7_learn_86 rfl
  have hf := go_ct (as := [.inr 49, .inl a1, .inl a2]) mk_X7_learn (by rfl) (Nat.le_of_ble_eq_true rfl) key
  exact hf
theorem dc_X7_grow_4 : decode m_X7_grow.2.2.1 4 = .ok (.ifCond .le 16, 3) := by decide +kernel
theorem dc_X7_grow_11 : decode m_X7_grow.2.2.1 11 = .ok (.ifCond .ne 7, 3) := by decide +kernel
theorem dc_X7_grow_15 : decode m_X7_grow.2.2.1 15 = .ok (.goto 4, 3) := by decide +kernel
theorem dc_X7_grow_19 : decode m_X7_grow.2.2.1 19 = .ok (.ireturn, 1) := by decide +kernel
theorem dc_X7_grow_24 : decode m_X7_grow.2.2.1 24 = .ok (.invokevirtual 88, 3) := by decide +kernel
theorem dc_X7_grow_49 : decode m_X7_grow.2.2.1 49 = .ok (.putfield 9, 3) := by decide +kernel
theorem dc_X7_grow_55 : decode m_X7_grow.2.2.1 55 = .ok (.invokevirtual 91, 3) := by decide +kernel
theorem dc_X7_grow_65 : decode m_X7_grow.2.2.1 65 = .ok (.if_icmp .ge 81, 3) := by decide +kernel
theorem dc_X7_grow_70 : decode m_X7_grow.2.2.1 70 = .ok (.if_icmp .eq 76, 3) := by decide +kernel
theorem dc_X7_grow_77 : decode m_X7_grow.2.2.1 77 = .ok (.ifCond .ne 69, 3) := by decide +kernel
theorem dc_X7_grow_85 : decode m_X7_grow.2.2.1 85 = .ok (.invokestatic 61, 3) := by decide +kernel
theorem dc_X7_grow_92 : decode m_X7_grow.2.2.1 92 = .ok (.invokevirtual 78, 3) := by decide +kernel
theorem dc_X7_grow_95 : decode m_X7_grow.2.2.1 95 = .ok (.if_icmp .ge 30, 3) := by decide +kernel
theorem dc_X7_grow_106 : decode m_X7_grow.2.2.1 106 = .ok (.invokestatic 94, 3) := by decide +kernel
theorem dc_X7_grow_112 : decode m_X7_grow.2.2.1 112 = .ok (.invokevirtual 98, 3) := by decide +kernel
theorem dc_X7_grow_118 : decode m_X7_grow.2.2.1 118 = .ok (.invokevirtual 91, 3) := by decide +kernel
theorem dc_X7_grow_122 : decode m_X7_grow.2.2.1 122 = .ok (.goto 18, 3) := by decide +kernel
theorem dc_X7_grow_128 : decode m_X7_grow.2.2.1 128 = .ok (.invokevirtual 98, 3) := by decide +kernel
theorem dc_X7_grow_136 : decode m_X7_grow.2.2.1 136 = .ok (.invokestatic 61, 3) := by decide +kernel
theorem dc_X7_grow_143 : decode m_X7_grow.2.2.1 143 = .ok (.goto (-82), 3) := by decide +kernel
theorem dc_X7_grow_150 : decode m_X7_grow.2.2.1 150 = .ok (.ifCond .ne 7, 3) := by decide +kernel
theorem dc_X7_grow_154 : decode m_X7_grow.2.2.1 154 = .ok (.goto 4, 3) := by decide +kernel
theorem dc_X7_grow_158 : decode m_X7_grow.2.2.1 158 = .ok (.ireturn, 1) := by decide +kernel
theorem ok_X7_grow_0_2 : oks m_X7_grow.1 m_X7_grow.2.2.1 0 [(.aload_n 0, 1, (0, 0, 0)), (.getfield 15, 3, (7, 4, 0))] = true ∧ plen 0 [(.aload_n 0, 1, (0, 0, 0)), (.getfield 15, 3, (7, 4, 0))] = 4 := by decide +kernel
theorem ok_X7_grow_7_2 : oks m_X7_grow.1 m_X7_grow.2.2.1 7 [(.aload_n 0, 1, (0, 0, 0)), (.getfield 9, 3, (7, 3, 0))] = true ∧ plen 7 [(.aload_n 0, 1, (0, 0, 0)), (.getfield 9, 3, (7, 3, 0))] = 11 := by decide +kernel
theorem ok_X7_grow_14_1 : oks m_X7_grow.1 m_X7_grow.2.2.1 14 [(.iconst 1, 1, (0, 0, 0))] = true ∧ plen 14 [(.iconst 1, 1, (0, 0, 0))] = 15 := by decide +kernel
theorem ok_X7_grow_18_1 : oks m_X7_grow.1 m_X7_grow.2.2.1 18 [(.iconst 0, 1, (0, 0, 0))] = true ∧ plen 18 [(.iconst 0, 1, (0, 0, 0))] = 19 := by decide +kernel
theorem ok_X7_grow_20_2 : oks m_X7_grow.1 m_X7_grow.2.2.1 20 [(.aload_n 0, 1, (0, 0, 0)), (.getfield 50, 3, (7, 0, 0))] = true ∧ plen 20 [(.aload_n 0, 1, (0, 0, 0)), (.getfield 50, 3, (7, 0, 0))] = 24 := by decide +kernel
theorem ok_X7_grow_27_14 : oks m_X7_grow.1 m_X7_grow.2.2.1 27 [(.aload_n 0, 1, (0, 0, 0)), (.iconst 0, 1, (0, 0, 0)), (.putfield 19, 3, (7, 5, 0)), (.aload_n 0, 1, (0, 0, 0)), (.iconst (-1), 1, (0, 0, 0)), (.putfield 22, 3, (7, 6, 0)), (.aload_n 0, 1, (0, 0, 0)), (.iconst 0, 1, (0, 0, 0)), (.putfield 25, 3, (7, 7, 0)), (.aload_n 0, 1, (0, 0, 0)), (.iconst 0, 1, (0, 0, 0)), (.putfield 31, 3, (7, 9, 0)), (.aload_n 0, 1, (0, 0, 0)), (.iconst 0, 1, (0, 0, 0))] = true ∧ plen 27 [(.aload_n 0, 1, (0, 0, 0)), (.iconst 0, 1, (0, 0, 0)), (.putfield 19, 3, (7, 5, 0)), (.aload_n 0, 1, (0, 0, 0)), (.iconst (-1), 1, (0, 0, 0)), (.putfield 22, 3, (7, 6, 0)), (.aload_n 0, 1, (0, 0, 0)), (.iconst 0, 1, (0, 0, 0)), (.putfield 25, 3, (7, 7, 0)), (.aload_n 0, 1, (0, 0, 0)), (.iconst 0, 1, (0, 0, 0)), (.putfield 31, 3, (7, 9, 0)), (.aload_n 0, 1, (0, 0, 0)), (.iconst 0, 1, (0, 0, 0))] = 49 := by decide +kernel
theorem ok_X7_grow_52_3 : oks m_X7_grow.1 m_X7_grow.2.2.1 52 [(.aload_n 0, 1, (0, 0, 0)), (.iconst (-1), 1, (0, 0, 0)), (.iconst 0, 1, (0, 0, 0))] = true ∧ plen 52 [(.aload_n 0, 1, (0, 0, 0)), (.iconst (-1), 1, (0, 0, 0)), (.iconst 0, 1, (0, 0, 0))] = 55 := by decide +kernel
theorem ok_X7_grow_58_3 : oks m_X7_grow.1 m_X7_grow.2.2.1 58 [(.istore_n 1, 1, (0, 0, 0)), (.iconst 0, 1, (0, 0, 0)), (.istore_n 2, 1, (0, 0, 0))] = true ∧ plen 58 [(.istore_n 1, 1, (0, 0, 0)), (.iconst 0, 1, (0, 0, 0)), (.istore_n 2, 1, (0, 0, 0))] = 61 := by decide +kernel
theorem ok_X7_grow_61_2 : oks m_X7_grow.1 m_X7_grow.2.2.1 61 [(.iload_n 2, 1, (0, 0, 0)), (.sipush 1000, 3, (0, 0, 0))] = true ∧ plen 61 [(.iload_n 2, 1, (0, 0, 0)), (.sipush 1000, 3, (0, 0, 0))] = 65 := by decide +kernel
theorem ok_X7_grow_68_2 : oks m_X7_grow.1 m_X7_grow.2.2.1 68 [(.iload_n 1, 1, (0, 0, 0)), (.iconst (-1), 1, (0, 0, 0))] = true ∧ plen 68 [(.iload_n 1, 1, (0, 0, 0)), (.iconst (-1), 1, (0, 0, 0))] = 70 := by decide +kernel
theorem ok_X7_grow_73_2 : oks m_X7_grow.1 m_X7_grow.2.2.1 73 [(.aload_n 0, 1, (0, 0, 0)), (.getfield 9, 3, (7, 3, 0))] = true ∧ plen 73 [(.aload_n 0, 1, (0, 0, 0)), (.getfield 9, 3, (7, 3, 0))] = 77 := by decide +kernel
theorem ok_X7_grow_80_3 : oks m_X7_grow.1 m_X7_grow.2.2.1 80 [(.aload_n 0, 1, (0, 0, 0)), (.getfield 47, 3, (7, 14, 0)), (.iload_n 1, 1, (0, 0, 0))] = true ∧ plen 80 [(.aload_n 0, 1, (0, 0, 0)), (.getfield 47, 3, (7, 14, 0)), (.iload_n 1, 1, (0, 0, 0))] = 85 := by decide +kernel
theorem ok_X7_grow_88_4 : oks m_X7_grow.1 m_X7_grow.2.2.1 88 [(.istore_n 3, 1, (0, 0, 0)), (.iload_n 3, 1, (0, 0, 0)), (.aload_n 0, 1, (0, 0, 0)), (.iload_n 1, 1, (0, 0, 0))] = true ∧ plen 88 [(.istore_n 3, 1, (0, 0, 0)), (.iload_n 3, 1, (0, 0, 0)), (.aload_n 0, 1, (0, 0, 0)), (.iload_n 1, 1, (0, 0, 0))] = 92 := by decide +kernel
theorem ok_X7_grow_98_6 : oks m_X7_grow.1 m_X7_grow.2.2.1 98 [(.aload_n 0, 1, (0, 0, 0)), (.getfield 47, 3, (7, 14, 0)), (.iload_n 1, 1, (0, 0, 0)), (.iload_n 3, 1, (0, 0, 0)), (.iconst 1, 1, (0, 0, 0)), (.iadd, 1, (0, 0, 0))] = true ∧ plen 98 [(.aload_n 0, 1, (0, 0, 0)), (.getfield 47, 3, (7, 14, 0)), (.iload_n 1, 1, (0, 0, 0)), (.iload_n 3, 1, (0, 0, 0)), (.iconst 1, 1, (0, 0, 0)), (.iadd, 1, (0, 0, 0))] = 106 := by decide +kernel
theorem ok_X7_grow_109_3 : oks m_X7_grow.1 m_X7_grow.2.2.1 109 [(.aload_n 0, 1, (0, 0, 0)), (.iload_n 1, 1, (0, 0, 0)), (.iload_n 3, 1, (0, 0, 0))] = true ∧ plen 109 [(.aload_n 0, 1, (0, 0, 0)), (.iload_n 1, 1, (0, 0, 0)), (.iload_n 3, 1, (0, 0, 0))] = 112 := by decide +kernel
theorem ok_X7_grow_115_3 : oks m_X7_grow.1 m_X7_grow.2.2.1 115 [(.aload_n 0, 1, (0, 0, 0)), (.iload_n 1, 1, (0, 0, 0)), (.iload_n 3, 1, (0, 0, 0))] = true ∧ plen 115 [(.aload_n 0, 1, (0, 0, 0)), (.iload_n 1, 1, (0, 0, 0)), (.iload_n 3, 1, (0, 0, 0))] = 118 := by decide +kernel
theorem ok_X7_grow_121_1 : oks m_X7_grow.1 m_X7_grow.2.2.1 121 [(.istore_n 1, 1, (0, 0, 0))] = true ∧ plen 121 [(.istore_n 1, 1, (0, 0, 0))] = 122 := by decide +kernel
theorem ok_X7_grow_125_3 : oks m_X7_grow.1 m_X7_grow.2.2.1 125 [(.aload_n 0, 1, (0, 0, 0)), (.iload_n 1, 1, (0, 0, 0)), (.iconst (-1), 1, (0, 0, 0))] = true ∧ plen 125 [(.aload_n 0, 1, (0, 0, 0)), (.iload_n 1, 1, (0, 0, 0)), (.iconst (-1), 1, (0, 0, 0))] = 128 := by decide +kernel
theorem ok_X7_grow_131_3 : oks m_X7_grow.1 m_X7_grow.2.2.1 131 [(.aload_n 0, 1, (0, 0, 0)), (.getfield 44, 3, (7, 13, 0)), (.iload_n 1, 1, (0, 0, 0))] = true ∧ plen 131 [(.aload_n 0, 1, (0, 0, 0)), (.getfield 44, 3, (7, 13, 0)), (.iload_n 1, 1, (0, 0, 0))] = 136 := by decide +kernel
theorem ok_X7_grow_139_1 : oks m_X7_grow.1 m_X7_grow.2.2.1 139 [(.istore_n 1, 1, (0, 0, 0))] = true ∧ plen 139 [(.istore_n 1, 1, (0, 0, 0))] = 140 := by decide +kernel
theorem ok_X7_grow_140_1 : oks m_X7_grow.1 m_X7_grow.2.2.1 140 [(.iinc 2 1, 3, (0, 0, 0))] = true ∧ plen 140 [(.iinc 2 1, 3, (0, 0, 0))] = 143 := by decide +kernel
theorem ok_X7_grow_146_2 : oks m_X7_grow.1 m_X7_grow.2.2.1 146 [(.aload_n 0, 1, (0, 0, 0)), (.getfield 9, 3, (7, 3, 0))] = true ∧ plen 146 [(.aload_n 0, 1, (0, 0, 0)), (.getfield 9, 3, (7, 3, 0))] = 150 := by decide +kernel
theorem ok_X7_grow_153_1 : oks m_X7_grow.1 m_X7_grow.2.2.1 153 [(.iconst 1, 1, (0, 0, 0))] = true ∧ plen 153 [(.iconst 1, 1, (0, 0, 0))] = 154 := by decide +kernel
theorem ok_X7_grow_157_1 : oks m_X7_grow.1 m_X7_grow.2.2.1 157 [(.iconst 0, 1, (0, 0, 0))] = true ∧ plen 157 [(.iconst 0, 1, (0, 0, 0))] = 158 := by decide +kernel
def B_X7_grow_140 (t : Nat) (x1 : Int) (x2 : Int) (σ : Sg) : Option ((Int × Int × Sg) ⊕ Sg) :=
some (.inl (x1, wrap (x2 + 1), σ))
def L_X7_grow_61 (t : Nat) (x1 : Int) (x2 : Int) (σ : Sg) : Option ((Int × Int × Sg) ⊕ Sg) :=
if 1000 ≤ x2 then
some (.inr σ)
else
if x1 = (-1) then
some (.inr σ)
else
if (σ t 3) = 0 then
bnd (rdD (-1) σ (t + 5) 500 x1) fun v15 =>
if (F_X7_widthOf t x1 σ) ≤ v15 then
bnd (F_X7_learn t x1 (-1) σ) fun q17 =>
bnd (rdD (-1) q17 (t + 4) 500 x1) fun v19 =>
B_X7_grow_140 t v19 x2 q17
else
bnd (wrD σ (t + 5) 500 x1 (wrap (v15 + 1))) fun s21 =>
bnd (F_X7_learn t x1 v15 s21) fun q23 =>
(F_X7_plant t x1 v15 q23).bind fun q25 =>
B_X7_grow_140 t q25.1 x2 q25.2
else
some (.inr σ)
def F_X7_grow (t : Nat) (σ : Sg) : Option (Bool × Sg) :=
if (σ t 4) ≤ 0 then
bnd (F_X3_clear σ) fun q1 =>
bnd (up2 q1 t 5 0) fun s3 =>
bnd (up2 s3 t 6 (-1)) fun s5 =>
bnd (up2 s5 t 7 0) fun s7 =>
bnd (up2 s7 t 9 0) fun s9 =>
bnd (up2 s9 t 3 0) fun s11 =>
(F_X7_plant t (-1) 0 s11).bind fun q13 =>
(iter (fun a : (Int × Int × Sg) => L_X7_grow_61 t a.1 a.2.1 a.2.2) 1001 (q13.1, 0, q13.2)).bind fun y27 =>
if (y27 t 3) = 0 then
some (true, y27)
else
some (false, y27)
else
if (σ t 3) = 0 then
some (true, σ)
else
some (false, σ)
theorem lk_X7_grow_43 (l : Launch) (d : Nat) (hd : 108 ≤ d) (σ : Sg) (q : (Bool × Sg)) (h : F_X7_grow 43 σ = some q) : CT l d m_X7_grow.2.1 m_X7_grow.2.2.1 m_X7_grow.2.2.2.1 m_X7_grow.2.2.2.2 [.inr 43] (LAYC, σ) (some (.inl (b2i q.1))) (LAYC, q.2) := by
  obtain ⟨d, rfl⟩ : ∃ e, d = e + 1 := ⟨d - 1, by omega⟩
  have key : Go l m_X7_grow (d + 1) LAYC (.inl (some (.inl (b2i q.1)))) q.2 0 [some (.inr 43), none, none, none] [] σ := by
    unfold F_X7_grow at h
    have hL_X7_grow_61 : ∀ (n : Nat) (a : (Int × Int × Sg)) (y : Sg), iter (fun a : (Int × Int × Sg) => L_X7_grow_61 43 a.1 a.2.1 a.2.2) n a = some y → (fun y : Sg => Go l m_X7_grow (d + 1) LAYC (.inl (some (.inl (b2i q.1)))) q.2 146 [some (.inr 43), none, none, none] [] y) y → (fun a : (Int × Int × Sg) => Go l m_X7_grow (d + 1) LAYC (.inl (some (.inl (b2i q.1)))) q.2 61 [some (.inr 43), some (.inl a.1), some (.inl a.2.1), none] [] a.2.2) a := by
      skip
      refine go_iter (G := fun a : (Int × Int × Sg) => Go l m_X7_grow (d + 1) LAYC (.inl (some (.inl (b2i q.1)))) q.2 61 [some (.inr 43), some (.inl a.1), some (.inl a.2.1), none] [] a.2.2) (K := fun y : Sg => Go l m_X7_grow (d + 1) LAYC (.inl (some (.inl (b2i q.1)))) q.2 146 [some (.inr 43), none, none, none] [] y) ?_
      rintro ⟨x1, x2, σ⟩ w h hK
      replace h : L_X7_grow_61 43 x1 x2 σ = some w := h
      show Go l m_X7_grow (d + 1) LAYC (.inl (some (.inl (b2i q.1)))) q.2 61 [some (.inr 43), some (.inl x1), some (.inl x2), none] [] σ
      unfold L_X7_grow_61 at h
      have hB_X7_grow_140 : ∀ (x1 : Int) (x2 : Int) (σ : Sg), B_X7_grow_140 43 x1 x2 σ = some w → Go l m_X7_grow (d + 1) LAYC (.inl (some (.inl (b2i q.1)))) q.2 140 [some (.inr 43), some (.inl x1), some (.inl x2), none] [] σ := by
        intro x1 x2 σ h
        unfold B_X7_grow_140 at h
        refine go_ops ok_X7_grow_140_1 (L' := [some (.inr 43), some (.inl x1), some (.inl (wrap (x2 + 1))), none]) (st' := []) (σ1 := σ) rfl ?_
        refine go_goto dc_X7_grow_143 (by rfl) ?_
        cases h
        exact hK
      refine go_ops ok_X7_grow_61_2 (L' := [some (.inr 43), some (.inl x1), some (.inl x2), none]) (st' := [.inl 1000, .inl x2]) (σ1 := σ) rfl ?_
      refine go_icmp_ge dc_X7_grow_65 (by rfl) (fun hc => ?_) (fun hc => ?_)
      · replace h := (if_pos hc).symm.trans h
        cases h
        refine go_wk (L' := [some (.inr 43), none, none, none]) ⟨rfl, trivial⟩ ?_
        exact hK
      · replace h := (if_neg hc).symm.trans h
        refine go_ops ok_X7_grow_68_2 (L' := [some (.inr 43), some (.inl x1), some (.inl x2), none]) (st' := [.inl (-1), .inl x1]) (σ1 := σ) rfl ?_
        refine go_icmp_eq dc_X7_grow_70 (by rfl) (fun hc => ?_) (fun hc => ?_)
        · replace h := (if_pos hc).symm.trans h
          cases h
          refine go_wk (L' := [some (.inr 43), none, none, none]) ⟨rfl, trivial⟩ ?_
          exact hK
        · replace h := (if_neg hc).symm.trans h
          refine go_ops ok_X7_grow_73_2 (L' := [some (.inr 43), some (.inl x1), some (.inl x2), none]) (st' := [.inl (σ 43 3)]) (σ1 := σ) rfl ?_
          refine go_if_ne dc_X7_grow_77 (by rfl) (fun hc => ?_) (fun hc => ?_)
          · replace h := (if_neg hc).symm.trans h
            cases h
            refine go_wk (L' := [some (.inr 43), none, none, none]) ⟨rfl, trivial⟩ ?_
            exact hK
          · replace h := (if_pos hc).symm.trans h
            refine go_ops ok_X7_grow_80_3 (L' := [some (.inr 43), some (.inl x1), some (.inl x2), none]) (st' := [.inl x1, .inr 48]) (σ1 := σ) rfl ?_
            refine go_SN (M1 := m_X10_at) (as := [.inr 48, .inl x1]) (st := []) dc_X7_grow_85 ln_7_61 sm_X10_at mk_X10_at rfl (Nat.le_of_ble_eq_true rfl) (Nat.le_refl _) (v := some (.inl (rdD (-1) σ 48 500 x1))) (σ1 := σ) (lk_X10_at l d LAYC 48 500 rfl σ _) _ rfl ?_
            obtain ⟨v15, e16, h⟩ := bnd_inv h
            refine go_ops ok_X7_grow_88_4 (L' := [some (.inr 43), some (.inl x1), some (.inl x2), some (.inl v15)]) (st' := [.inl x1, .inr 43, .inl v15]) (σ1 := σ) (by subst e16; rfl) ?_
            refine go_V (M1 := m_X7_widthOf) (as := [.inl x1]) (st := [.inl v15]) (k := 43) (ci := 7) dc_X7_grow_92 ln_7_78 im_X7_widthOf (by decide) rfl rfl mk_X7_widthOf rfl (Nat.le_of_ble_eq_true rfl) (Nat.le_refl _) (v := (some (.inl (F_X7_widthOf 43 x1 σ)))) (σ1 := σ) (lk_X7_widthOf_43 l d (by omega) x1 σ _ rfl) _ rfl ?_
            refine go_icmp_ge dc_X7_grow_95 (by rfl) (fun hc => ?_) (fun hc => ?_)
            · replace h := (if_pos hc).symm.trans h
              refine go_ops ok_X7_grow_125_3 (L' := [some (.inr 43), some (.inl x1), some (.inl x2), some (.inl v15)]) (st' := [.inl (-1), .inl x1, .inr 43]) (σ1 := σ) rfl ?_
              obtain ⟨q17, e18, h⟩ := bnd_inv h
              refine go_V (M1 := m_X7_learn) (as := [.inl x1, .inl (-1)]) (st := []) (k := 43) (ci := 7) dc_X7_grow_128 ln_7_98 im_X7_learn (by decide) rfl rfl mk_X7_learn rfl (Nat.le_of_ble_eq_true rfl) (Nat.le_refl _) (v := none) (σ1 := q17) (lk_X7_learn_43 l d (by omega) x1 (-1) σ q17 e18.symm) _ rfl ?_
              refine go_ops ok_X7_grow_131_3 (L' := [some (.inr 43), some (.inl x1), some (.inl x2), some (.inl v15)]) (st' := [.inl x1, .inr 47]) (σ1 := q17) rfl ?_
              refine go_SN (M1 := m_X10_at) (as := [.inr 47, .inl x1]) (st := []) dc_X7_grow_136 ln_7_61 sm_X10_at mk_X10_at rfl (Nat.le_of_ble_eq_true rfl) (Nat.le_refl _) (v := some (.inl (rdD (-1) q17 47 500 x1))) (σ1 := q17) (lk_X10_at l d LAYC 47 500 rfl q17 _) _ rfl ?_
              obtain ⟨v19, e20, h⟩ := bnd_inv h
              refine go_ops ok_X7_grow_139_1 (L' := [some (.inr 43), some (.inl v19), some (.inl x2), some (.inl v15)]) (st' := []) (σ1 := q17) (by subst e20; rfl) ?_
              refine go_wk (L' := [some (.inr 43), some (.inl v19), some (.inl x2), none]) ⟨rfl, rfl, rfl, trivial⟩ ?_
              exact hB_X7_grow_140 v19 x2 q17 h
            · replace h := (if_neg hc).symm.trans h
              refine go_ops ok_X7_grow_98_6 (L' := [some (.inr 43), some (.inl x1), some (.inl x2), some (.inl v15)]) (st' := [.inl (wrap (v15 + 1)), .inl x1, .inr 48]) (σ1 := σ) rfl ?_
              obtain ⟨s21, e22, h⟩ := bnd_inv h
              refine go_SN (M1 := m_X10_put) (as := [.inr 48, .inl x1, .inl (wrap (v15 + 1))]) (st := []) dc_X7_grow_106 ln_7_94 sm_X10_put mk_X10_put rfl (Nat.le_of_ble_eq_true rfl) (Nat.le_refl _) (v := none) (σ1 := s21) (lk_X10_put l d LAYC 48 500 rfl _ _ s21 e22) _ rfl ?_
              refine go_ops ok_X7_grow_109_3 (L' := [some (.inr 43), some (.inl x1), some (.inl x2), some (.inl v15)]) (st' := [.inl v15, .inl x1, .inr 43]) (σ1 := s21) rfl ?_
              obtain ⟨q23, e24, h⟩ := bnd_inv h
              refine go_V (M1 := m_X7_learn) (as := [.inl x1, .inl v15]) (st := []) (k := 43) (ci := 7) dc_X7_grow_112 ln_7_98 im_X7_learn (by decide) rfl rfl mk_X7_learn rfl (Nat.le_of_ble_eq_true rfl) (Nat.le_refl _) (v := none) (σ1 := q23) (lk_X7_learn_43 l d (by omega) x1 v15 s21 q23 e24.symm) _ rfl ?_
              refine go_ops ok_X7_grow_115_3 (L' := [some (.inr 43), some (.inl x1), some (.inl x2), some (.inl v15)]) (st' := [.inl v15, .inl x1, .inr 43]) (σ1 := q23) rfl ?_
              obtain ⟨q25, e26, h⟩ := bind_inv h
              refine go_V (M1 := m_X7_plant) (as := [.inl x1, .inl v15]) (st := []) (k := 43) (ci := 7) dc_X7_grow_118 ln_7_91 im_X7_plant (by decide) rfl rfl mk_X7_plant rfl (Nat.le_of_ble_eq_true rfl) (Nat.le_refl _) (v := (some (.inl q25.1))) (σ1 := q25.2) (lk_X7_plant_43 l d (by omega) x1 v15 q23 q25 e26) _ rfl ?_
              refine go_ops ok_X7_grow_121_1 (L' := [some (.inr 43), some (.inl q25.1), some (.inl x2), some (.inl v15)]) (st' := []) (σ1 := q25.2) rfl ?_
              refine go_goto dc_X7_grow_122 (by rfl) ?_
              refine go_wk (L' := [some (.inr 43), some (.inl q25.1), some (.inl x2), none]) ⟨rfl, rfl, rfl, trivial⟩ ?_
              exact hB_X7_grow_140 q25.1 x2 q25.2 h
    refine go_ops ok_X7_grow_0_2 (L' := [some (.inr 43), none, none, none]) (st' := [.inl (σ 43 4)]) (σ1 := σ) rfl ?_
    refine go_if_le dc_X7_grow_4 (by rfl) (fun hc => ?_) (fun hc => ?_)
    · replace h := (if_pos hc).symm.trans h
      refine go_ops ok_X7_grow_20_2 (L' := [some (.inr 43), none, none, none]) (st' := [.inr 37]) (σ1 := σ) rfl ?_
      obtain ⟨q1, e2, h⟩ := bnd_inv h
      refine go_V (M1 := m_X3_clear) (as := []) (st := []) (k := 37) (ci := 3) dc_X7_grow_24 ln_7_88 im_X3_clear (by decide) rfl rfl mk_X3_clear rfl (Nat.le_of_ble_eq_true rfl) (Nat.le_refl _) (v := none) (σ1 := q1) (lk_X3_clear l d (by omega) σ q1 e2.symm) _ rfl ?_
      obtain ⟨s3, e4, h⟩ := bnd_inv h
      obtain ⟨s5, e6, h⟩ := bnd_inv h
      obtain ⟨s7, e8, h⟩ := bnd_inv h
      obtain ⟨s9, e10, h⟩ := bnd_inv h
      refine go_ops ok_X7_grow_27_14 (L' := [some (.inr 43), none, none, none]) (st' := [.inl 0, .inr 43]) (σ1 := s9) (by subst e10; subst e8; subst e6; subst e4; rfl) ?_
      obtain ⟨s11, e12, h⟩ := bnd_inv h
      refine go_pfb (b := false) (k := 43) (ci := 7) (sl := 3) dc_X7_grow_49 (by decide +kernel) (by decide) rfl rfl (by decide +kernel) (by decide +kernel) e12 ?_
      refine go_ops ok_X7_grow_52_3 (L' := [some (.inr 43), none, none, none]) (st' := [.inl 0, .inl (-1), .inr 43]) (σ1 := s11) rfl ?_
      obtain ⟨q13, e14, h⟩ := bind_inv h
      refine go_V (M1 := m_X7_plant) (as := [.inl (-1), .inl 0]) (st := []) (k := 43) (ci := 7) dc_X7_grow_55 ln_7_91 im_X7_plant (by decide) rfl rfl mk_X7_plant rfl (Nat.le_of_ble_eq_true rfl) (Nat.le_refl _) (v := (some (.inl q13.1))) (σ1 := q13.2) (lk_X7_plant_43 l d (by omega) (-1) 0 s11 q13 e14) _ rfl ?_
      refine go_ops ok_X7_grow_58_3 (L' := [some (.inr 43), some (.inl q13.1), some (.inl 0), none]) (st' := []) (σ1 := q13.2) rfl ?_
      obtain ⟨y27, e28, h⟩ := bind_inv h
      refine hL_X7_grow_61  1001 (q13.1, 0, q13.2) y27 e28 ?_
      show Go l m_X7_grow (d + 1) LAYC (.inl (some (.inl (b2i q.1)))) q.2 146 [some (.inr 43), none, none, none] [] y27
      refine go_ops ok_X7_grow_146_2 (L' := [some (.inr 43), none, none, none]) (st' := [.inl (y27 43 3)]) (σ1 := y27) rfl ?_
      refine go_if_ne dc_X7_grow_150 (by rfl) (fun hc => ?_) (fun hc => ?_)
      · replace h := (if_neg hc).symm.trans h
        refine go_ops ok_X7_grow_157_1 (L' := [some (.inr 43), none, none, none]) (st' := [.inl 0]) (σ1 := y27) rfl ?_
        have h9 := Option.some.inj h
        subst h9
        exact go_zret (x := false) dc_X7_grow_158 rfl
      · replace h := (if_pos hc).symm.trans h
        refine go_ops ok_X7_grow_153_1 (L' := [some (.inr 43), none, none, none]) (st' := [.inl 1]) (σ1 := y27) rfl ?_
        refine go_goto dc_X7_grow_154 (by rfl) ?_
        have h9 := Option.some.inj h
        subst h9
        exact go_zret (x := true) dc_X7_grow_158 rfl
    · replace h := (if_neg hc).symm.trans h
      refine go_ops ok_X7_grow_7_2 (L' := [some (.inr 43), none, none, none]) (st' := [.inl (σ 43 3)]) (σ1 := σ) rfl ?_
      refine go_if_ne dc_X7_grow_11 (by rfl) (fun hc => ?_) (fun hc => ?_)
      · replace h := (if_neg hc).symm.trans h
        refine go_ops ok_X7_grow_18_1 (L' := [some (.inr 43), none, none, none]) (st' := [.inl 0]) (σ1 := σ) rfl ?_
        have h9 := Option.some.inj h
        subst h9
        exact go_zret (x := false) dc_X7_grow_19 rfl
      · replace h := (if_pos hc).symm.trans h
        refine go_ops ok_X7_grow_14_1 (L' := [some (.inr 43), none, none, none]) (st' := [.inl 1]) (σ1 := σ) rfl ?_
        refine go_goto dc_X7_grow_15 (by rfl) ?_
        have h9 := Option.some.inj h
        subst h9
        exact go_zret (x := true) dc_X7_grow_19 rfl
  have hf := go_ct (as := [.inr 43]) mk_X7_grow (by rfl) (Nat.le_of_ble_eq_true rfl) key
  exact hf
theorem lk_X7_grow_49 (l : Launch) (d : Nat) (hd : 108 ≤ d) (σ : Sg) (q : (Bool × Sg)) (h : F_X7_grow 49 σ = some q) : CT l d m_X7_grow.2.1 m_X7_grow.2.2.1 m_X7_grow.2.2.2.1 m_X7_grow.2.2.2.2 [.inr 49] (LAYC, σ) (some (.inl (b2i q.1))) (LAYC, q.2) := by
  obtain ⟨d, rfl⟩ : ∃ e, d = e + 1 := ⟨d - 1, by omega⟩
  have key : Go l m_X7_grow (d + 1) LAYC (.inl (some (.inl (b2i q.1)))) q.2 0 [some (.inr 49), none, none, none] [] σ := by
    unfold F_X7_grow at h
    have hL_X7_grow_61 : ∀ (n : Nat) (a : (Int × Int × Sg)) (y : Sg), iter (fun a : (Int × Int × Sg) => L_X7_grow_61 49 a.1 a.2.1 a.2.2) n a = some y → (fun y : Sg => Go l m_X7_grow (d + 1) LAYC (.inl (some (.inl (b2i q.1)))) q.2 146 [some (.inr 49), none, none, none] [] y) y → (fun a : (Int × Int × Sg) => Go l m_X7_grow (d + 1) LAYC (.inl (some (.inl (b2i q.1)))) q.2 61 [some (.inr 49), some (.inl a.1), some (.inl a.2.1), none] [] a.2.2) a := by
      skip
      refine go_iter (G := fun a : (Int × Int × Sg) => Go l m_X7_grow (d + 1) LAYC (.inl (some (.inl (b2i q.1)))) q.2 61 [some (.inr 49), some (.inl a.1), some (.inl a.2.1), none] [] a.2.2) (K := fun y : Sg => Go l m_X7_grow (d + 1) LAYC (.inl (some (.inl (b2i q.1)))) q.2 146 [some (.inr 49), none, none, none] [] y) ?_
      rintro ⟨x1, x2, σ⟩ w h hK
      replace h : L_X7_grow_61 49 x1 x2 σ = some w := h
      show Go l m_X7_grow (d + 1) LAYC (.inl (some (.inl (b2i q.1)))) q.2 61 [some (.inr 49), some (.inl x1), some (.inl x2), none] [] σ
      unfold L_X7_grow_61 at h
      have hB_X7_grow_140 : ∀ (x1 : Int) (x2 : Int) (σ : Sg), B_X7_grow_140 49 x1 x2 σ = some w → Go l m_X7_grow (d + 1) LAYC (.inl (some (.inl (b2i q.1)))) q.2 140 [some (.inr 49), some (.inl x1), some (.inl x2), none] [] σ := by
        intro x1 x2 σ h
        unfold B_X7_grow_140 at h
        refine go_ops ok_X7_grow_140_1 (L' := [some (.inr 49), some (.inl x1), some (.inl (wrap (x2 + 1))), none]) (st' := []) (σ1 := σ) rfl ?_
        refine go_goto dc_X7_grow_143 (by rfl) ?_
        cases h
        exact hK
      refine go_ops ok_X7_grow_61_2 (L' := [some (.inr 49), some (.inl x1), some (.inl x2), none]) (st' := [.inl 1000, .inl x2]) (σ1 := σ) rfl ?_
      refine go_icmp_ge dc_X7_grow_65 (by rfl) (fun hc => ?_) (fun hc => ?_)
      · replace h := (if_pos hc).symm.trans h
        cases h
        refine go_wk (L' := [some (.inr 49), none, none, none]) ⟨rfl, trivial⟩ ?_
        exact hK
      · replace h := (if_neg hc).symm.trans h
        refine go_ops ok_X7_grow_68_2 (L' := [some (.inr 49), some (.inl x1), some (.inl x2), none]) (st' := [.inl (-1), .inl x1]) (σ1 := σ) rfl ?_
        refine go_icmp_eq dc_X7_grow_70 (by rfl) (fun hc => ?_) (fun hc => ?_)
        · replace h := (if_pos hc).symm.trans h
          cases h
          refine go_wk (L' := [some (.inr 49), none, none, none]) ⟨rfl, trivial⟩ ?_
          exact hK
        · replace h := (if_neg hc).symm.trans h
          refine go_ops ok_X7_grow_73_2 (L' := [some (.inr 49), some (.inl x1), some (.inl x2), none]) (st' := [.inl (σ 49 3)]) (σ1 := σ) rfl ?_
          refine go_if_ne dc_X7_grow_77 (by rfl) (fun hc => ?_) (fun hc => ?_)
          · replace h := (if_neg hc).symm.trans h
            cases h
            refine go_wk (L' := [some (.inr 49), none, none, none]) ⟨rfl, trivial⟩ ?_
            exact hK
          · replace h := (if_pos hc).symm.trans h
            refine go_ops ok_X7_grow_80_3 (L' := [some (.inr 49), some (.inl x1), some (.inl x2), none]) (st' := [.inl x1, .inr 54]) (σ1 := σ) rfl ?_
            refine go_SN (M1 := m_X10_at) (as := [.inr 54, .inl x1]) (st := []) dc_X7_grow_85 ln_7_61 sm_X10_at mk_X10_at rfl (Nat.le_of_ble_eq_true rfl) (Nat.le_refl _) (v := some (.inl (rdD (-1) σ 54 500 x1))) (σ1 := σ) (lk_X10_at l d LAYC 54 500 rfl σ _) _ rfl ?_
            obtain ⟨v15, e16, h⟩ := bnd_inv h
            refine go_ops ok_X7_grow_88_4 (L' := [some (.inr 49), some (.inl x1), some (.inl x2), some (.inl v15)]) (st' := [.inl x1, .inr 49, .inl v15]) (σ1 := σ) (by subst e16; rfl) ?_
            refine go_V (M1 := m_X7_widthOf) (as := [.inl x1]) (st := [.inl v15]) (k := 49) (ci := 7) dc_X7_grow_92 ln_7_78 im_X7_widthOf (by decide) rfl rfl mk_X7_widthOf rfl (Nat.le_of_ble_eq_true rfl) (Nat.le_refl _) (v := (some (.inl (F_X7_widthOf 49 x1 σ)))) (σ1 := σ) (lk_X7_widthOf_49 l d (by omega) x1 σ _ rfl) _ rfl ?_
            refine go_icmp_ge dc_X7_grow_95 (by rfl) (fun hc => ?_) (fun hc => ?_)
            · replace h := (if_pos hc).symm.trans h
              refine go_ops ok_X7_grow_125_3 (L' := [some (.inr 49), some (.inl x1), some (.inl x2), some (.inl v15)]) (st' := [.inl (-1), .inl x1, .inr 49]) (σ1 := σ) rfl ?_
              obtain ⟨q17, e18, h⟩ := bnd_inv h
              refine go_V (M1 := m_X7_learn) (as := [.inl x1, .inl (-1)]) (st := []) (k := 49) (ci := 7) dc_X7_grow_128 ln_7_98 im_X7_learn (by decide) rfl rfl mk_X7_learn rfl (Nat.le_of_ble_eq_true rfl) (Nat.le_refl _) (v := none) (σ1 := q17) (lk_X7_learn_49 l d (by omega) x1 (-1) σ q17 e18.symm) _ rfl ?_
              refine go_ops ok_X7_grow_131_3 (L' := [some (.inr 49), some (.inl x1), some (.inl x2), some (.inl v15)]) (st' := [.inl x1, .inr 53]) (σ1 := q17) rfl ?_
              refine go_SN (M1 := m_X10_at) (as := [.inr 53, .inl x1]) (st := []) dc_X7_grow_136 ln_7_61 sm_X10_at mk_X10_at rfl (Nat.le_of_ble_eq_true rfl) (Nat.le_refl _) (v := some (.inl (rdD (-1) q17 53 500 x1))) (σ1 := q17) (lk_X10_at l d LAYC 53 500 rfl q17 _) _ rfl ?_
              obtain ⟨v19, e20, h⟩ := bnd_inv h
              refine go_ops ok_X7_grow_139_1 (L' := [some (.inr 49), some (.inl v19), some (.inl x2), some (.inl v15)]) (st' := []) (σ1 := q17) (by subst e20; rfl) ?_
              refine go_wk (L' := [some (.inr 49), some (.inl v19), some (.inl x2), none]) ⟨rfl, rfl, rfl, trivial⟩ ?_
              exact hB_X7_grow_140 v19 x2 q17 h
            · replace h := (if_neg hc).symm.trans h
              refine go_ops ok_X7_grow_98_6 (L' := [some (.inr 49), some (.inl x1), some (.inl x2), some (.inl v15)]) (st' := [.inl (wrap (v15 + 1)), .inl x1, .inr 54]) (σ1 := σ) rfl ?_
              obtain ⟨s21, e22, h⟩ := bnd_inv h
              refine go_SN (M1 := m_X10_put) (as := [.inr 54, .inl x1, .inl (wrap (v15 + 1))]) (st := []) dc_X7_grow_106 ln_7_94 sm_X10_put mk_X10_put rfl (Nat.le_of_ble_eq_true rfl) (Nat.le_refl _) (v := none) (σ1 := s21) (lk_X10_put l d LAYC 54 500 rfl _ _ s21 e22) _ rfl ?_
              refine go_ops ok_X7_grow_109_3 (L' := [some (.inr 49), some (.inl x1), some (.inl x2), some (.inl v15)]) (st' := [.inl v15, .inl x1, .inr 49]) (σ1 := s21) rfl ?_
              obtain ⟨q23, e24, h⟩ := bnd_inv h
              refine go_V (M1 := m_X7_learn) (as := [.inl x1, .inl v15]) (st := []) (k := 49) (ci := 7) dc_X7_grow_112 ln_7_98 im_X7_learn (by decide) rfl rfl mk_X7_learn rfl (Nat.le_of_ble_eq_true rfl) (Nat.le_refl _) (v := none) (σ1 := q23) (lk_X7_learn_49 l d (by omega) x1 v15 s21 q23 e24.symm) _ rfl ?_
              refine go_ops ok_X7_grow_115_3 (L' := [some (.inr 49), some (.inl x1), some (.inl x2), some (.inl v15)]) (st' := [.inl v15, .inl x1, .inr 49]) (σ1 := q23) rfl ?_
              obtain ⟨q25, e26, h⟩ := bind_inv h
              refine go_V (M1 := m_X7_plant) (as := [.inl x1, .inl v15]) (st := []) (k := 49) (ci := 7) dc_X7_grow_118 ln_7_91 im_X7_plant (by decide) rfl rfl mk_X7_plant rfl (Nat.le_of_ble_eq_true rfl) (Nat.le_refl _) (v := (some (.inl q25.1))) (σ1 := q25.2) (lk_X7_plant_49 l d (by omega) x1 v15 q23 q25 e26) _ rfl ?_
              refine go_ops ok_X7_grow_121_1 (L' := [some (.inr 49), some (.inl q25.1), some (.inl x2), some (.inl v15)]) (st' := []) (σ1 := q25.2) rfl ?_
              refine go_goto dc_X7_grow_122 (by rfl) ?_
              refine go_wk (L' := [some (.inr 49), some (.inl q25.1), some (.inl x2), none]) ⟨rfl, rfl, rfl, trivial⟩ ?_
              exact hB_X7_grow_140 q25.1 x2 q25.2 h
    refine go_ops ok_X7_grow_0_2 (L' := [some (.inr 49), none, none, none]) (st' := [.inl (σ 49 4)]) (σ1 := σ) rfl ?_
    refine go_if_le dc_X7_grow_4 (by rfl) (fun hc => ?_) (fun hc => ?_)
    · replace h := (if_pos hc).symm.trans h
      refine go_ops ok_X7_grow_20_2 (L' := [some (.inr 49), none, none, none]) (st' := [.inr 37]) (σ1 := σ) rfl ?_
      obtain ⟨q1, e2, h⟩ := bnd_inv h
      refine go_V (M1 := m_X3_clear) (as := []) (st := []) (k := 37) (ci := 3) dc_X7_grow_24 ln_7_88 im_X3_clear (by decide) rfl rfl mk_X3_clear rfl (Nat.le_of_ble_eq_true rfl) (Nat.le_refl _) (v := none) (σ1 := q1) (lk_X3_clear l d (by omega) σ q1 e2.symm) _ rfl ?_
      obtain ⟨s3, e4, h⟩ := bnd_inv h
      obtain ⟨s5, e6, h⟩ := bnd_inv h
      obtain ⟨s7, e8, h⟩ := bnd_inv h
      obtain ⟨s9, e10, h⟩ := bnd_inv h
      refine go_ops ok_X7_grow_27_14 (L' := [some (.inr 49), none, none, none]) (st' := [.inl 0, .inr 49]) (σ1 := s9) (by subst e10; subst e8; subst e6; subst e4; rfl) ?_
      obtain ⟨s11, e12, h⟩ := bnd_inv h
      refine go_pfb (b := false) (k := 49) (ci := 7) (sl := 3) dc_X7_grow_49 (by decide +kernel) (by decide) rfl rfl (by decide +kernel) (by decide +kernel) e12 ?_
      refine go_ops ok_X7_grow_52_3 (L' := [some (.inr 49), none, none, none]) (st' := [.inl 0, .inl (-1), .inr 49]) (σ1 := s11) rfl ?_
      obtain ⟨q13, e14, h⟩ := bind_inv h
      refine go_V (M1 := m_X7_plant) (as := [.inl (-1), .inl 0]) (st := []) (k := 49) (ci := 7) dc_X7_grow_55 ln_7_91 im_X7_plant (by decide) rfl rfl mk_X7_plant rfl (Nat.le_of_ble_eq_true rfl) (Nat.le_refl _) (v := (some (.inl q13.1))) (σ1 := q13.2) (lk_X7_plant_49 l d (by omega) (-1) 0 s11 q13 e14) _ rfl ?_
      refine go_ops ok_X7_grow_58_3 (L' := [some (.inr 49), some (.inl q13.1), some (.inl 0), none]) (st' := []) (σ1 := q13.2) rfl ?_
      obtain ⟨y27, e28, h⟩ := bind_inv h
      refine hL_X7_grow_61  1001 (q13.1, 0, q13.2) y27 e28 ?_
      show Go l m_X7_grow (d + 1) LAYC (.inl (some (.inl (b2i q.1)))) q.2 146 [some (.inr 49), none, none, none] [] y27
      refine go_ops ok_X7_grow_146_2 (L' := [some (.inr 49), none, none, none]) (st' := [.inl (y27 49 3)]) (σ1 := y27) rfl ?_
      refine go_if_ne dc_X7_grow_150 (by rfl) (fun hc => ?_) (fun hc => ?_)
      · replace h := (if_neg hc).symm.trans h
        refine go_ops ok_X7_grow_157_1 (L' := [some (.inr 49), none, none, none]) (st' := [.inl 0]) (σ1 := y27) rfl ?_
        have h9 := Option.some.inj h
        subst h9
        exact go_zret (x := false) dc_X7_grow_158 rfl
      · replace h := (if_pos hc).symm.trans h
        refine go_ops ok_X7_grow_153_1 (L' := [some (.inr 49), none, none, none]) (st' := [.inl 1]) (σ1 := y27) rfl ?_
        refine go_goto dc_X7_grow_154 (by rfl) ?_
        have h9 := Option.some.inj h
        subst h9
        exact go_zret (x := true) dc_X7_grow_158 rfl
    · replace h := (if_neg hc).symm.trans h
      refine go_ops ok_X7_grow_7_2 (L' := [some (.inr 49), none, none, none]) (st' := [.inl (σ 49 3)]) (σ1 := σ) rfl ?_
      refine go_if_ne dc_X7_grow_11 (by rfl) (fun hc => ?_) (fun hc => ?_)
      · replace h := (if_neg hc).symm.trans h
        refine go_ops ok_X7_grow_18_1 (L' := [some (.inr 49), none, none, none]) (st' := [.inl 0]) (σ1 := σ) rfl ?_
        have h9 := Option.some.inj h
        subst h9
        exact go_zret (x := false) dc_X7_grow_19 rfl
      · replace h := (if_pos hc).symm.trans h
        refine go_ops ok_X7_grow_14_1 (L' := [some (.inr 49), none, none, none]) (st' := [.inl 1]) (σ1 := σ) rfl ?_
        refine go_goto dc_X7_grow_15 (by rfl) ?_
        have h9 := Option.some.inj h
        subst h9
        exact go_zret (x := true) dc_X7_grow_19 rfl
  have hf := go_ct (as := [.inr 49]) mk_X7_grow (by rfl) (Nat.le_of_ble_eq_true rfl) key
  exact hf
theorem dc_X7_bindNames_5 : decode m_X7_bindNames.2.2.1 5 = .ok (.invokevirtual 172, 3) := by decide +kernel
theorem dc_X7_bindNames_14 : decode m_X7_bindNames.2.2.1 14 = .ok (.if_icmp .ge 25, 3) := by decide +kernel
theorem dc_X7_bindNames_27 : decode m_X7_bindNames.2.2.1 27 = .ok (.invokevirtual 175, 3) := by decide +kernel
theorem dc_X7_bindNames_30 : decode m_X7_bindNames.2.2.1 30 = .ok (.invokevirtual 178, 3) := by decide +kernel
theorem dc_X7_bindNames_36 : decode m_X7_bindNames.2.2.1 36 = .ok (.goto (-25), 3) := by decide +kernel
theorem dc_X7_bindNames_39 : decode m_X7_bindNames.2.2.1 39 = .ok (.return_, 1) := by decide +kernel
theorem ok_X7_bindNames_0_3 : oks m_X7_bindNames.1 m_X7_bindNames.2.2.1 0 [(.aload_n 0, 1, (0, 0, 0)), (.getfield 50, 3, (7, 0, 0)), (.iload_n 1, 1, (0, 0, 0))] = true ∧ plen 0 [(.aload_n 0, 1, (0, 0, 0)), (.getfield 50, 3, (7, 0, 0)), (.iload_n 1, 1, (0, 0, 0))] = 5 := by decide +kernel
theorem ok_X7_bindNames_8_3 : oks m_X7_bindNames.1 m_X7_bindNames.2.2.1 8 [(.pop, 1, (0, 0, 0)), (.iconst 0, 1, (0, 0, 0)), (.istore_n 2, 1, (0, 0, 0))] = true ∧ plen 8 [(.pop, 1, (0, 0, 0)), (.iconst 0, 1, (0, 0, 0)), (.istore_n 2, 1, (0, 0, 0))] = 11 := by decide +kernel
theorem ok_X7_bindNames_11_2 : oks m_X7_bindNames.1 m_X7_bindNames.2.2.1 11 [(.iload_n 2, 1, (0, 0, 0)), (.bipush 6, 2, (0, 0, 0))] = true ∧ plen 11 [(.iload_n 2, 1, (0, 0, 0)), (.bipush 6, 2, (0, 0, 0))] = 14 := by decide +kernel
theorem ok_X7_bindNames_17_6 : oks m_X7_bindNames.1 m_X7_bindNames.2.2.1 17 [(.aload_n 0, 1, (0, 0, 0)), (.getfield 54, 3, (7, 1, 0)), (.iload_n 2, 1, (0, 0, 0)), (.aload_n 0, 1, (0, 0, 0)), (.getfield 50, 3, (7, 0, 0)), (.iload_n 2, 1, (0, 0, 0))] = true ∧ plen 17 [(.aload_n 0, 1, (0, 0, 0)), (.getfield 54, 3, (7, 1, 0)), (.iload_n 2, 1, (0, 0, 0)), (.aload_n 0, 1, (0, 0, 0)), (.getfield 50, 3, (7, 0, 0)), (.iload_n 2, 1, (0, 0, 0))] = 27 := by decide +kernel
theorem ok_X7_bindNames_33_1 : oks m_X7_bindNames.1 m_X7_bindNames.2.2.1 33 [(.iinc 2 1, 3, (0, 0, 0))] = true ∧ plen 33 [(.iinc 2 1, 3, (0, 0, 0))] = 36 := by decide +kernel
def L_X7_bindNames_11 (t : Nat) (x2 : Int) (σ : Sg) : Option ((Int × Sg) ⊕ Sg) :=
if 6 ≤ x2 then
some (.inr σ)
else
bnd (F_X1_bind x2 (F_X3_placeOf x2 σ) σ) fun q3 =>
some (.inl (wrap (x2 + 1), q3))
def F_X7_bindNames (t : Nat) (a1 : Int) (σ : Sg) : Option Sg :=
(F_X3_tryCase a1 σ).bind fun q1 =>
(iter (fun a : (Int × Sg) => L_X7_bindNames_11 t a.1 a.2) 7 (0, q1.2)).bind fun y5 =>
some y5
theorem lk_X7_bindNames_43 (l : Launch) (d : Nat) (hd : 106 ≤ d) (a1 : Int) (σ : Sg) (q : Sg) (h : F_X7_bindNames 43 a1 σ = some q) : CT l d m_X7_bindNames.2.1 m_X7_bindNames.2.2.1 m_X7_bindNames.2.2.2.1 m_X7_bindNames.2.2.2.2 [.inr 43, .inl a1] (LAYC, σ) none (LAYC, q) := by
  obtain ⟨d, rfl⟩ : ∃ e, d = e + 1 := ⟨d - 1, by omega⟩
  have key : Go l m_X7_bindNames (d + 1) LAYC (.inl none) q 0 [some (.inr 43), some (.inl a1), none] [] σ := by
    unfold F_X7_bindNames at h
    have hL_X7_bindNames_11 : ∀ (n : Nat) (a : (Int × Sg)) (y : Sg), iter (fun a : (Int × Sg) => L_X7_bindNames_11 43 a.1 a.2) n a = some y → (fun y : Sg => Go l m_X7_bindNames (d + 1) LAYC (.inl none) q 39 [none, none, none] [] y) y → (fun a : (Int × Sg) => Go l m_X7_bindNames (d + 1) LAYC (.inl none) q 11 [some (.inr 43), none, some (.inl a.1)] [] a.2) a := by
      skip
      refine go_iter (G := fun a : (Int × Sg) => Go l m_X7_bindNames (d + 1) LAYC (.inl none) q 11 [some (.inr 43), none, some (.inl a.1)] [] a.2) (K := fun y : Sg => Go l m_X7_bindNames (d + 1) LAYC (.inl none) q 39 [none, none, none] [] y) ?_
      rintro ⟨x2, σ⟩ w h hK
      replace h : L_X7_bindNames_11 43 x2 σ = some w := h
      show Go l m_X7_bindNames (d + 1) LAYC (.inl none) q 11 [some (.inr 43), none, some (.inl x2)] [] σ
      unfold L_X7_bindNames_11 at h
      refine go_ops ok_X7_bindNames_11_2 (L' := [some (.inr 43), none, some (.inl x2)]) (st' := [.inl 6, .inl x2]) (σ1 := σ) rfl ?_
      refine go_icmp_ge dc_X7_bindNames_14 (by rfl) (fun hc => ?_) (fun hc => ?_)
      · replace h := (if_pos hc).symm.trans h
        cases h
        refine go_wk (L' := [none, none, none]) trivial ?_
        exact hK
      · replace h := (if_neg hc).symm.trans h
        refine go_ops ok_X7_bindNames_17_6 (L' := [some (.inr 43), none, some (.inl x2)]) (st' := [.inl x2, .inr 37, .inl x2, .inr 27]) (σ1 := σ) rfl ?_
        refine go_V (M1 := m_X3_placeOf) (as := [.inl x2]) (st := [.inl x2, .inr 27]) (k := 37) (ci := 3) dc_X7_bindNames_27 ln_7_175 im_X3_placeOf (by decide) rfl rfl mk_X3_placeOf rfl (Nat.le_of_ble_eq_true rfl) (Nat.le_refl _) (v := (some (.inl (F_X3_placeOf x2 σ)))) (σ1 := σ) (lk_X3_placeOf l d (by omega) x2 σ _ rfl) _ rfl ?_
        obtain ⟨q3, e4, h⟩ := bnd_inv h
        refine go_V (M1 := m_X1_bind) (as := [.inl x2, .inl (F_X3_placeOf x2 σ)]) (st := []) (k := 27) (ci := 1) dc_X7_bindNames_30 ln_7_178 im_X1_bind (by decide) rfl rfl mk_X1_bind rfl (Nat.le_of_ble_eq_true rfl) (Nat.le_refl _) (v := none) (σ1 := q3) (lk_X1_bind l d (by omega) x2 (F_X3_placeOf x2 σ) σ q3 e4.symm) _ rfl ?_
        refine go_ops ok_X7_bindNames_33_1 (L' := [some (.inr 43), none, some (.inl (wrap (x2 + 1)))]) (st' := []) (σ1 := q3) rfl ?_
        refine go_goto dc_X7_bindNames_36 (by rfl) ?_
        cases h
        exact hK
    refine go_ops ok_X7_bindNames_0_3 (L' := [some (.inr 43), some (.inl a1), none]) (st' := [.inl a1, .inr 37]) (σ1 := σ) rfl ?_
    obtain ⟨q1, e2, h⟩ := bind_inv h
    refine go_V (M1 := m_X3_tryCase) (as := [.inl a1]) (st := []) (k := 37) (ci := 3) dc_X7_bindNames_5 ln_7_172 im_X3_tryCase (by decide) rfl rfl mk_X3_tryCase rfl (Nat.le_of_ble_eq_true rfl) (Nat.le_refl _) (v := (some (.inl q1.1))) (σ1 := q1.2) (lk_X3_tryCase l d (by omega) a1 σ q1 e2) _ rfl ?_
    refine go_ops ok_X7_bindNames_8_3 (L' := [some (.inr 43), some (.inl a1), some (.inl 0)]) (st' := []) (σ1 := q1.2) rfl ?_
    refine go_wk (L' := [some (.inr 43), none, some (.inl 0)]) ⟨rfl, rfl, trivial⟩ ?_
    obtain ⟨y5, e6, h⟩ := bind_inv h
    refine hL_X7_bindNames_11  7 (0, q1.2) y5 e6 ?_
    show Go l m_X7_bindNames (d + 1) LAYC (.inl none) q 39 [none, none, none] [] y5
    have h9 := Option.some.inj h
    subst h9
    exact go_vret dc_X7_bindNames_39 rfl
  have hf := go_ct (as := [.inr 43, .inl a1]) mk_X7_bindNames (by rfl) (Nat.le_of_ble_eq_true rfl) key
  exact hf
theorem lk_X7_bindNames_49 (l : Launch) (d : Nat) (hd : 106 ≤ d) (a1 : Int) (σ : Sg) (q : Sg) (h : F_X7_bindNames 49 a1 σ = some q) : CT l d m_X7_bindNames.2.1 m_X7_bindNames.2.2.1 m_X7_bindNames.2.2.2.1 m_X7_bindNames.2.2.2.2 [.inr 49, .inl a1] (LAYC, σ) none (LAYC, q) := by
  obtain ⟨d, rfl⟩ : ∃ e, d = e + 1 := ⟨d - 1, by omega⟩
  have key : Go l m_X7_bindNames (d + 1) LAYC (.inl none) q 0 [some (.inr 49), some (.inl a1), none] [] σ := by
    unfold F_X7_bindNames at h
    have hL_X7_bindNames_11 : ∀ (n : Nat) (a : (Int × Sg)) (y : Sg), iter (fun a : (Int × Sg) => L_X7_bindNames_11 49 a.1 a.2) n a = some y → (fun y : Sg => Go l m_X7_bindNames (d + 1) LAYC (.inl none) q 39 [none, none, none] [] y) y → (fun a : (Int × Sg) => Go l m_X7_bindNames (d + 1) LAYC (.inl none) q 11 [some (.inr 49), none, some (.inl a.1)] [] a.2) a := by
      skip
      refine go_iter (G := fun a : (Int × Sg) => Go l m_X7_bindNames (d + 1) LAYC (.inl none) q 11 [some (.inr 49), none, some (.inl a.1)] [] a.2) (K := fun y : Sg => Go l m_X7_bindNames (d + 1) LAYC (.inl none) q 39 [none, none, none] [] y) ?_
      rintro ⟨x2, σ⟩ w h hK
      replace h : L_X7_bindNames_11 49 x2 σ = some w := h
      show Go l m_X7_bindNames (d + 1) LAYC (.inl none) q 11 [some (.inr 49), none, some (.inl x2)] [] σ
      unfold L_X7_bindNames_11 at h
      refine go_ops ok_X7_bindNames_11_2 (L' := [some (.inr 49), none, some (.inl x2)]) (st' := [.inl 6, .inl x2]) (σ1 := σ) rfl ?_
      refine go_icmp_ge dc_X7_bindNames_14 (by rfl) (fun hc => ?_) (fun hc => ?_)
      · replace h := (if_pos hc).symm.trans h
        cases h
        refine go_wk (L' := [none, none, none]) trivial ?_
        exact hK
      · replace h := (if_neg hc).symm.trans h
        refine go_ops ok_X7_bindNames_17_6 (L' := [some (.inr 49), none, some (.inl x2)]) (st' := [.inl x2, .inr 37, .inl x2, .inr 27]) (σ1 := σ) rfl ?_
        refine go_V (M1 := m_X3_placeOf) (as := [.inl x2]) (st := [.inl x2, .inr 27]) (k := 37) (ci := 3) dc_X7_bindNames_27 ln_7_175 im_X3_placeOf (by decide) rfl rfl mk_X3_placeOf rfl (Nat.le_of_ble_eq_true rfl) (Nat.le_refl _) (v := (some (.inl (F_X3_placeOf x2 σ)))) (σ1 := σ) (lk_X3_placeOf l d (by omega) x2 σ _ rfl) _ rfl ?_
        obtain ⟨q3, e4, h⟩ := bnd_inv h
        refine go_V (M1 := m_X1_bind) (as := [.inl x2, .inl (F_X3_placeOf x2 σ)]) (st := []) (k := 27) (ci := 1) dc_X7_bindNames_30 ln_7_178 im_X1_bind (by decide) rfl rfl mk_X1_bind rfl (Nat.le_of_ble_eq_true rfl) (Nat.le_refl _) (v := none) (σ1 := q3) (lk_X1_bind l d (by omega) x2 (F_X3_placeOf x2 σ) σ q3 e4.symm) _ rfl ?_
        refine go_ops ok_X7_bindNames_33_1 (L' := [some (.inr 49), none, some (.inl (wrap (x2 + 1)))]) (st' := []) (σ1 := q3) rfl ?_
        refine go_goto dc_X7_bindNames_36 (by rfl) ?_
        cases h
        exact hK
    refine go_ops ok_X7_bindNames_0_3 (L' := [some (.inr 49), some (.inl a1), none]) (st' := [.inl a1, .inr 37]) (σ1 := σ) rfl ?_
    obtain ⟨q1, e2, h⟩ := bind_inv h
    refine go_V (M1 := m_X3_tryCase) (as := [.inl a1]) (st := []) (k := 37) (ci := 3) dc_X7_bindNames_5 ln_7_172 im_X3_tryCase (by decide) rfl rfl mk_X3_tryCase rfl (Nat.le_of_ble_eq_true rfl) (Nat.le_refl _) (v := (some (.inl q1.1))) (σ1 := q1.2) (lk_X3_tryCase l d (by omega) a1 σ q1 e2) _ rfl ?_
    refine go_ops ok_X7_bindNames_8_3 (L' := [some (.inr 49), some (.inl a1), some (.inl 0)]) (st' := []) (σ1 := q1.2) rfl ?_
    refine go_wk (L' := [some (.inr 49), none, some (.inl 0)]) ⟨rfl, rfl, trivial⟩ ?_
    obtain ⟨y5, e6, h⟩ := bind_inv h
    refine hL_X7_bindNames_11  7 (0, q1.2) y5 e6 ?_
    show Go l m_X7_bindNames (d + 1) LAYC (.inl none) q 39 [none, none, none] [] y5
    have h9 := Option.some.inj h
    subst h9
    exact go_vret dc_X7_bindNames_39 rfl
  have hf := go_ct (as := [.inr 49, .inl a1]) mk_X7_bindNames (by rfl) (Nat.le_of_ble_eq_true rfl) key
  exact hf
theorem dc_X7_branchTaken_2 : decode m_X7_branchTaken.2.2.1 2 = .ok (.invokevirtual 71, 3) := by decide +kernel
theorem dc_X7_branchTaken_8 : decode m_X7_branchTaken.2.2.1 8 = .ok (.invokevirtual 65, 3) := by decide +kernel
theorem dc_X7_branchTaken_12 : decode m_X7_branchTaken.2.2.1 12 = .ok (.if_icmp .ne 25, 3) := by decide +kernel
theorem dc_X7_branchTaken_17 : decode m_X7_branchTaken.2.2.1 17 = .ok (.invokevirtual 143, 3) := by decide +kernel
theorem dc_X7_branchTaken_25 : decode m_X7_branchTaken.2.2.1 25 = .ok (.invokevirtual 157, 3) := by decide +kernel
theorem dc_X7_branchTaken_28 : decode m_X7_branchTaken.2.2.1 28 = .ok (.ifCond .ne 7, 3) := by decide +kernel
theorem dc_X7_branchTaken_32 : decode m_X7_branchTaken.2.2.1 32 = .ok (.goto 4, 3) := by decide +kernel
theorem dc_X7_branchTaken_36 : decode m_X7_branchTaken.2.2.1 36 = .ok (.ireturn, 1) := by decide +kernel
theorem dc_X7_branchTaken_41 : decode m_X7_branchTaken.2.2.1 41 = .ok (.invokevirtual 160, 3) := by decide +kernel
theorem dc_X7_branchTaken_46 : decode m_X7_branchTaken.2.2.1 46 = .ok (.invokevirtual 65, 3) := by decide +kernel
theorem dc_X7_branchTaken_50 : decode m_X7_branchTaken.2.2.1 50 = .ok (.if_icmp .ne 17, 3) := by decide +kernel
theorem dc_X7_branchTaken_59 : decode m_X7_branchTaken.2.2.1 59 = .ok (.invokevirtual 132, 3) := by decide +kernel
theorem dc_X7_branchTaken_63 : decode m_X7_branchTaken.2.2.1 63 = .ok (.invokevirtual 163, 3) := by decide +kernel
theorem dc_X7_branchTaken_66 : decode m_X7_branchTaken.2.2.1 66 = .ok (.ireturn, 1) := by decide +kernel
theorem dc_X7_branchTaken_72 : decode m_X7_branchTaken.2.2.1 72 = .ok (.invokevirtual 166, 3) := by decide +kernel
theorem dc_X7_branchTaken_80 : decode m_X7_branchTaken.2.2.1 80 = .ok (.invokevirtual 169, 3) := by decide +kernel
theorem dc_X7_branchTaken_83 : decode m_X7_branchTaken.2.2.1 83 = .ok (.ireturn, 1) := by decide +kernel
theorem ok_X7_branchTaken_0_2 : oks m_X7_branchTaken.1 m_X7_branchTaken.2.2.1 0 [(.aload_n 0, 1, (0, 0, 0)), (.iload_n 1, 1, (0, 0, 0))] = true ∧ plen 0 [(.aload_n 0, 1, (0, 0, 0)), (.iload_n 1, 1, (0, 0, 0))] = 2 := by decide +kernel
theorem ok_X7_branchTaken_5_3 : oks m_X7_branchTaken.1 m_X7_branchTaken.2.2.1 5 [(.istore_n 2, 1, (0, 0, 0)), (.aload_n 0, 1, (0, 0, 0)), (.iload_n 1, 1, (0, 0, 0))] = true ∧ plen 5 [(.istore_n 2, 1, (0, 0, 0)), (.aload_n 0, 1, (0, 0, 0)), (.iload_n 1, 1, (0, 0, 0))] = 8 := by decide +kernel
theorem ok_X7_branchTaken_11_1 : oks m_X7_branchTaken.1 m_X7_branchTaken.2.2.1 11 [(.iconst 5, 1, (0, 0, 0))] = true ∧ plen 11 [(.iconst 5, 1, (0, 0, 0))] = 12 := by decide +kernel
theorem ok_X7_branchTaken_15_2 : oks m_X7_branchTaken.1 m_X7_branchTaken.2.2.1 15 [(.aload_n 0, 1, (0, 0, 0)), (.iload_n 2, 1, (0, 0, 0))] = true ∧ plen 15 [(.aload_n 0, 1, (0, 0, 0)), (.iload_n 2, 1, (0, 0, 0))] = 17 := by decide +kernel
theorem ok_X7_branchTaken_20_3 : oks m_X7_branchTaken.1 m_X7_branchTaken.2.2.1 20 [(.aload_n 0, 1, (0, 0, 0)), (.getfield 54, 3, (7, 1, 0)), (.iload_n 2, 1, (0, 0, 0))] = true ∧ plen 20 [(.aload_n 0, 1, (0, 0, 0)), (.getfield 54, 3, (7, 1, 0)), (.iload_n 2, 1, (0, 0, 0))] = 25 := by decide +kernel
theorem ok_X7_branchTaken_31_1 : oks m_X7_branchTaken.1 m_X7_branchTaken.2.2.1 31 [(.iconst 0, 1, (0, 0, 0))] = true ∧ plen 31 [(.iconst 0, 1, (0, 0, 0))] = 32 := by decide +kernel
theorem ok_X7_branchTaken_35_1 : oks m_X7_branchTaken.1 m_X7_branchTaken.2.2.1 35 [(.iconst 1, 1, (0, 0, 0))] = true ∧ plen 35 [(.iconst 1, 1, (0, 0, 0))] = 36 := by decide +kernel
theorem ok_X7_branchTaken_37_2 : oks m_X7_branchTaken.1 m_X7_branchTaken.2.2.1 37 [(.aload_n 0, 1, (0, 0, 0)), (.getfield 54, 3, (7, 1, 0))] = true ∧ plen 37 [(.aload_n 0, 1, (0, 0, 0)), (.getfield 54, 3, (7, 1, 0))] = 41 := by decide +kernel
theorem ok_X7_branchTaken_44_2 : oks m_X7_branchTaken.1 m_X7_branchTaken.2.2.1 44 [(.aload_n 0, 1, (0, 0, 0)), (.iload_n 1, 1, (0, 0, 0))] = true ∧ plen 44 [(.aload_n 0, 1, (0, 0, 0)), (.iload_n 1, 1, (0, 0, 0))] = 46 := by decide +kernel
theorem ok_X7_branchTaken_49_1 : oks m_X7_branchTaken.1 m_X7_branchTaken.2.2.1 49 [(.iconst 4, 1, (0, 0, 0))] = true ∧ plen 49 [(.iconst 4, 1, (0, 0, 0))] = 50 := by decide +kernel
theorem ok_X7_branchTaken_53_4 : oks m_X7_branchTaken.1 m_X7_branchTaken.2.2.1 53 [(.aload_n 0, 1, (0, 0, 0)), (.getfield 54, 3, (7, 1, 0)), (.aload_n 0, 1, (0, 0, 0)), (.iload_n 1, 1, (0, 0, 0))] = true ∧ plen 53 [(.aload_n 0, 1, (0, 0, 0)), (.getfield 54, 3, (7, 1, 0)), (.aload_n 0, 1, (0, 0, 0)), (.iload_n 1, 1, (0, 0, 0))] = 59 := by decide +kernel
theorem ok_X7_branchTaken_62_1 : oks m_X7_branchTaken.1 m_X7_branchTaken.2.2.1 62 [(.iload_n 2, 1, (0, 0, 0))] = true ∧ plen 62 [(.iload_n 2, 1, (0, 0, 0))] = 63 := by decide +kernel
theorem ok_X7_branchTaken_67_3 : oks m_X7_branchTaken.1 m_X7_branchTaken.2.2.1 67 [(.aload_n 0, 1, (0, 0, 0)), (.getfield 54, 3, (7, 1, 0)), (.iload_n 2, 1, (0, 0, 0))] = true ∧ plen 67 [(.aload_n 0, 1, (0, 0, 0)), (.getfield 54, 3, (7, 1, 0)), (.iload_n 2, 1, (0, 0, 0))] = 72 := by decide +kernel
theorem ok_X7_branchTaken_75_3 : oks m_X7_branchTaken.1 m_X7_branchTaken.2.2.1 75 [(.aload_n 0, 1, (0, 0, 0)), (.getfield 54, 3, (7, 1, 0)), (.iload_n 2, 1, (0, 0, 0))] = true ∧ plen 75 [(.aload_n 0, 1, (0, 0, 0)), (.getfield 54, 3, (7, 1, 0)), (.iload_n 2, 1, (0, 0, 0))] = 80 := by decide +kernel
def F_X7_branchTaken (t : Nat) (a1 : Int) (σ : Sg) : Option (Int × Sg) :=
bnd (F_X7_whatOf t a1 σ) fun v1 =>
if (F_X7_sortOf t a1 σ) = 5 then
(F_X7_bindNames t v1 σ).bind fun q9 =>
if (F_X1_guardOf v1 q9) = 0 then
some (0, q9)
else
some (1, q9)
else
bnd (F_X1_countTest σ) fun q3 =>
if (F_X7_sortOf t a1 q3) = 4 then
(F_X1_look (F_X7_whichOf t a1 q3) v1 q3).bind fun q7 =>
some (q7.1, q7.2)
else
(F_X1_open v1 q3).bind fun q5 =>
some (F_X1_headAt v1 q5, q5)
theorem lk_X7_branchTaken_43 (l : Launch) (d : Nat) (hd : 107 ≤ d) (a1 : Int) (σ : Sg) (q : (Int × Sg)) (h : F_X7_branchTaken 43 a1 σ = some q) : CT l d m_X7_branchTaken.2.1 m_X7_branchTaken.2.2.1 m_X7_branchTaken.2.2.2.1 m_X7_branchTaken.2.2.2.2 [.inr 43, .inl a1] (LAYC, σ) (some (.inl q.1)) (LAYC, q.2) := by
  obtain ⟨d, rfl⟩ : ∃ e, d = e + 1 := ⟨d - 1, by omega⟩
  have key : Go l m_X7_branchTaken (d + 1) LAYC (.inl (some (.inl q.1))) q.2 0 [some (.inr 43), some (.inl a1), none] [] σ := by
    unfold F_X7_branchTaken at h
    refine go_ops ok_X7_branchTaken_0_2 (L' := [some (.inr 43), some (.inl a1), none]) (st' := [.inl a1, .inr 43]) (σ1 := σ) rfl ?_
    refine go_V (M1 := m_X7_whatOf) (as := [.inl a1]) (st := []) (k := 43) (ci := 7) dc_X7_branchTaken_2 ln_7_71 im_X7_whatOf (by decide) rfl rfl mk_X7_whatOf rfl (Nat.le_of_ble_eq_true rfl) (Nat.le_refl _) (v := (some (.inl (F_X7_whatOf 43 a1 σ)))) (σ1 := σ) (lk_X7_whatOf_43 l d (by omega) a1 σ _ rfl) _ rfl ?_
    obtain ⟨v1, e2, h⟩ := bnd_inv h
    refine go_ops ok_X7_branchTaken_5_3 (L' := [some (.inr 43), some (.inl a1), some (.inl v1)]) (st' := [.inl a1, .inr 43]) (σ1 := σ) (by subst e2; rfl) ?_
    refine go_V (M1 := m_X7_sortOf) (as := [.inl a1]) (st := []) (k := 43) (ci := 7) dc_X7_branchTaken_8 ln_7_65 im_X7_sortOf (by decide) rfl rfl mk_X7_sortOf rfl (Nat.le_of_ble_eq_true rfl) (Nat.le_refl _) (v := (some (.inl (F_X7_sortOf 43 a1 σ)))) (σ1 := σ) (lk_X7_sortOf_43 l d (by omega) a1 σ _ rfl) _ rfl ?_
    refine go_ops ok_X7_branchTaken_11_1 (L' := [some (.inr 43), some (.inl a1), some (.inl v1)]) (st' := [.inl 5, .inl (F_X7_sortOf 43 a1 σ)]) (σ1 := σ) rfl ?_
    refine go_icmp_ne dc_X7_branchTaken_12 (by rfl) (fun hc => ?_) (fun hc => ?_)
    · replace h := (if_neg hc).symm.trans h
      refine go_ops ok_X7_branchTaken_37_2 (L' := [some (.inr 43), some (.inl a1), some (.inl v1)]) (st' := [.inr 27]) (σ1 := σ) rfl ?_
      obtain ⟨q3, e4, h⟩ := bnd_inv h
      refine go_V (M1 := m_X1_countTest) (as := []) (st := []) (k := 27) (ci := 1) dc_X7_branchTaken_41 ln_7_160 im_X1_countTest (by decide) rfl rfl mk_X1_countTest rfl (Nat.le_of_ble_eq_true rfl) (Nat.le_refl _) (v := none) (σ1 := q3) (lk_X1_countTest l d (by omega) σ q3 e4.symm) _ rfl ?_
      refine go_ops ok_X7_branchTaken_44_2 (L' := [some (.inr 43), some (.inl a1), some (.inl v1)]) (st' := [.inl a1, .inr 43]) (σ1 := q3) rfl ?_
      refine go_V (M1 := m_X7_sortOf) (as := [.inl a1]) (st := []) (k := 43) (ci := 7) dc_X7_branchTaken_46 ln_7_65 im_X7_sortOf (by decide) rfl rfl mk_X7_sortOf rfl (Nat.le_of_ble_eq_true rfl) (Nat.le_refl _) (v := (some (.inl (F_X7_sortOf 43 a1 q3)))) (σ1 := q3) (lk_X7_sortOf_43 l d (by omega) a1 q3 _ rfl) _ rfl ?_
      refine go_ops ok_X7_branchTaken_49_1 (L' := [some (.inr 43), some (.inl a1), some (.inl v1)]) (st' := [.inl 4, .inl (F_X7_sortOf 43 a1 q3)]) (σ1 := q3) rfl ?_
      refine go_icmp_ne dc_X7_branchTaken_50 (by rfl) (fun hc => ?_) (fun hc => ?_)
      · replace h := (if_neg hc).symm.trans h
        refine go_ops ok_X7_branchTaken_67_3 (L' := [some (.inr 43), some (.inl a1), some (.inl v1)]) (st' := [.inl v1, .inr 27]) (σ1 := q3) rfl ?_
        obtain ⟨q5, e6, h⟩ := bind_inv h
        refine go_V (M1 := m_X1_open) (as := [.inl v1]) (st := []) (k := 27) (ci := 1) dc_X7_branchTaken_72 ln_7_166 im_X1_open (by decide) rfl rfl mk_X1_open rfl (Nat.le_of_ble_eq_true rfl) (Nat.le_refl _) (v := none) (σ1 := q5) (lk_X1_open l d (by omega) v1 q3 q5 e6) _ rfl ?_
        refine go_ops ok_X7_branchTaken_75_3 (L' := [some (.inr 43), some (.inl a1), some (.inl v1)]) (st' := [.inl v1, .inr 27]) (σ1 := q5) rfl ?_
        refine go_V (M1 := m_X1_headAt) (as := [.inl v1]) (st := []) (k := 27) (ci := 1) dc_X7_branchTaken_80 ln_7_169 im_X1_headAt (by decide) rfl rfl mk_X1_headAt rfl (Nat.le_of_ble_eq_true rfl) (Nat.le_refl _) (v := (some (.inl (F_X1_headAt v1 q5)))) (σ1 := q5) (lk_X1_headAt l d (by omega) v1 q5 _ rfl) _ rfl ?_
        have h9 := Option.some.inj h
        subst h9
        exact go_iret dc_X7_branchTaken_83 rfl
      · replace h := (if_pos hc).symm.trans h
        refine go_ops ok_X7_branchTaken_53_4 (L' := [some (.inr 43), some (.inl a1), some (.inl v1)]) (st' := [.inl a1, .inr 43, .inr 27]) (σ1 := q3) rfl ?_
        refine go_V (M1 := m_X7_whichOf) (as := [.inl a1]) (st := [.inr 27]) (k := 43) (ci := 7) dc_X7_branchTaken_59 ln_7_132 im_X7_whichOf (by decide) rfl rfl mk_X7_whichOf rfl (Nat.le_of_ble_eq_true rfl) (Nat.le_refl _) (v := (some (.inl (F_X7_whichOf 43 a1 q3)))) (σ1 := q3) (lk_X7_whichOf_43 l d (by omega) a1 q3 _ rfl) _ rfl ?_
        refine go_ops ok_X7_branchTaken_62_1 (L' := [some (.inr 43), some (.inl a1), some (.inl v1)]) (st' := [.inl v1, .inl (F_X7_whichOf 43 a1 q3), .inr 27]) (σ1 := q3) rfl ?_
        obtain ⟨q7, e8, h⟩ := bind_inv h
        refine go_V (M1 := m_X1_look) (as := [.inl (F_X7_whichOf 43 a1 q3), .inl v1]) (st := []) (k := 27) (ci := 1) dc_X7_branchTaken_63 ln_7_163 im_X1_look (by decide) rfl rfl mk_X1_look rfl (Nat.le_of_ble_eq_true rfl) (Nat.le_refl _) (v := (some (.inl q7.1))) (σ1 := q7.2) (lk_X1_look l d (by omega) (F_X7_whichOf 43 a1 q3) v1 q3 q7 e8) _ rfl ?_
        have h9 := Option.some.inj h
        subst h9
        exact go_iret dc_X7_branchTaken_66 rfl
    · replace h := (if_pos hc).symm.trans h
      refine go_ops ok_X7_branchTaken_15_2 (L' := [some (.inr 43), some (.inl a1), some (.inl v1)]) (st' := [.inl v1, .inr 43]) (σ1 := σ) rfl ?_
      obtain ⟨q9, e10, h⟩ := bind_inv h
      refine go_V (M1 := m_X7_bindNames) (as := [.inl v1]) (st := []) (k := 43) (ci := 7) dc_X7_branchTaken_17 ln_7_143 im_X7_bindNames (by decide) rfl rfl mk_X7_bindNames rfl (Nat.le_of_ble_eq_true rfl) (Nat.le_refl _) (v := none) (σ1 := q9) (lk_X7_bindNames_43 l d (by omega) v1 σ q9 e10) _ rfl ?_
      refine go_ops ok_X7_branchTaken_20_3 (L' := [some (.inr 43), some (.inl a1), some (.inl v1)]) (st' := [.inl v1, .inr 27]) (σ1 := q9) rfl ?_
      refine go_V (M1 := m_X1_guardOf) (as := [.inl v1]) (st := []) (k := 27) (ci := 1) dc_X7_branchTaken_25 ln_7_157 im_X1_guardOf (by decide) rfl rfl mk_X1_guardOf rfl (Nat.le_of_ble_eq_true rfl) (Nat.le_refl _) (v := (some (.inl (F_X1_guardOf v1 q9)))) (σ1 := q9) (lk_X1_guardOf l d (by omega) v1 q9 _ rfl) _ rfl ?_
      refine go_if_ne dc_X7_branchTaken_28 (by rfl) (fun hc => ?_) (fun hc => ?_)
      · replace h := (if_neg hc).symm.trans h
        refine go_ops ok_X7_branchTaken_35_1 (L' := [some (.inr 43), some (.inl a1), some (.inl v1)]) (st' := [.inl 1]) (σ1 := q9) rfl ?_
        have h9 := Option.some.inj h
        subst h9
        exact go_iret dc_X7_branchTaken_36 rfl
      · replace h := (if_pos hc).symm.trans h
        refine go_ops ok_X7_branchTaken_31_1 (L' := [some (.inr 43), some (.inl a1), some (.inl v1)]) (st' := [.inl 0]) (σ1 := q9) rfl ?_
        refine go_goto dc_X7_branchTaken_32 (by rfl) ?_
        have h9 := Option.some.inj h
        subst h9
        exact go_iret dc_X7_branchTaken_36 rfl
  have hf := go_ct (as := [.inr 43, .inl a1]) mk_X7_branchTaken (by rfl) (Nat.le_of_ble_eq_true rfl) key
  exact hf
theorem lk_X7_branchTaken_49 (l : Launch) (d : Nat) (hd : 107 ≤ d) (a1 : Int) (σ : Sg) (q : (Int × Sg)) (h : F_X7_branchTaken 49 a1 σ = some q) : CT l d m_X7_branchTaken.2.1 m_X7_branchTaken.2.2.1 m_X7_branchTaken.2.2.2.1 m_X7_branchTaken.2.2.2.2 [.inr 49, .inl a1] (LAYC, σ) (some (.inl q.1)) (LAYC, q.2) := by
  obtain ⟨d, rfl⟩ : ∃ e, d = e + 1 := ⟨d - 1, by omega⟩
  have key : Go l m_X7_branchTaken (d + 1) LAYC (.inl (some (.inl q.1))) q.2 0 [some (.inr 49), some (.inl a1), none] [] σ := by
    unfold F_X7_branchTaken at h
    refine go_ops ok_X7_branchTaken_0_2 (L' := [some (.inr 49), some (.inl a1), none]) (st' := [.inl a1, .inr 49]) (σ1 := σ) rfl ?_
    refine go_V (M1 := m_X7_whatOf) (as := [.inl a1]) (st := []) (k := 49) (ci := 7) dc_X7_branchTaken_2 ln_7_71 im_X7_whatOf (by decide) rfl rfl mk_X7_whatOf rfl (Nat.le_of_ble_eq_true rfl) (Nat.le_refl _) (v := (some (.inl (F_X7_whatOf 49 a1 σ)))) (σ1 := σ) (lk_X7_whatOf_49 l d (by omega) a1 σ _ rfl) _ rfl ?_
    obtain ⟨v1, e2, h⟩ := bnd_inv h
    refine go_ops ok_X7_branchTaken_5_3 (L' := [some (.inr 49), some (.inl a1), some (.inl v1)]) (st' := [.inl a1, .inr 49]) (σ1 := σ) (by subst e2; rfl) ?_
    refine go_V (M1 := m_X7_sortOf) (as := [.inl a1]) (st := []) (k := 49) (ci := 7) dc_X7_branchTaken_8 ln_7_65 im_X7_sortOf (by decide) rfl rfl mk_X7_sortOf rfl (Nat.le_of_ble_eq_true rfl) (Nat.le_refl _) (v := (some (.inl (F_X7_sortOf 49 a1 σ)))) (σ1 := σ) (lk_X7_sortOf_49 l d (by omega) a1 σ _ rfl) _ rfl ?_
    refine go_ops ok_X7_branchTaken_11_1 (L' := [some (.inr 49), some (.inl a1), some (.inl v1)]) (st' := [.inl 5, .inl (F_X7_sortOf 49 a1 σ)]) (σ1 := σ) rfl ?_
    refine go_icmp_ne dc_X7_branchTaken_12 (by rfl) (fun hc => ?_) (fun hc => ?_)
    · replace h := (if_neg hc).symm.trans h
      refine go_ops ok_X7_branchTaken_37_2 (L' := [some (.inr 49), some (.inl a1), some (.inl v1)]) (st' := [.inr 27]) (σ1 := σ) rfl ?_
      obtain ⟨q3, e4, h⟩ := bnd_inv h
      refine go_V (M1 := m_X1_countTest) (as := []) (st := []) (k := 27) (ci := 1) dc_X7_branchTaken_41 ln_7_160 im_X1_countTest (by decide) rfl rfl mk_X1_countTest rfl (Nat.le_of_ble_eq_true rfl) (Nat.le_refl _) (v := none) (σ1 := q3) (lk_X1_countTest l d (by omega) σ q3 e4.symm) _ rfl ?_
      refine go_ops ok_X7_branchTaken_44_2 (L' := [some (.inr 49), some (.inl a1), some (.inl v1)]) (st' := [.inl a1, .inr 49]) (σ1 := q3) rfl ?_
      refine go_V (M1 := m_X7_sortOf) (as := [.inl a1]) (st := []) (k := 49) (ci := 7) dc_X7_branchTaken_46 ln_7_65 im_X7_sortOf (by decide) rfl rfl mk_X7_sortOf rfl (Nat.le_of_ble_eq_true rfl) (Nat.le_refl _) (v := (some (.inl (F_X7_sortOf 49 a1 q3)))) (σ1 := q3) (lk_X7_sortOf_49 l d (by omega) a1 q3 _ rfl) _ rfl ?_
      refine go_ops ok_X7_branchTaken_49_1 (L' := [some (.inr 49), some (.inl a1), some (.inl v1)]) (st' := [.inl 4, .inl (F_X7_sortOf 49 a1 q3)]) (σ1 := q3) rfl ?_
      refine go_icmp_ne dc_X7_branchTaken_50 (by rfl) (fun hc => ?_) (fun hc => ?_)
      · replace h := (if_neg hc).symm.trans h
        refine go_ops ok_X7_branchTaken_67_3 (L' := [some (.inr 49), some (.inl a1), some (.inl v1)]) (st' := [.inl v1, .inr 27]) (σ1 := q3) rfl ?_
        obtain ⟨q5, e6, h⟩ := bind_inv h
        refine go_V (M1 := m_X1_open) (as := [.inl v1]) (st := []) (k := 27) (ci := 1) dc_X7_branchTaken_72 ln_7_166 im_X1_open (by decide) rfl rfl mk_X1_open rfl (Nat.le_of_ble_eq_true rfl) (Nat.le_refl _) (v := none) (σ1 := q5) (lk_X1_open l d (by omega) v1 q3 q5 e6) _ rfl ?_
        refine go_ops ok_X7_branchTaken_75_3 (L' := [some (.inr 49), some (.inl a1), some (.inl v1)]) (st' := [.inl v1, .inr 27]) (σ1 := q5) rfl ?_
        refine go_V (M1 := m_X1_headAt) (as := [.inl v1]) (st := []) (k := 27) (ci := 1) dc_X7_branchTaken_80 ln_7_169 im_X1_headAt (by decide) rfl rfl mk_X1_headAt rfl (Nat.le_of_ble_eq_true rfl) (Nat.le_refl _) (v := (some (.inl (F_X1_headAt v1 q5)))) (σ1 := q5) (lk_X1_headAt l d (by omega) v1 q5 _ rfl) _ rfl ?_
        have h9 := Option.some.inj h
        subst h9
        exact go_iret dc_X7_branchTaken_83 rfl
      · replace h := (if_pos hc).symm.trans h
        refine go_ops ok_X7_branchTaken_53_4 (L' := [some (.inr 49), some (.inl a1), some (.inl v1)]) (st' := [.inl a1, .inr 49, .inr 27]) (σ1 := q3) rfl ?_
        refine go_V (M1 := m_X7_whichOf) (as := [.inl a1]) (st := [.inr 27]) (k := 49) (ci := 7) dc_X7_branchTaken_59 ln_7_132 im_X7_whichOf (by decide) rfl rfl mk_X7_whichOf rfl (Nat.le_of_ble_eq_true rfl) (Nat.le_refl _) (v := (some (.inl (F_X7_whichOf 49 a1 q3)))) (σ1 := q3) (lk_X7_whichOf_49 l d (by omega) a1 q3 _ rfl) _ rfl ?_
        refine go_ops ok_X7_branchTaken_62_1 (L' := [some (.inr 49), some (.inl a1), some (.inl v1)]) (st' := [.inl v1, .inl (F_X7_whichOf 49 a1 q3), .inr 27]) (σ1 := q3) rfl ?_
        obtain ⟨q7, e8, h⟩ := bind_inv h
        refine go_V (M1 := m_X1_look) (as := [.inl (F_X7_whichOf 49 a1 q3), .inl v1]) (st := []) (k := 27) (ci := 1) dc_X7_branchTaken_63 ln_7_163 im_X1_look (by decide) rfl rfl mk_X1_look rfl (Nat.le_of_ble_eq_true rfl) (Nat.le_refl _) (v := (some (.inl q7.1))) (σ1 := q7.2) (lk_X1_look l d (by omega) (F_X7_whichOf 49 a1 q3) v1 q3 q7 e8) _ rfl ?_
        have h9 := Option.some.inj h
        subst h9
        exact go_iret dc_X7_branchTaken_66 rfl
    · replace h := (if_pos hc).symm.trans h
      refine go_ops ok_X7_branchTaken_15_2 (L' := [some (.inr 49), some (.inl a1), some (.inl v1)]) (st' := [.inl v1, .inr 49]) (σ1 := σ) rfl ?_
      obtain ⟨q9, e10, h⟩ := bind_inv h
      refine go_V (M1 := m_X7_bindNames) (as := [.inl v1]) (st := []) (k := 49) (ci := 7) dc_X7_branchTaken_17 ln_7_143 im_X7_bindNames (by decide) rfl rfl mk_X7_bindNames rfl (Nat.le_of_ble_eq_true rfl) (Nat.le_refl _) (v := none) (σ1 := q9) (lk_X7_bindNames_49 l d (by omega) v1 σ q9 e10) _ rfl ?_
      refine go_ops ok_X7_branchTaken_20_3 (L' := [some (.inr 49), some (.inl a1), some (.inl v1)]) (st' := [.inl v1, .inr 27]) (σ1 := q9) rfl ?_
      refine go_V (M1 := m_X1_guardOf) (as := [.inl v1]) (st := []) (k := 27) (ci := 1) dc_X7_branchTaken_25 ln_7_157 im_X1_guardOf (by decide) rfl rfl mk_X1_guardOf rfl (Nat.le_of_ble_eq_true rfl) (Nat.le_refl _) (v := (some (.inl (F_X1_guardOf v1 q9)))) (σ1 := q9) (lk_X1_guardOf l d (by omega) v1 q9 _ rfl) _ rfl ?_
      refine go_if_ne dc_X7_branchTaken_28 (by rfl) (fun hc => ?_) (fun hc => ?_)
      · replace h := (if_neg hc).symm.trans h
        refine go_ops ok_X7_branchTaken_35_1 (L' := [some (.inr 49), some (.inl a1), some (.inl v1)]) (st' := [.inl 1]) (σ1 := q9) rfl ?_
        have h9 := Option.some.inj h
        subst h9
        exact go_iret dc_X7_branchTaken_36 rfl
      · replace h := (if_pos hc).symm.trans h
        refine go_ops ok_X7_branchTaken_31_1 (L' := [some (.inr 49), some (.inl a1), some (.inl v1)]) (st' := [.inl 0]) (σ1 := q9) rfl ?_
        refine go_goto dc_X7_branchTaken_32 (by rfl) ?_
        have h9 := Option.some.inj h
        subst h9
        exact go_iret dc_X7_branchTaken_36 rfl
  have hf := go_ct (as := [.inr 49, .inl a1]) mk_X7_branchTaken (by rfl) (Nat.le_of_ble_eq_true rfl) key
  exact hf
theorem dc_X7_decide_4 : decode m_X7_decide.2.2.1 4 = .ok (.invokevirtual 88, 3) := by decide +kernel
theorem dc_X7_decide_15 : decode m_X7_decide.2.2.1 15 = .ok (.if_icmp .ge 103, 3) := by decide +kernel
theorem dc_X7_decide_20 : decode m_X7_decide.2.2.1 20 = .ok (.if_icmp .eq 98, 3) := by decide +kernel
theorem dc_X7_decide_25 : decode m_X7_decide.2.2.1 25 = .ok (.invokevirtual 71, 3) := by decide +kernel
theorem dc_X7_decide_31 : decode m_X7_decide.2.2.1 31 = .ok (.invokevirtual 65, 3) := by decide +kernel
theorem dc_X7_decide_34 : decode m_X7_decide.2.2.1 34 = .ok (.tableswitch 56 0 2 #[26, 40, 48], 26) := by decide +kernel
theorem dc_X7_decide_62 : decode m_X7_decide.2.2.1 62 = .ok (.invokevirtual 143, 3) := by decide +kernel
theorem dc_X7_decide_70 : decode m_X7_decide.2.2.1 70 = .ok (.invokevirtual 146, 3) := by decide +kernel
theorem dc_X7_decide_73 : decode m_X7_decide.2.2.1 73 = .ok (.ireturn, 1) := by decide +kernel
theorem dc_X7_decide_76 : decode m_X7_decide.2.2.1 76 = .ok (.invokevirtual 143, 3) := by decide +kernel
theorem dc_X7_decide_81 : decode m_X7_decide.2.2.1 81 = .ok (.ireturn, 1) := by decide +kernel
theorem dc_X7_decide_86 : decode m_X7_decide.2.2.1 86 = .ok (.invokevirtual 151, 3) := by decide +kernel
theorem dc_X7_decide_89 : decode m_X7_decide.2.2.1 89 = .ok (.ireturn, 1) := by decide +kernel
theorem dc_X7_decide_92 : decode m_X7_decide.2.2.1 92 = .ok (.invokevirtual 154, 3) := by decide +kernel
theorem dc_X7_decide_101 : decode m_X7_decide.2.2.1 101 = .ok (.invokevirtual 98, 3) := by decide +kernel
theorem dc_X7_decide_108 : decode m_X7_decide.2.2.1 108 = .ok (.invokevirtual 81, 3) := by decide +kernel
theorem dc_X7_decide_115 : decode m_X7_decide.2.2.1 115 = .ok (.goto (-104), 3) := by decide +kernel
theorem dc_X7_decide_122 : decode m_X7_decide.2.2.1 122 = .ok (.invokevirtual 151, 3) := by decide +kernel
theorem dc_X7_decide_125 : decode m_X7_decide.2.2.1 125 = .ok (.ireturn, 1) := by decide +kernel
theorem ok_X7_decide_0_2 : oks m_X7_decide.1 m_X7_decide.2.2.1 0 [(.aload_n 0, 1, (0, 0, 0)), (.getfield 50, 3, (7, 0, 0))] = true ∧ plen 0 [(.aload_n 0, 1, (0, 0, 0)), (.getfield 50, 3, (7, 0, 0))] = 4 := by decide +kernel
theorem ok_X7_decide_7_4 : oks m_X7_decide.1 m_X7_decide.2.2.1 7 [(.iconst 0, 1, (0, 0, 0)), (.istore_n 1, 1, (0, 0, 0)), (.iconst 0, 1, (0, 0, 0)), (.istore_n 2, 1, (0, 0, 0))] = true ∧ plen 7 [(.iconst 0, 1, (0, 0, 0)), (.istore_n 1, 1, (0, 0, 0)), (.iconst 0, 1, (0, 0, 0)), (.istore_n 2, 1, (0, 0, 0))] = 11 := by decide +kernel
theorem ok_X7_decide_11_2 : oks m_X7_decide.1 m_X7_decide.2.2.1 11 [(.iload_n 2, 1, (0, 0, 0)), (.sipush 500, 3, (0, 0, 0))] = true ∧ plen 11 [(.iload_n 2, 1, (0, 0, 0)), (.sipush 500, 3, (0, 0, 0))] = 15 := by decide +kernel
theorem ok_X7_decide_18_2 : oks m_X7_decide.1 m_X7_decide.2.2.1 18 [(.iload_n 1, 1, (0, 0, 0)), (.iconst (-1), 1, (0, 0, 0))] = true ∧ plen 18 [(.iload_n 1, 1, (0, 0, 0)), (.iconst (-1), 1, (0, 0, 0))] = 20 := by decide +kernel
theorem ok_X7_decide_23_2 : oks m_X7_decide.1 m_X7_decide.2.2.1 23 [(.aload_n 0, 1, (0, 0, 0)), (.iload_n 1, 1, (0, 0, 0))] = true ∧ plen 23 [(.aload_n 0, 1, (0, 0, 0)), (.iload_n 1, 1, (0, 0, 0))] = 25 := by decide +kernel
theorem ok_X7_decide_28_3 : oks m_X7_decide.1 m_X7_decide.2.2.1 28 [(.istore_n 3, 1, (0, 0, 0)), (.aload_n 0, 1, (0, 0, 0)), (.iload_n 1, 1, (0, 0, 0))] = true ∧ plen 28 [(.istore_n 3, 1, (0, 0, 0)), (.aload_n 0, 1, (0, 0, 0)), (.iload_n 1, 1, (0, 0, 0))] = 31 := by decide +kernel
theorem ok_X7_decide_60_2 : oks m_X7_decide.1 m_X7_decide.2.2.1 60 [(.aload_n 0, 1, (0, 0, 0)), (.iload_n 3, 1, (0, 0, 0))] = true ∧ plen 60 [(.aload_n 0, 1, (0, 0, 0)), (.iload_n 3, 1, (0, 0, 0))] = 62 := by decide +kernel
theorem ok_X7_decide_65_3 : oks m_X7_decide.1 m_X7_decide.2.2.1 65 [(.aload_n 0, 1, (0, 0, 0)), (.getfield 54, 3, (7, 1, 0)), (.iload_n 3, 1, (0, 0, 0))] = true ∧ plen 65 [(.aload_n 0, 1, (0, 0, 0)), (.getfield 54, 3, (7, 1, 0)), (.iload_n 3, 1, (0, 0, 0))] = 70 := by decide +kernel
theorem ok_X7_decide_74_2 : oks m_X7_decide.1 m_X7_decide.2.2.1 74 [(.aload_n 0, 1, (0, 0, 0)), (.iload_n 3, 1, (0, 0, 0))] = true ∧ plen 74 [(.aload_n 0, 1, (0, 0, 0)), (.iload_n 3, 1, (0, 0, 0))] = 76 := by decide +kernel
theorem ok_X7_decide_79_1 : oks m_X7_decide.1 m_X7_decide.2.2.1 79 [(.bipush (-2), 2, (0, 0, 0))] = true ∧ plen 79 [(.bipush (-2), 2, (0, 0, 0))] = 81 := by decide +kernel
theorem ok_X7_decide_82_2 : oks m_X7_decide.1 m_X7_decide.2.2.1 82 [(.aload_n 0, 1, (0, 0, 0)), (.getfield 54, 3, (7, 1, 0))] = true ∧ plen 82 [(.aload_n 0, 1, (0, 0, 0)), (.getfield 54, 3, (7, 1, 0))] = 86 := by decide +kernel
theorem ok_X7_decide_90_2 : oks m_X7_decide.1 m_X7_decide.2.2.1 90 [(.aload_n 0, 1, (0, 0, 0)), (.iload_n 1, 1, (0, 0, 0))] = true ∧ plen 90 [(.aload_n 0, 1, (0, 0, 0)), (.iload_n 1, 1, (0, 0, 0))] = 92 := by decide +kernel
theorem ok_X7_decide_95_4 : oks m_X7_decide.1 m_X7_decide.2.2.1 95 [(.istore 4, 2, (0, 0, 0)), (.aload_n 0, 1, (0, 0, 0)), (.iload_n 1, 1, (0, 0, 0)), (.iload 4, 2, (0, 0, 0))] = true ∧ plen 95 [(.istore 4, 2, (0, 0, 0)), (.aload_n 0, 1, (0, 0, 0)), (.iload_n 1, 1, (0, 0, 0)), (.iload 4, 2, (0, 0, 0))] = 101 := by decide +kernel
theorem ok_X7_decide_104_3 : oks m_X7_decide.1 m_X7_decide.2.2.1 104 [(.aload_n 0, 1, (0, 0, 0)), (.iload_n 1, 1, (0, 0, 0)), (.iload 4, 2, (0, 0, 0))] = true ∧ plen 104 [(.aload_n 0, 1, (0, 0, 0)), (.iload_n 1, 1, (0, 0, 0)), (.iload 4, 2, (0, 0, 0))] = 108 := by decide +kernel
theorem ok_X7_decide_111_2 : oks m_X7_decide.1 m_X7_decide.2.2.1 111 [(.istore_n 1, 1, (0, 0, 0)), (.iinc 2 1, 3, (0, 0, 0))] = true ∧ plen 111 [(.istore_n 1, 1, (0, 0, 0)), (.iinc 2 1, 3, (0, 0, 0))] = 115 := by decide +kernel
theorem ok_X7_decide_118_2 : oks m_X7_decide.1 m_X7_decide.2.2.1 118 [(.aload_n 0, 1, (0, 0, 0)), (.getfield 54, 3, (7, 1, 0))] = true ∧ plen 118 [(.aload_n 0, 1, (0, 0, 0)), (.getfield 54, 3, (7, 1, 0))] = 122 := by decide +kernel
def L_X7_decide_11 (t : Nat) (x1 : Int) (x2 : Int) (σ : Sg) : Option ((Int × Int × Sg) ⊕ (Sg ⊕ (Int × Sg))) :=
if 500 ≤ x2 then
some (.inr (.inl σ))
else
if x1 = (-1) then
some (.inr (.inl σ))
else
bnd (F_X7_whatOf t x1 σ) fun v3 =>
if (F_X7_sortOf t x1 σ) = 0 then
(F_X7_bindNames t v3 σ).bind fun q5 =>
bnd (F_X1_take v3 q5) fun q7 =>
some (.inr (.inr (q7.1, q7.2)))
else if (F_X7_sortOf t x1 σ) = 1 then
(F_X7_bindNames t v3 σ).bind fun q10 =>
some (.inr (.inr ((-2), q10)))
else if (F_X7_sortOf t x1 σ) = 2 then
bnd (F_X1_miss σ) fun q13 =>
some (.inr (.inr (q13.1, q13.2)))
else (F_X7_branchTaken t x1 σ).bind fun q16 =>
bnd (F_X7_learn t x1 q16.1 q16.2) fun q18 =>
bnd (F_X7_nodeBehind t x1 q16.1 q18) fun v20 =>
some (.inl (v20, wrap (x2 + 1), q18))
def F_X7_decide (t : Nat) (σ : Sg) : Option (Int × Sg) :=
bnd (F_X3_clear σ) fun q1 =>
(iter (fun a : (Int × Int × Sg) => L_X7_decide_11 t a.1 a.2.1 a.2.2) 501 (0, 0, q1)).bind fun y22 => Sum.elim (fun z24 =>
bnd (F_X1_miss z24) fun q26 =>
some (q26.1, q26.2)) (fun r25 => some r25) y22
theorem lk_X7_decide_43 (l : Launch) (d : Nat) (hd : 108 ≤ d) (σ : Sg) (q : (Int × Sg)) (h : F_X7_decide 43 σ = some q) : CT l d m_X7_decide.2.1 m_X7_decide.2.2.1 m_X7_decide.2.2.2.1 m_X7_decide.2.2.2.2 [.inr 43] (LAYC, σ) (some (.inl q.1)) (LAYC, q.2) := by
  obtain ⟨d, rfl⟩ : ∃ e, d = e + 1 := ⟨d - 1, by omega⟩
  have key : Go l m_X7_decide (d + 1) LAYC (.inl (some (.inl q.1))) q.2 0 [some (.inr 43), none, none, none, none] [] σ := by
    unfold F_X7_decide at h
    have hL_X7_decide_11 : ∀ (n : Nat) (a : (Int × Int × Sg)) (y : (Sg ⊕ (Int × Sg))), iter (fun a : (Int × Int × Sg) => L_X7_decide_11 43 a.1 a.2.1 a.2.2) n a = some y → (Sum.elim (fun y : Sg => Go l m_X7_decide (d + 1) LAYC (.inl (some (.inl q.1))) q.2 118 [some (.inr 43), none, none, none, none] [] y) (fun r : (Int × Sg) => r = q)) y → (fun a : (Int × Int × Sg) => Go l m_X7_decide (d + 1) LAYC (.inl (some (.inl q.1))) q.2 11 [some (.inr 43), some (.inl a.1), some (.inl a.2.1), none, none] [] a.2.2) a := by
      skip
      refine go_iter (G := fun a : (Int × Int × Sg) => Go l m_X7_decide (d + 1) LAYC (.inl (some (.inl q.1))) q.2 11 [some (.inr 43), some (.inl a.1), some (.inl a.2.1), none, none] [] a.2.2) (K := Sum.elim (fun y : Sg => Go l m_X7_decide (d + 1) LAYC (.inl (some (.inl q.1))) q.2 118 [some (.inr 43), none, none, none, none] [] y) (fun r : (Int × Sg) => r = q)) ?_
      rintro ⟨x1, x2, σ⟩ w h hK
      replace h : L_X7_decide_11 43 x1 x2 σ = some w := h
      show Go l m_X7_decide (d + 1) LAYC (.inl (some (.inl q.1))) q.2 11 [some (.inr 43), some (.inl x1), some (.inl x2), none, none] [] σ
      unfold L_X7_decide_11 at h
      refine go_ops ok_X7_decide_11_2 (L' := [some (.inr 43), some (.inl x1), some (.inl x2), none, none]) (st' := [.inl 500, .inl x2]) (σ1 := σ) rfl ?_
      refine go_icmp_ge dc_X7_decide_15 (by rfl) (fun hc => ?_) (fun hc => ?_)
      · replace h := (if_pos hc).symm.trans h
        cases h
        refine go_wk (L' := [some (.inr 43), none, none, none, none]) ⟨rfl, trivial⟩ ?_
        exact hK
      · replace h := (if_neg hc).symm.trans h
        refine go_ops ok_X7_decide_18_2 (L' := [some (.inr 43), some (.inl x1), some (.inl x2), none, none]) (st' := [.inl (-1), .inl x1]) (σ1 := σ) rfl ?_
        refine go_icmp_eq dc_X7_decide_20 (by rfl) (fun hc => ?_) (fun hc => ?_)
        · replace h := (if_pos hc).symm.trans h
          cases h
          refine go_wk (L' := [some (.inr 43), none, none, none, none]) ⟨rfl, trivial⟩ ?_
          exact hK
        · replace h := (if_neg hc).symm.trans h
          refine go_ops ok_X7_decide_23_2 (L' := [some (.inr 43), some (.inl x1), some (.inl x2), none, none]) (st' := [.inl x1, .inr 43]) (σ1 := σ) rfl ?_
          refine go_V (M1 := m_X7_whatOf) (as := [.inl x1]) (st := []) (k := 43) (ci := 7) dc_X7_decide_25 ln_7_71 im_X7_whatOf (by decide) rfl rfl mk_X7_whatOf rfl (Nat.le_of_ble_eq_true rfl) (Nat.le_refl _) (v := (some (.inl (F_X7_whatOf 43 x1 σ)))) (σ1 := σ) (lk_X7_whatOf_43 l d (by omega) x1 σ _ rfl) _ rfl ?_
          obtain ⟨v3, e4, h⟩ := bnd_inv h
          refine go_ops ok_X7_decide_28_3 (L' := [some (.inr 43), some (.inl x1), some (.inl x2), some (.inl v3), none]) (st' := [.inl x1, .inr 43]) (σ1 := σ) (by subst e4; rfl) ?_
          refine go_V (M1 := m_X7_sortOf) (as := [.inl x1]) (st := []) (k := 43) (ci := 7) dc_X7_decide_31 ln_7_65 im_X7_sortOf (by decide) rfl rfl mk_X7_sortOf rfl (Nat.le_of_ble_eq_true rfl) (Nat.le_refl _) (v := (some (.inl (F_X7_sortOf 43 x1 σ)))) (σ1 := σ) (lk_X7_sortOf_43 l d (by omega) x1 σ _ rfl) _ rfl ?_
          rcases Decidable.em ((F_X7_sortOf 43 x1 σ) = 0) with hs9 | hs9
          · replace h := (if_pos hs9).symm.trans h
            refine go_tsw (off := 26) dc_X7_decide_34 (by decide) (by decide) (tsk hs9 (by decide +kernel)) (by rfl) ?_
            refine go_ops ok_X7_decide_60_2 (L' := [some (.inr 43), some (.inl x1), some (.inl x2), some (.inl v3), none]) (st' := [.inl v3, .inr 43]) (σ1 := σ) rfl ?_
            obtain ⟨q5, e6, h⟩ := bind_inv h
            refine go_V (M1 := m_X7_bindNames) (as := [.inl v3]) (st := []) (k := 43) (ci := 7) dc_X7_decide_62 ln_7_143 im_X7_bindNames (by decide) rfl rfl mk_X7_bindNames rfl (Nat.le_of_ble_eq_true rfl) (Nat.le_refl _) (v := none) (σ1 := q5) (lk_X7_bindNames_43 l d (by omega) v3 σ q5 e6) _ rfl ?_
            refine go_ops ok_X7_decide_65_3 (L' := [some (.inr 43), some (.inl x1), some (.inl x2), some (.inl v3), none]) (st' := [.inl v3, .inr 27]) (σ1 := q5) rfl ?_
            obtain ⟨q7, e8, h⟩ := bnd_inv h
            refine go_V (M1 := m_X1_take) (as := [.inl v3]) (st := []) (k := 27) (ci := 1) dc_X7_decide_70 ln_7_146 im_X1_take (by decide) rfl rfl mk_X1_take rfl (Nat.le_of_ble_eq_true rfl) (Nat.le_refl _) (v := (some (.inl q7.1))) (σ1 := q7.2) (lk_X1_take l d (by omega) v3 q5 q7 e8.symm) _ rfl ?_
            cases h
            have hK2 : _ = q := hK
            subst hK2
            exact go_iret dc_X7_decide_73 rfl
          replace h := (if_neg hs9).symm.trans h
          rcases Decidable.em ((F_X7_sortOf 43 x1 σ) = 1) with hs12 | hs12
          · replace h := (if_pos hs12).symm.trans h
            refine go_tsw (off := 40) dc_X7_decide_34 (by decide) (by decide) (tsk hs12 (by decide +kernel)) (by rfl) ?_
            refine go_ops ok_X7_decide_74_2 (L' := [some (.inr 43), some (.inl x1), some (.inl x2), some (.inl v3), none]) (st' := [.inl v3, .inr 43]) (σ1 := σ) rfl ?_
            obtain ⟨q10, e11, h⟩ := bind_inv h
            refine go_V (M1 := m_X7_bindNames) (as := [.inl v3]) (st := []) (k := 43) (ci := 7) dc_X7_decide_76 ln_7_143 im_X7_bindNames (by decide) rfl rfl mk_X7_bindNames rfl (Nat.le_of_ble_eq_true rfl) (Nat.le_refl _) (v := none) (σ1 := q10) (lk_X7_bindNames_43 l d (by omega) v3 σ q10 e11) _ rfl ?_
            refine go_ops ok_X7_decide_79_1 (L' := [some (.inr 43), some (.inl x1), some (.inl x2), some (.inl v3), none]) (st' := [.inl (-2)]) (σ1 := q10) rfl ?_
            cases h
            have hK2 : _ = q := hK
            subst hK2
            exact go_iret dc_X7_decide_81 rfl
          replace h := (if_neg hs12).symm.trans h
          rcases Decidable.em ((F_X7_sortOf 43 x1 σ) = 2) with hs15 | hs15
          · replace h := (if_pos hs15).symm.trans h
            refine go_tsw (off := 48) dc_X7_decide_34 (by decide) (by decide) (tsk hs15 (by decide +kernel)) (by rfl) ?_
            refine go_ops ok_X7_decide_82_2 (L' := [some (.inr 43), some (.inl x1), some (.inl x2), some (.inl v3), none]) (st' := [.inr 27]) (σ1 := σ) rfl ?_
            obtain ⟨q13, e14, h⟩ := bnd_inv h
            refine go_V (M1 := m_X1_miss) (as := []) (st := []) (k := 27) (ci := 1) dc_X7_decide_86 ln_7_151 im_X1_miss (by decide) rfl rfl mk_X1_miss rfl (Nat.le_of_ble_eq_true rfl) (Nat.le_refl _) (v := (some (.inl q13.1))) (σ1 := q13.2) (lk_X1_miss l d (by omega) σ q13 e14.symm) _ rfl ?_
            cases h
            have hK2 : _ = q := hK
            subst hK2
            exact go_iret dc_X7_decide_89 rfl
          replace h := (if_neg hs15).symm.trans h
          refine go_tsw (off := 56) dc_X7_decide_34 (by decide) (by decide) (ts_d [0, 1, 2] (nn1 hs9 (nn1 hs12 (nn1 hs15 nn0))) (by decide +kernel)) (by rfl) ?_
          refine go_ops ok_X7_decide_90_2 (L' := [some (.inr 43), some (.inl x1), some (.inl x2), some (.inl v3), none]) (st' := [.inl x1, .inr 43]) (σ1 := σ) rfl ?_
          obtain ⟨q16, e17, h⟩ := bind_inv h
          refine go_V (M1 := m_X7_branchTaken) (as := [.inl x1]) (st := []) (k := 43) (ci := 7) dc_X7_decide_92 ln_7_154 im_X7_branchTaken (by decide) rfl rfl mk_X7_branchTaken rfl (Nat.le_of_ble_eq_true rfl) (Nat.le_refl _) (v := (some (.inl q16.1))) (σ1 := q16.2) (lk_X7_branchTaken_43 l d (by omega) x1 σ q16 e17) _ rfl ?_
          refine go_ops ok_X7_decide_95_4 (L' := [some (.inr 43), some (.inl x1), some (.inl x2), some (.inl v3), some (.inl q16.1)]) (st' := [.inl q16.1, .inl x1, .inr 43]) (σ1 := q16.2) rfl ?_
          obtain ⟨q18, e19, h⟩ := bnd_inv h
          refine go_V (M1 := m_X7_learn) (as := [.inl x1, .inl q16.1]) (st := []) (k := 43) (ci := 7) dc_X7_decide_101 ln_7_98 im_X7_learn (by decide) rfl rfl mk_X7_learn rfl (Nat.le_of_ble_eq_true rfl) (Nat.le_refl _) (v := none) (σ1 := q18) (lk_X7_learn_43 l d (by omega) x1 q16.1 q16.2 q18 e19.symm) _ rfl ?_
          refine go_ops ok_X7_decide_104_3 (L' := [some (.inr 43), some (.inl x1), some (.inl x2), some (.inl v3), some (.inl q16.1)]) (st' := [.inl q16.1, .inl x1, .inr 43]) (σ1 := q18) rfl ?_
          refine go_V (M1 := m_X7_nodeBehind) (as := [.inl x1, .inl q16.1]) (st := []) (k := 43) (ci := 7) dc_X7_decide_108 ln_7_81 im_X7_nodeBehind (by decide) rfl rfl mk_X7_nodeBehind rfl (Nat.le_of_ble_eq_true rfl) (Nat.le_refl _) (v := (some (.inl (F_X7_nodeBehind 43 x1 q16.1 q18)))) (σ1 := q18) (lk_X7_nodeBehind_43 l d (by omega) x1 q16.1 q18 _ rfl) _ rfl ?_
          obtain ⟨v20, e21, h⟩ := bnd_inv h
          refine go_ops ok_X7_decide_111_2 (L' := [some (.inr 43), some (.inl v20), some (.inl (wrap (x2 + 1))), some (.inl v3), some (.inl q16.1)]) (st' := []) (σ1 := q18) (by subst e21; rfl) ?_
          refine go_goto dc_X7_decide_115 (by rfl) ?_
          cases h
          refine go_wk (L' := [some (.inr 43), some (.inl v20), some (.inl (wrap (x2 + 1))), none, none]) ⟨rfl, rfl, rfl, trivial⟩ ?_
          exact hK
    refine go_ops ok_X7_decide_0_2 (L' := [some (.inr 43), none, none, none, none]) (st' := [.inr 37]) (σ1 := σ) rfl ?_
    obtain ⟨q1, e2, h⟩ := bnd_inv h
    refine go_V (M1 := m_X3_clear) (as := []) (st := []) (k := 37) (ci := 3) dc_X7_decide_4 ln_7_88 im_X3_clear (by decide) rfl rfl mk_X3_clear rfl (Nat.le_of_ble_eq_true rfl) (Nat.le_refl _) (v := none) (σ1 := q1) (lk_X3_clear l d (by omega) σ q1 e2.symm) _ rfl ?_
    refine go_ops ok_X7_decide_7_4 (L' := [some (.inr 43), some (.inl 0), some (.inl 0), none, none]) (st' := []) (σ1 := q1) rfl ?_
    obtain ⟨y22, e23, h⟩ := bind_inv h
    refine hL_X7_decide_11  501 (0, 0, q1) y22 e23 ?_
    rcases y22 with z24 | r25
    rotate_left
    · show r25 = q
      cases h; rfl
    show Go l m_X7_decide (d + 1) LAYC (.inl (some (.inl q.1))) q.2 118 [some (.inr 43), none, none, none, none] [] z24
    rw [Sum.elim_inl] at h
    refine go_ops ok_X7_decide_118_2 (L' := [some (.inr 43), none, none, none, none]) (st' := [.inr 27]) (σ1 := z24) rfl ?_
    obtain ⟨q26, e27, h⟩ := bnd_inv h
    refine go_V (M1 := m_X1_miss) (as := []) (st := []) (k := 27) (ci := 1) dc_X7_decide_122 ln_7_151 im_X1_miss (by decide) rfl rfl mk_X1_miss rfl (Nat.le_of_ble_eq_true rfl) (Nat.le_refl _) (v := (some (.inl q26.1))) (σ1 := q26.2) (lk_X1_miss l d (by omega) z24 q26 e27.symm) _ rfl ?_
    have h9 := Option.some.inj h
    subst h9
    exact go_iret dc_X7_decide_125 rfl
  have hf := go_ct (as := [.inr 43]) mk_X7_decide (by rfl) (Nat.le_of_ble_eq_true rfl) key
  exact hf
theorem lk_X7_decide_49 (l : Launch) (d : Nat) (hd : 108 ≤ d) (σ : Sg) (q : (Int × Sg)) (h : F_X7_decide 49 σ = some q) : CT l d m_X7_decide.2.1 m_X7_decide.2.2.1 m_X7_decide.2.2.2.1 m_X7_decide.2.2.2.2 [.inr 49] (LAYC, σ) (some (.inl q.1)) (LAYC, q.2) := by
  obtain ⟨d, rfl⟩ : ∃ e, d = e + 1 := ⟨d - 1, by omega⟩
  have key : Go l m_X7_decide (d + 1) LAYC (.inl (some (.inl q.1))) q.2 0 [some (.inr 49), none, none, none, none] [] σ := by
    unfold F_X7_decide at h
    have hL_X7_decide_11 : ∀ (n : Nat) (a : (Int × Int × Sg)) (y : (Sg ⊕ (Int × Sg))), iter (fun a : (Int × Int × Sg) => L_X7_decide_11 49 a.1 a.2.1 a.2.2) n a = some y → (Sum.elim (fun y : Sg => Go l m_X7_decide (d + 1) LAYC (.inl (some (.inl q.1))) q.2 118 [some (.inr 49), none, none, none, none] [] y) (fun r : (Int × Sg) => r = q)) y → (fun a : (Int × Int × Sg) => Go l m_X7_decide (d + 1) LAYC (.inl (some (.inl q.1))) q.2 11 [some (.inr 49), some (.inl a.1), some (.inl a.2.1), none, none] [] a.2.2) a := by
      skip
      refine go_iter (G := fun a : (Int × Int × Sg) => Go l m_X7_decide (d + 1) LAYC (.inl (some (.inl q.1))) q.2 11 [some (.inr 49), some (.inl a.1), some (.inl a.2.1), none, none] [] a.2.2) (K := Sum.elim (fun y : Sg => Go l m_X7_decide (d + 1) LAYC (.inl (some (.inl q.1))) q.2 118 [some (.inr 49), none, none, none, none] [] y) (fun r : (Int × Sg) => r = q)) ?_
      rintro ⟨x1, x2, σ⟩ w h hK
      replace h : L_X7_decide_11 49 x1 x2 σ = some w := h
      show Go l m_X7_decide (d + 1) LAYC (.inl (some (.inl q.1))) q.2 11 [some (.inr 49), some (.inl x1), some (.inl x2), none, none] [] σ
      unfold L_X7_decide_11 at h
      refine go_ops ok_X7_decide_11_2 (L' := [some (.inr 49), some (.inl x1), some (.inl x2), none, none]) (st' := [.inl 500, .inl x2]) (σ1 := σ) rfl ?_
      refine go_icmp_ge dc_X7_decide_15 (by rfl) (fun hc => ?_) (fun hc => ?_)
      · replace h := (if_pos hc).symm.trans h
        cases h
        refine go_wk (L' := [some (.inr 49), none, none, none, none]) ⟨rfl, trivial⟩ ?_
        exact hK
      · replace h := (if_neg hc).symm.trans h
        refine go_ops ok_X7_decide_18_2 (L' := [some (.inr 49), some (.inl x1), some (.inl x2), none, none]) (st' := [.inl (-1), .inl x1]) (σ1 := σ) rfl ?_
        refine go_icmp_eq dc_X7_decide_20 (by rfl) (fun hc => ?_) (fun hc => ?_)
        · replace h := (if_pos hc).symm.trans h
          cases h
          refine go_wk (L' := [some (.inr 49), none, none, none, none]) ⟨rfl, trivial⟩ ?_
          exact hK
        · replace h := (if_neg hc).symm.trans h
          refine go_ops ok_X7_decide_23_2 (L' := [some (.inr 49), some (.inl x1), some (.inl x2), none, none]) (st' := [.inl x1, .inr 49]) (σ1 := σ) rfl ?_
          refine go_V (M1 := m_X7_whatOf) (as := [.inl x1]) (st := []) (k := 49) (ci := 7) dc_X7_decide_25 ln_7_71 im_X7_whatOf (by decide) rfl rfl mk_X7_whatOf rfl (Nat.le_of_ble_eq_true rfl) (Nat.le_refl _) (v := (some (.inl (F_X7_whatOf 49 x1 σ)))) (σ1 := σ) (lk_X7_whatOf_49 l d (by omega) x1 σ _ rfl) _ rfl ?_
          obtain ⟨v3, e4, h⟩ := bnd_inv h
          refine go_ops ok_X7_decide_28_3 (L' := [some (.inr 49), some (.inl x1), some (.inl x2), some (.inl v3), none]) (st' := [.inl x1, .inr 49]) (σ1 := σ) (by subst e4; rfl) ?_
          refine go_V (M1 := m_X7_sortOf) (as := [.inl x1]) (st := []) (k := 49) (ci := 7) dc_X7_decide_31 ln_7_65 im_X7_sortOf (by decide) rfl rfl mk_X7_sortOf rfl (Nat.le_of_ble_eq_true rfl) (Nat.le_refl _) (v := (some (.inl (F_X7_sortOf 49 x1 σ)))) (σ1 := σ) (lk_X7_sortOf_49 l d (by omega) x1 σ _ rfl) _ rfl ?_
          rcases Decidable.em ((F_X7_sortOf 49 x1 σ) = 0) with hs9 | hs9
          · replace h := (if_pos hs9).symm.trans h
            refine go_tsw (off := 26) dc_X7_decide_34 (by decide) (by decide) (tsk hs9 (by decide +kernel)) (by rfl) ?_
            refine go_ops ok_X7_decide_60_2 (L' := [some (.inr 49), some (.inl x1), some (.inl x2), some (.inl v3), none]) (st' := [.inl v3, .inr 49]) (σ1 := σ) rfl ?_
            obtain ⟨q5, e6, h⟩ := bind_inv h
            refine go_V (M1 := m_X7_bindNames) (as := [.inl v3]) (st := []) (k := 49) (ci := 7) dc_X7_decide_62 ln_7_143 im_X7_bindNames (by decide) rfl rfl mk_X7_bindNames rfl (Nat.le_of_ble_eq_true rfl) (Nat.le_refl _) (v := none) (σ1 := q5) (lk_X7_bindNames_49 l d (by omega) v3 σ q5 e6) _ rfl ?_
            refine go_ops ok_X7_decide_65_3 (L' := [some (.inr 49), some (.inl x1), some (.inl x2), some (.inl v3), none]) (st' := [.inl v3, .inr 27]) (σ1 := q5) rfl ?_
            obtain ⟨q7, e8, h⟩ := bnd_inv h
            refine go_V (M1 := m_X1_take) (as := [.inl v3]) (st := []) (k := 27) (ci := 1) dc_X7_decide_70 ln_7_146 im_X1_take (by decide) rfl rfl mk_X1_take rfl (Nat.le_of_ble_eq_true rfl) (Nat.le_refl _) (v := (some (.inl q7.1))) (σ1 := q7.2) (lk_X1_take l d (by omega) v3 q5 q7 e8.symm) _ rfl ?_
            cases h
            have hK2 : _ = q := hK
            subst hK2
            exact go_iret dc_X7_decide_73 rfl
          replace h := (if_neg hs9).symm.trans h
          rcases Decidable.em ((F_X7_sortOf 49 x1 σ) = 1) with hs12 | hs12
          · replace h := (if_pos hs12).symm.trans h
            refine go_tsw (off := 40) dc_X7_decide_34 (by decide) (by decide) (tsk hs12 (by decide +kernel)) (by rfl) ?_
            refine go_ops ok_X7_decide_74_2 (L' := [some (.inr 49), some (.inl x1), some (.inl x2), some (.inl v3), none]) (st' := [.inl v3, .inr 49]) (σ1 := σ) rfl ?_
            obtain ⟨q10, e11, h⟩ := bind_inv h
            refine go_V (M1 := m_X7_bindNames) (as := [.inl v3]) (st := []) (k := 49) (ci := 7) dc_X7_decide_76 ln_7_143 im_X7_bindNames (by decide) rfl rfl mk_X7_bindNames rfl (Nat.le_of_ble_eq_true rfl) (Nat.le_refl _) (v := none) (σ1 := q10) (lk_X7_bindNames_49 l d (by omega) v3 σ q10 e11) _ rfl ?_
            refine go_ops ok_X7_decide_79_1 (L' := [some (.inr 49), some (.inl x1), some (.inl x2), some (.inl v3), none]) (st' := [.inl (-2)]) (σ1 := q10) rfl ?_
            cases h
            have hK2 : _ = q := hK
            subst hK2
            exact go_iret dc_X7_decide_81 rfl
          replace h := (if_neg hs12).symm.trans h
          rcases Decidable.em ((F_X7_sortOf 49 x1 σ) = 2) with hs15 | hs15
          · replace h := (if_pos hs15).symm.trans h
            refine go_tsw (off := 48) dc_X7_decide_34 (by decide) (by decide) (tsk hs15 (by decide +kernel)) (by rfl) ?_
            refine go_ops ok_X7_decide_82_2 (L' := [some (.inr 49), some (.inl x1), some (.inl x2), some (.inl v3), none]) (st' := [.inr 27]) (σ1 := σ) rfl ?_
            obtain ⟨q13, e14, h⟩ := bnd_inv h
            refine go_V (M1 := m_X1_miss) (as := []) (st := []) (k := 27) (ci := 1) dc_X7_decide_86 ln_7_151 im_X1_miss (by decide) rfl rfl mk_X1_miss rfl (Nat.le_of_ble_eq_true rfl) (Nat.le_refl _) (v := (some (.inl q13.1))) (σ1 := q13.2) (lk_X1_miss l d (by omega) σ q13 e14.symm) _ rfl ?_
            cases h
            have hK2 : _ = q := hK
            subst hK2
            exact go_iret dc_X7_decide_89 rfl
          replace h := (if_neg hs15).symm.trans h
          refine go_tsw (off := 56) dc_X7_decide_34 (by decide) (by decide) (ts_d [0, 1, 2] (nn1 hs9 (nn1 hs12 (nn1 hs15 nn0))) (by decide +kernel)) (by rfl) ?_
          refine go_ops ok_X7_decide_90_2 (L' := [some (.inr 49), some (.inl x1), some (.inl x2), some (.inl v3), none]) (st' := [.inl x1, .inr 49]) (σ1 := σ) rfl ?_
          obtain ⟨q16, e17, h⟩ := bind_inv h
          refine go_V (M1 := m_X7_branchTaken) (as := [.inl x1]) (st := []) (k := 49) (ci := 7) dc_X7_decide_92 ln_7_154 im_X7_branchTaken (by decide) rfl rfl mk_X7_branchTaken rfl (Nat.le_of_ble_eq_true rfl) (Nat.le_refl _) (v := (some (.inl q16.1))) (σ1 := q16.2) (lk_X7_branchTaken_49 l d (by omega) x1 σ q16 e17) _ rfl ?_
          refine go_ops ok_X7_decide_95_4 (L' := [some (.inr 49), some (.inl x1), some (.inl x2), some (.inl v3), some (.inl q16.1)]) (st' := [.inl q16.1, .inl x1, .inr 49]) (σ1 := q16.2) rfl ?_
          obtain ⟨q18, e19, h⟩ := bnd_inv h
          refine go_V (M1 := m_X7_learn) (as := [.inl x1, .inl q16.1]) (st := []) (k := 49) (ci := 7) dc_X7_decide_101 ln_7_98 im_X7_learn (by decide) rfl rfl mk_X7_learn rfl (Nat.le_of_ble_eq_true rfl) (Nat.le_refl _) (v := none) (σ1 := q18) (lk_X7_learn_49 l d (by omega) x1 q16.1 q16.2 q18 e19.symm) _ rfl ?_
          refine go_ops ok_X7_decide_104_3 (L' := [some (.inr 49), some (.inl x1), some (.inl x2), some (.inl v3), some (.inl q16.1)]) (st' := [.inl q16.1, .inl x1, .inr 49]) (σ1 := q18) rfl ?_
          refine go_V (M1 := m_X7_nodeBehind) (as := [.inl x1, .inl q16.1]) (st := []) (k := 49) (ci := 7) dc_X7_decide_108 ln_7_81 im_X7_nodeBehind (by decide) rfl rfl mk_X7_nodeBehind rfl (Nat.le_of_ble_eq_true rfl) (Nat.le_refl _) (v := (some (.inl (F_X7_nodeBehind 49 x1 q16.1 q18)))) (σ1 := q18) (lk_X7_nodeBehind_49 l d (by omega) x1 q16.1 q18 _ rfl) _ rfl ?_
          obtain ⟨v20, e21, h⟩ := bnd_inv h
          refine go_ops ok_X7_decide_111_2 (L' := [some (.inr 49), some (.inl v20), some (.inl (wrap (x2 + 1))), some (.inl v3), some (.inl q16.1)]) (st' := []) (σ1 := q18) (by subst e21; rfl) ?_
          refine go_goto dc_X7_decide_115 (by rfl) ?_
          cases h
          refine go_wk (L' := [some (.inr 49), some (.inl v20), some (.inl (wrap (x2 + 1))), none, none]) ⟨rfl, rfl, rfl, trivial⟩ ?_
          exact hK
    refine go_ops ok_X7_decide_0_2 (L' := [some (.inr 49), none, none, none, none]) (st' := [.inr 37]) (σ1 := σ) rfl ?_
    obtain ⟨q1, e2, h⟩ := bnd_inv h
    refine go_V (M1 := m_X3_clear) (as := []) (st := []) (k := 37) (ci := 3) dc_X7_decide_4 ln_7_88 im_X3_clear (by decide) rfl rfl mk_X3_clear rfl (Nat.le_of_ble_eq_true rfl) (Nat.le_refl _) (v := none) (σ1 := q1) (lk_X3_clear l d (by omega) σ q1 e2.symm) _ rfl ?_
    refine go_ops ok_X7_decide_7_4 (L' := [some (.inr 49), some (.inl 0), some (.inl 0), none, none]) (st' := []) (σ1 := q1) rfl ?_
    obtain ⟨y22, e23, h⟩ := bind_inv h
    refine hL_X7_decide_11  501 (0, 0, q1) y22 e23 ?_
    rcases y22 with z24 | r25
    rotate_left
    · show r25 = q
      cases h; rfl
    show Go l m_X7_decide (d + 1) LAYC (.inl (some (.inl q.1))) q.2 118 [some (.inr 49), none, none, none, none] [] z24
    rw [Sum.elim_inl] at h
    refine go_ops ok_X7_decide_118_2 (L' := [some (.inr 49), none, none, none, none]) (st' := [.inr 27]) (σ1 := z24) rfl ?_
    obtain ⟨q26, e27, h⟩ := bnd_inv h
    refine go_V (M1 := m_X1_miss) (as := []) (st := []) (k := 27) (ci := 1) dc_X7_decide_122 ln_7_151 im_X1_miss (by decide) rfl rfl mk_X1_miss rfl (Nat.le_of_ble_eq_true rfl) (Nat.le_refl _) (v := (some (.inl q26.1))) (σ1 := q26.2) (lk_X1_miss l d (by omega) z24 q26 e27.symm) _ rfl ?_
    have h9 := Option.some.inj h
    subst h9
    exact go_iret dc_X7_decide_125 rfl
  have hf := go_ct (as := [.inr 49]) mk_X7_decide (by rfl) (Nat.le_of_ble_eq_true rfl) key
  exact hf
theorem dc_X7_isIdle_5 : decode m_X7_isIdle.2.2.1 5 = .ok (.invokevirtual 78, 3) := by decide +kernel
theorem dc_X7_isIdle_8 : decode m_X7_isIdle.2.2.1 8 = .ok (.if_icmp .ge 40, 3) := by decide +kernel
theorem dc_X7_isIdle_18 : decode m_X7_isIdle.2.2.1 18 = .ok (.invokevirtual 81, 3) := by decide +kernel
theorem dc_X7_isIdle_21 : decode m_X7_isIdle.2.2.1 21 = .ok (.invokestatic 61, 3) := by decide +kernel
theorem dc_X7_isIdle_31 : decode m_X7_isIdle.2.2.1 31 = .ok (.invokevirtual 81, 3) := by decide +kernel
theorem dc_X7_isIdle_34 : decode m_X7_isIdle.2.2.1 34 = .ok (.invokestatic 61, 3) := by decide +kernel
theorem dc_X7_isIdle_37 : decode m_X7_isIdle.2.2.1 37 = .ok (.if_icmp .eq 5, 3) := by decide +kernel
theorem dc_X7_isIdle_41 : decode m_X7_isIdle.2.2.1 41 = .ok (.ireturn, 1) := by decide +kernel
theorem dc_X7_isIdle_45 : decode m_X7_isIdle.2.2.1 45 = .ok (.goto (-43), 3) := by decide +kernel
theorem dc_X7_isIdle_49 : decode m_X7_isIdle.2.2.1 49 = .ok (.ireturn, 1) := by decide +kernel
theorem ok_X7_isIdle_0_2 : oks m_X7_isIdle.1 m_X7_isIdle.2.2.1 0 [(.iconst 1, 1, (0, 0, 0)), (.istore_n 2, 1, (0, 0, 0))] = true ∧ plen 0 [(.iconst 1, 1, (0, 0, 0)), (.istore_n 2, 1, (0, 0, 0))] = 2 := by decide +kernel
theorem ok_X7_isIdle_2_3 : oks m_X7_isIdle.1 m_X7_isIdle.2.2.1 2 [(.iload_n 2, 1, (0, 0, 0)), (.aload_n 0, 1, (0, 0, 0)), (.iload_n 1, 1, (0, 0, 0))] = true ∧ plen 2 [(.iload_n 2, 1, (0, 0, 0)), (.aload_n 0, 1, (0, 0, 0)), (.iload_n 1, 1, (0, 0, 0))] = 5 := by decide +kernel
theorem ok_X7_isIdle_11_5 : oks m_X7_isIdle.1 m_X7_isIdle.2.2.1 11 [(.aload_n 0, 1, (0, 0, 0)), (.getfield 47, 3, (7, 14, 0)), (.aload_n 0, 1, (0, 0, 0)), (.iload_n 1, 1, (0, 0, 0)), (.iload_n 2, 1, (0, 0, 0))] = true ∧ plen 11 [(.aload_n 0, 1, (0, 0, 0)), (.getfield 47, 3, (7, 14, 0)), (.aload_n 0, 1, (0, 0, 0)), (.iload_n 1, 1, (0, 0, 0)), (.iload_n 2, 1, (0, 0, 0))] = 18 := by decide +kernel
theorem ok_X7_isIdle_24_5 : oks m_X7_isIdle.1 m_X7_isIdle.2.2.1 24 [(.aload_n 0, 1, (0, 0, 0)), (.getfield 47, 3, (7, 14, 0)), (.aload_n 0, 1, (0, 0, 0)), (.iload_n 1, 1, (0, 0, 0)), (.iconst 0, 1, (0, 0, 0))] = true ∧ plen 24 [(.aload_n 0, 1, (0, 0, 0)), (.getfield 47, 3, (7, 14, 0)), (.aload_n 0, 1, (0, 0, 0)), (.iload_n 1, 1, (0, 0, 0)), (.iconst 0, 1, (0, 0, 0))] = 31 := by decide +kernel
theorem ok_X7_isIdle_40_1 : oks m_X7_isIdle.1 m_X7_isIdle.2.2.1 40 [(.iconst 0, 1, (0, 0, 0))] = true ∧ plen 40 [(.iconst 0, 1, (0, 0, 0))] = 41 := by decide +kernel
theorem ok_X7_isIdle_42_1 : oks m_X7_isIdle.1 m_X7_isIdle.2.2.1 42 [(.iinc 2 1, 3, (0, 0, 0))] = true ∧ plen 42 [(.iinc 2 1, 3, (0, 0, 0))] = 45 := by decide +kernel
theorem ok_X7_isIdle_48_1 : oks m_X7_isIdle.1 m_X7_isIdle.2.2.1 48 [(.iconst 1, 1, (0, 0, 0))] = true ∧ plen 48 [(.iconst 1, 1, (0, 0, 0))] = 49 := by decide +kernel
def L_X7_isIdle_2 (t : Nat) (x1 : Int) (σ : Sg) (x2 : Int) : Option (Int ⊕ (Unit ⊕ Bool)) :=
if (F_X7_widthOf t x1 σ) ≤ x2 then
some (.inr (.inl ()))
else
if (rdD (-1) σ (t + 5) 500 (F_X7_nodeBehind t x1 x2 σ)) = (rdD (-1) σ (t + 5) 500 (F_X7_nodeBehind t x1 0 σ)) then
some (.inl (wrap (x2 + 1)))
else
some (.inr (.inr false))
def F_X7_isIdle (t : Nat) (a1 : Int) (σ : Sg) : Option Bool :=
(iter (fun a : Int => L_X7_isIdle_2 t a1 σ a) 3000 1).bind fun y1 => Sum.elim (fun z3 =>
some true) (fun r4 => some r4) y1
theorem lk_X7_isIdle_43 (l : Launch) (d : Nat) (hd : 3 ≤ d) (a1 : Int) (σ : Sg) (q : Bool) (h : F_X7_isIdle 43 a1 σ = some q) : CT l d m_X7_isIdle.2.1 m_X7_isIdle.2.2.1 m_X7_isIdle.2.2.2.1 m_X7_isIdle.2.2.2.2 [.inr 43, .inl a1] (LAYC, σ) (some (.inl (b2i q))) (LAYC, σ) := by
  obtain ⟨d, rfl⟩ : ∃ e, d = e + 1 := ⟨d - 1, by omega⟩
  have key : Go l m_X7_isIdle (d + 1) LAYC (.inl (some (.inl (b2i q)))) σ 0 [some (.inr 43), some (.inl a1), none] [] σ := by
    unfold F_X7_isIdle at h
    have hL_X7_isIdle_2 : ∀ (x1 : Int) (σ : Sg) (n : Nat) (a : Int) (y : (Unit ⊕ Bool)), iter (fun a : Int => L_X7_isIdle_2 43 x1 σ a) n a = some y → (Sum.elim (fun y : Unit => Go l m_X7_isIdle (d + 1) LAYC (.inl (some (.inl (b2i q)))) σ 48 [none, none, none] [] σ) (fun r : Bool => r = q)) y → (fun a : Int => Go l m_X7_isIdle (d + 1) LAYC (.inl (some (.inl (b2i q)))) σ 2 [some (.inr 43), some (.inl x1), some (.inl a)] [] σ) a := by
      intro x1 σ
      refine go_iter (G := fun a : Int => Go l m_X7_isIdle (d + 1) LAYC (.inl (some (.inl (b2i q)))) σ 2 [some (.inr 43), some (.inl x1), some (.inl a)] [] σ) (K := Sum.elim (fun y : Unit => Go l m_X7_isIdle (d + 1) LAYC (.inl (some (.inl (b2i q)))) σ 48 [none, none, none] [] σ) (fun r : Bool => r = q)) ?_
      rintro x2 w h hK
      replace h : L_X7_isIdle_2 43 x1 σ x2 = some w := h
      show Go l m_X7_isIdle (d + 1) LAYC (.inl (some (.inl (b2i q)))) σ 2 [some (.inr 43), some (.inl x1), some (.inl x2)] [] σ
      unfold L_X7_isIdle_2 at h
      refine go_ops ok_X7_isIdle_2_3 (L' := [some (.inr 43), some (.inl x1), some (.inl x2)]) (st' := [.inl x1, .inr 43, .inl x2]) (σ1 := σ) rfl ?_
      refine go_V (M1 := m_X7_widthOf) (as := [.inl x1]) (st := [.inl x2]) (k := 43) (ci := 7) dc_X7_isIdle_5 ln_7_78 im_X7_widthOf (by decide) rfl rfl mk_X7_widthOf rfl (Nat.le_of_ble_eq_true rfl) (Nat.le_refl _) (v := (some (.inl (F_X7_widthOf 43 x1 σ)))) (σ1 := σ) (lk_X7_widthOf_43 l d (by omega) x1 σ _ rfl) _ rfl ?_
      refine go_icmp_ge dc_X7_isIdle_8 (by rfl) (fun hc => ?_) (fun hc => ?_)
      · replace h := (if_pos hc).symm.trans h
        cases h
        refine go_wk (L' := [none, none, none]) trivial ?_
        exact hK
      · replace h := (if_neg hc).symm.trans h
        refine go_ops ok_X7_isIdle_11_5 (L' := [some (.inr 43), some (.inl x1), some (.inl x2)]) (st' := [.inl x2, .inl x1, .inr 43, .inr 48]) (σ1 := σ) rfl ?_
        refine go_V (M1 := m_X7_nodeBehind) (as := [.inl x1, .inl x2]) (st := [.inr 48]) (k := 43) (ci := 7) dc_X7_isIdle_18 ln_7_81 im_X7_nodeBehind (by decide) rfl rfl mk_X7_nodeBehind rfl (Nat.le_of_ble_eq_true rfl) (Nat.le_refl _) (v := (some (.inl (F_X7_nodeBehind 43 x1 x2 σ)))) (σ1 := σ) (lk_X7_nodeBehind_43 l d (by omega) x1 x2 σ _ rfl) _ rfl ?_
        refine go_SN (M1 := m_X10_at) (as := [.inr 48, .inl (F_X7_nodeBehind 43 x1 x2 σ)]) (st := []) dc_X7_isIdle_21 ln_7_61 sm_X10_at mk_X10_at rfl (Nat.le_of_ble_eq_true rfl) (Nat.le_refl _) (v := some (.inl (rdD (-1) σ 48 500 (F_X7_nodeBehind 43 x1 x2 σ)))) (σ1 := σ) (lk_X10_at l d LAYC 48 500 rfl σ _) _ rfl ?_
        refine go_ops ok_X7_isIdle_24_5 (L' := [some (.inr 43), some (.inl x1), some (.inl x2)]) (st' := [.inl 0, .inl x1, .inr 43, .inr 48, .inl (rdD (-1) σ 48 500 (F_X7_nodeBehind 43 x1 x2 σ))]) (σ1 := σ) rfl ?_
        refine go_V (M1 := m_X7_nodeBehind) (as := [.inl x1, .inl 0]) (st := [.inr 48, .inl (rdD (-1) σ 48 500 (F_X7_nodeBehind 43 x1 x2 σ))]) (k := 43) (ci := 7) dc_X7_isIdle_31 ln_7_81 im_X7_nodeBehind (by decide) rfl rfl mk_X7_nodeBehind rfl (Nat.le_of_ble_eq_true rfl) (Nat.le_refl _) (v := (some (.inl (F_X7_nodeBehind 43 x1 0 σ)))) (σ1 := σ) (lk_X7_nodeBehind_43 l d (by omega) x1 0 σ _ rfl) _ rfl ?_
        refine go_SN (M1 := m_X10_at) (as := [.inr 48, .inl (F_X7_nodeBehind 43 x1 0 σ)]) (st := [.inl (rdD (-1) σ 48 500 (F_X7_nodeBehind 43 x1 x2 σ))]) dc_X7_isIdle_34 ln_7_61 sm_X10_at mk_X10_at rfl (Nat.le_of_ble_eq_true rfl) (Nat.le_refl _) (v := some (.inl (rdD (-1) σ 48 500 (F_X7_nodeBehind 43 x1 0 σ)))) (σ1 := σ) (lk_X10_at l d LAYC 48 500 rfl σ _) _ rfl ?_
        refine go_icmp_eq dc_X7_isIdle_37 (by rfl) (fun hc => ?_) (fun hc => ?_)
        · replace h := (if_pos hc).symm.trans h
          refine go_ops ok_X7_isIdle_42_1 (L' := [some (.inr 43), some (.inl x1), some (.inl (wrap (x2 + 1)))]) (st' := []) (σ1 := σ) rfl ?_
          refine go_goto dc_X7_isIdle_45 (by rfl) ?_
          cases h
          exact hK
        · replace h := (if_neg hc).symm.trans h
          refine go_ops ok_X7_isIdle_40_1 (L' := [some (.inr 43), some (.inl x1), some (.inl x2)]) (st' := [.inl 0]) (σ1 := σ) rfl ?_
          cases h
          have hK2 : _ = q := hK
          subst hK2
          exact go_zret (x := false) dc_X7_isIdle_41 rfl
    refine go_ops ok_X7_isIdle_0_2 (L' := [some (.inr 43), some (.inl a1), some (.inl 1)]) (st' := []) (σ1 := σ) rfl ?_
    obtain ⟨y1, e2, h⟩ := bind_inv h
    refine hL_X7_isIdle_2 a1 σ 3000 1 y1 e2 ?_
    rcases y1 with z3 | r4
    rotate_left
    · show r4 = q
      cases h; rfl
    show Go l m_X7_isIdle (d + 1) LAYC (.inl (some (.inl (b2i q)))) σ 48 [none, none, none] [] σ
    rw [Sum.elim_inl] at h
    refine go_ops ok_X7_isIdle_48_1 (L' := [none, none, none]) (st' := [.inl 1]) (σ1 := σ) rfl ?_
    have h9 := Option.some.inj h
    subst h9
    exact go_zret (x := true) dc_X7_isIdle_49 rfl
  have hf := go_ct (as := [.inr 43, .inl a1]) mk_X7_isIdle (by rfl) (Nat.le_of_ble_eq_true rfl) key
  exact hf
theorem lk_X7_isIdle_49 (l : Launch) (d : Nat) (hd : 3 ≤ d) (a1 : Int) (σ : Sg) (q : Bool) (h : F_X7_isIdle 49 a1 σ = some q) : CT l d m_X7_isIdle.2.1 m_X7_isIdle.2.2.1 m_X7_isIdle.2.2.2.1 m_X7_isIdle.2.2.2.2 [.inr 49, .inl a1] (LAYC, σ) (some (.inl (b2i q))) (LAYC, σ) := by
  obtain ⟨d, rfl⟩ : ∃ e, d = e + 1 := ⟨d - 1, by omega⟩
  have key : Go l m_X7_isIdle (d + 1) LAYC (.inl (some (.inl (b2i q)))) σ 0 [some (.inr 49), some (.inl a1), none] [] σ := by
    unfold F_X7_isIdle at h
    have hL_X7_isIdle_2 : ∀ (x1 : Int) (σ : Sg) (n : Nat) (a : Int) (y : (Unit ⊕ Bool)), iter (fun a : Int => L_X7_isIdle_2 49 x1 σ a) n a = some y → (Sum.elim (fun y : Unit => Go l m_X7_isIdle (d + 1) LAYC (.inl (some (.inl (b2i q)))) σ 48 [none, none, none] [] σ) (fun r : Bool => r = q)) y → (fun a : Int => Go l m_X7_isIdle (d + 1) LAYC (.inl (some (.inl (b2i q)))) σ 2 [some (.inr 49), some (.inl x1), some (.inl a)] [] σ) a := by
      intro x1 σ
      refine go_iter (G := fun a : Int => Go l m_X7_isIdle (d + 1) LAYC (.inl (some (.inl (b2i q)))) σ 2 [some (.inr 49), some (.inl x1), some (.inl a)] [] σ) (K := Sum.elim (fun y : Unit => Go l m_X7_isIdle (d + 1) LAYC (.inl (some (.inl (b2i q)))) σ 48 [none, none, none] [] σ) (fun r : Bool => r = q)) ?_
      rintro x2 w h hK
      replace h : L_X7_isIdle_2 49 x1 σ x2 = some w := h
      show Go l m_X7_isIdle (d + 1) LAYC (.inl (some (.inl (b2i q)))) σ 2 [some (.inr 49), some (.inl x1), some (.inl x2)] [] σ
      unfold L_X7_isIdle_2 at h
      refine go_ops ok_X7_isIdle_2_3 (L' := [some (.inr 49), some (.inl x1), some (.inl x2)]) (st' := [.inl x1, .inr 49, .inl x2]) (σ1 := σ) rfl ?_
      refine go_V (M1 := m_X7_widthOf) (as := [.inl x1]) (st := [.inl x2]) (k := 49) (ci := 7) dc_X7_isIdle_5 ln_7_78 im_X7_widthOf (by decide) rfl rfl mk_X7_widthOf rfl (Nat.le_of_ble_eq_true rfl) (Nat.le_refl _) (v := (some (.inl (F_X7_widthOf 49 x1 σ)))) (σ1 := σ) (lk_X7_widthOf_49 l d (by omega) x1 σ _ rfl) _ rfl ?_
      refine go_icmp_ge dc_X7_isIdle_8 (by rfl) (fun hc => ?_) (fun hc => ?_)
      · replace h := (if_pos hc).symm.trans h
        cases h
        refine go_wk (L' := [none, none, none]) trivial ?_
        exact hK
      · replace h := (if_neg hc).symm.trans h
        refine go_ops ok_X7_isIdle_11_5 (L' := [some (.inr 49), some (.inl x1), some (.inl x2)]) (st' := [.inl x2, .inl x1, .inr 49, .inr 54]) (σ1 := σ) rfl ?_
        refine go_V (M1 := m_X7_nodeBehind) (as := [.inl x1, .inl x2]) (st := [.inr 54]) (k := 49) (ci := 7) dc_X7_isIdle_18 ln_7_81 im_X7_nodeBehind (by decide) rfl rfl mk_X7_nodeBehind rfl (Nat.le_of_ble_eq_true rfl) (Nat.le_refl _) (v := (some (.inl (F_X7_nodeBehind 49 x1 x2 σ)))) (σ1 := σ) (lk_X7_nodeBehind_49 l d (by omega) x1 x2 σ _ rfl) _ rfl ?_
        refine go_SN (M1 := m_X10_at) (as := [.inr 54, .inl (F_X7_nodeBehind 49 x1 x2 σ)]) (st := []) dc_X7_isIdle_21 ln_7_61 sm_X10_at mk_X10_at rfl (Nat.le_of_ble_eq_true rfl) (Nat.le_refl _) (v := some (.inl (rdD (-1) σ 54 500 (F_X7_nodeBehind 49 x1 x2 σ)))) (σ1 := σ) (lk_X10_at l d LAYC 54 500 rfl σ _) _ rfl ?_
        refine go_ops ok_X7_isIdle_24_5 (L' := [some (.inr 49), some (.inl x1), some (.inl x2)]) (st' := [.inl 0, .inl x1, .inr 49, .inr 54, .inl (rdD (-1) σ 54 500 (F_X7_nodeBehind 49 x1 x2 σ))]) (σ1 := σ) rfl ?_
        refine go_V (M1 := m_X7_nodeBehind) (as := [.inl x1, .inl 0]) (st := [.inr 54, .inl (rdD (-1) σ 54 500 (F_X7_nodeBehind 49 x1 x2 σ))]) (k := 49) (ci := 7) dc_X7_isIdle_31 ln_7_81 im_X7_nodeBehind (by decide) rfl rfl mk_X7_nodeBehind rfl (Nat.le_of_ble_eq_true rfl) (Nat.le_refl _) (v := (some (.inl (F_X7_nodeBehind 49 x1 0 σ)))) (σ1 := σ) (lk_X7_nodeBehind_49 l d (by omega) x1 0 σ _ rfl) _ rfl ?_
        refine go_SN (M1 := m_X10_at) (as := [.inr 54, .inl (F_X7_nodeBehind 49 x1 0 σ)]) (st := [.inl (rdD (-1) σ 54 500 (F_X7_nodeBehind 49 x1 x2 σ))]) dc_X7_isIdle_34 ln_7_61 sm_X10_at mk_X10_at rfl (Nat.le_of_ble_eq_true rfl) (Nat.le_refl _) (v := some (.inl (rdD (-1) σ 54 500 (F_X7_nodeBehind 49 x1 0 σ)))) (σ1 := σ) (lk_X10_at l d LAYC 54 500 rfl σ _) _ rfl ?_
        refine go_icmp_eq dc_X7_isIdle_37 (by rfl) (fun hc => ?_) (fun hc => ?_)
        · replace h := (if_pos hc).symm.trans h
          refine go_ops ok_X7_isIdle_42_1 (L' := [some (.inr 49), some (.inl x1), some (.inl (wrap (x2 + 1)))]) (st' := []) (σ1 := σ) rfl ?_
          refine go_goto dc_X7_isIdle_45 (by rfl) ?_
          cases h
          exact hK
        · replace h := (if_neg hc).symm.trans h
          refine go_ops ok_X7_isIdle_40_1 (L' := [some (.inr 49), some (.inl x1), some (.inl x2)]) (st' := [.inl 0]) (σ1 := σ) rfl ?_
          cases h
          have hK2 : _ = q := hK
          subst hK2
          exact go_zret (x := false) dc_X7_isIdle_41 rfl
    refine go_ops ok_X7_isIdle_0_2 (L' := [some (.inr 49), some (.inl a1), some (.inl 1)]) (st' := []) (σ1 := σ) rfl ?_
    obtain ⟨y1, e2, h⟩ := bind_inv h
    refine hL_X7_isIdle_2 a1 σ 3000 1 y1 e2 ?_
    rcases y1 with z3 | r4
    rotate_left
    · show r4 = q
      cases h; rfl
    show Go l m_X7_isIdle (d + 1) LAYC (.inl (some (.inl (b2i q)))) σ 48 [none, none, none] [] σ
    rw [Sum.elim_inl] at h
    refine go_ops ok_X7_isIdle_48_1 (L' := [none, none, none]) (st' := [.inl 1]) (σ1 := σ) rfl ?_
    have h9 := Option.some.inj h
    subst h9
    exact go_zret (x := true) dc_X7_isIdle_49 rfl
  have hf := go_ct (as := [.inr 49, .inl a1]) mk_X7_isIdle (by rfl) (Nat.le_of_ble_eq_true rfl) key
  exact hf
theorem dc_X7_areSame_5 : decode m_X7_areSame.2.2.1 5 = .ok (.invokestatic 61, 3) := by decide +kernel
theorem dc_X7_areSame_13 : decode m_X7_areSame.2.2.1 13 = .ok (.invokestatic 61, 3) := by decide +kernel
theorem dc_X7_areSame_16 : decode m_X7_areSame.2.2.1 16 = .ok (.if_icmp .ne 16, 3) := by decide +kernel
theorem dc_X7_areSame_21 : decode m_X7_areSame.2.2.1 21 = .ok (.invokevirtual 78, 3) := by decide +kernel
theorem dc_X7_areSame_26 : decode m_X7_areSame.2.2.1 26 = .ok (.invokevirtual 78, 3) := by decide +kernel
theorem dc_X7_areSame_29 : decode m_X7_areSame.2.2.1 29 = .ok (.if_icmp .eq 5, 3) := by decide +kernel
theorem dc_X7_areSame_33 : decode m_X7_areSame.2.2.1 33 = .ok (.ireturn, 1) := by decide +kernel
theorem dc_X7_areSame_39 : decode m_X7_areSame.2.2.1 39 = .ok (.invokevirtual 78, 3) := by decide +kernel
theorem dc_X7_areSame_42 : decode m_X7_areSame.2.2.1 42 = .ok (.if_icmp .ge 40, 3) := by decide +kernel
theorem dc_X7_areSame_52 : decode m_X7_areSame.2.2.1 52 = .ok (.invokevirtual 81, 3) := by decide +kernel
theorem dc_X7_areSame_55 : decode m_X7_areSame.2.2.1 55 = .ok (.invokestatic 61, 3) := by decide +kernel
theorem dc_X7_areSame_65 : decode m_X7_areSame.2.2.1 65 = .ok (.invokevirtual 81, 3) := by decide +kernel
theorem dc_X7_areSame_68 : decode m_X7_areSame.2.2.1 68 = .ok (.invokestatic 61, 3) := by decide +kernel
theorem dc_X7_areSame_71 : decode m_X7_areSame.2.2.1 71 = .ok (.if_icmp .eq 5, 3) := by decide +kernel
theorem dc_X7_areSame_75 : decode m_X7_areSame.2.2.1 75 = .ok (.ireturn, 1) := by decide +kernel
theorem dc_X7_areSame_79 : decode m_X7_areSame.2.2.1 79 = .ok (.goto (-43), 3) := by decide +kernel
theorem dc_X7_areSame_83 : decode m_X7_areSame.2.2.1 83 = .ok (.ireturn, 1) := by decide +kernel
theorem ok_X7_areSame_0_3 : oks m_X7_areSame.1 m_X7_areSame.2.2.1 0 [(.aload_n 0, 1, (0, 0, 0)), (.getfield 34, 3, (7, 10, 0)), (.iload_n 1, 1, (0, 0, 0))] = true ∧ plen 0 [(.aload_n 0, 1, (0, 0, 0)), (.getfield 34, 3, (7, 10, 0)), (.iload_n 1, 1, (0, 0, 0))] = 5 := by decide +kernel
theorem ok_X7_areSame_8_3 : oks m_X7_areSame.1 m_X7_areSame.2.2.1 8 [(.aload_n 0, 1, (0, 0, 0)), (.getfield 34, 3, (7, 10, 0)), (.iload_n 2, 1, (0, 0, 0))] = true ∧ plen 8 [(.aload_n 0, 1, (0, 0, 0)), (.getfield 34, 3, (7, 10, 0)), (.iload_n 2, 1, (0, 0, 0))] = 13 := by decide +kernel
theorem ok_X7_areSame_19_2 : oks m_X7_areSame.1 m_X7_areSame.2.2.1 19 [(.aload_n 0, 1, (0, 0, 0)), (.iload_n 1, 1, (0, 0, 0))] = true ∧ plen 19 [(.aload_n 0, 1, (0, 0, 0)), (.iload_n 1, 1, (0, 0, 0))] = 21 := by decide +kernel
theorem ok_X7_areSame_24_2 : oks m_X7_areSame.1 m_X7_areSame.2.2.1 24 [(.aload_n 0, 1, (0, 0, 0)), (.iload_n 2, 1, (0, 0, 0))] = true ∧ plen 24 [(.aload_n 0, 1, (0, 0, 0)), (.iload_n 2, 1, (0, 0, 0))] = 26 := by decide +kernel
theorem ok_X7_areSame_32_1 : oks m_X7_areSame.1 m_X7_areSame.2.2.1 32 [(.iconst 0, 1, (0, 0, 0))] = true ∧ plen 32 [(.iconst 0, 1, (0, 0, 0))] = 33 := by decide +kernel
theorem ok_X7_areSame_34_2 : oks m_X7_areSame.1 m_X7_areSame.2.2.1 34 [(.iconst 0, 1, (0, 0, 0)), (.istore_n 3, 1, (0, 0, 0))] = true ∧ plen 34 [(.iconst 0, 1, (0, 0, 0)), (.istore_n 3, 1, (0, 0, 0))] = 36 := by decide +kernel
theorem ok_X7_areSame_36_3 : oks m_X7_areSame.1 m_X7_areSame.2.2.1 36 [(.iload_n 3, 1, (0, 0, 0)), (.aload_n 0, 1, (0, 0, 0)), (.iload_n 1, 1, (0, 0, 0))] = true ∧ plen 36 [(.iload_n 3, 1, (0, 0, 0)), (.aload_n 0, 1, (0, 0, 0)), (.iload_n 1, 1, (0, 0, 0))] = 39 := by decide +kernel
theorem ok_X7_areSame_45_5 : oks m_X7_areSame.1 m_X7_areSame.2.2.1 45 [(.aload_n 0, 1, (0, 0, 0)), (.getfield 47, 3, (7, 14, 0)), (.aload_n 0, 1, (0, 0, 0)), (.iload_n 1, 1, (0, 0, 0)), (.iload_n 3, 1, (0, 0, 0))] = true ∧ plen 45 [(.aload_n 0, 1, (0, 0, 0)), (.getfield 47, 3, (7, 14, 0)), (.aload_n 0, 1, (0, 0, 0)), (.iload_n 1, 1, (0, 0, 0)), (.iload_n 3, 1, (0, 0, 0))] = 52 := by decide +kernel
theorem ok_X7_areSame_58_5 : oks m_X7_areSame.1 m_X7_areSame.2.2.1 58 [(.aload_n 0, 1, (0, 0, 0)), (.getfield 47, 3, (7, 14, 0)), (.aload_n 0, 1, (0, 0, 0)), (.iload_n 2, 1, (0, 0, 0)), (.iload_n 3, 1, (0, 0, 0))] = true ∧ plen 58 [(.aload_n 0, 1, (0, 0, 0)), (.getfield 47, 3, (7, 14, 0)), (.aload_n 0, 1, (0, 0, 0)), (.iload_n 2, 1, (0, 0, 0)), (.iload_n 3, 1, (0, 0, 0))] = 65 := by decide +kernel
theorem ok_X7_areSame_74_1 : oks m_X7_areSame.1 m_X7_areSame.2.2.1 74 [(.iconst 0, 1, (0, 0, 0))] = true ∧ plen 74 [(.iconst 0, 1, (0, 0, 0))] = 75 := by decide +kernel
theorem ok_X7_areSame_76_1 : oks m_X7_areSame.1 m_X7_areSame.2.2.1 76 [(.iinc 3 1, 3, (0, 0, 0))] = true ∧ plen 76 [(.iinc 3 1, 3, (0, 0, 0))] = 79 := by decide +kernel
theorem ok_X7_areSame_82_1 : oks m_X7_areSame.1 m_X7_areSame.2.2.1 82 [(.iconst 1, 1, (0, 0, 0))] = true ∧ plen 82 [(.iconst 1, 1, (0, 0, 0))] = 83 := by decide +kernel
def L_X7_areSame_36 (t : Nat) (x1 : Int) (x2 : Int) (σ : Sg) (x3 : Int) : Option (Int ⊕ (Unit ⊕ Bool)) :=
if (F_X7_widthOf t x1 σ) ≤ x3 then
some (.inr (.inl ()))
else
if (rdD (-1) σ (t + 5) 500 (F_X7_nodeBehind t x1 x3 σ)) = (rdD (-1) σ (t + 5) 500 (F_X7_nodeBehind t x2 x3 σ)) then
some (.inl (wrap (x3 + 1)))
else
some (.inr (.inr false))
def F_X7_areSame (t : Nat) (a1 : Int) (a2 : Int) (σ : Sg) : Option Bool :=
if (rdD (-1) σ (t + 1) 500 a1) = (rdD (-1) σ (t + 1) 500 a2) then
if (F_X7_widthOf t a1 σ) = (F_X7_widthOf t a2 σ) then
(iter (fun a : Int => L_X7_areSame_36 t a1 a2 σ a) 3000 0).bind fun y1 => Sum.elim (fun z3 =>
some true) (fun r4 => some r4) y1
else
some false
else
some false
theorem lk_X7_areSame_43 (l : Launch) (d : Nat) (hd : 3 ≤ d) (a1 : Int) (a2 : Int) (σ : Sg) (q : Bool) (h : F_X7_areSame 43 a1 a2 σ = some q) : CT l d m_X7_areSame.2.1 m_X7_areSame.2.2.1 m_X7_areSame.2.2.2.1 m_X7_areSame.2.2.2.2 [.inr 43, .inl a1, .inl a2] (LAYC, σ) (some (.inl (b2i q))) (LAYC, σ) := by
  obtain ⟨d, rfl⟩ : ∃ e, d = e + 1 := ⟨d - 1, by omega⟩
  have key : Go l m_X7_areSame (d + 1) LAYC (.inl (some (.inl (b2i q)))) σ 0 [some (.inr 43), some (.inl a1), some (.inl a2), none] [] σ := by
    unfold F_X7_areSame at h
    have hL_X7_areSame_36 : ∀ (x1 : Int) (x2 : Int) (σ : Sg) (n : Nat) (a : Int) (y : (Unit ⊕ Bool)), iter (fun a : Int => L_X7_areSame_36 43 x1 x2 σ a) n a = some y → (Sum.elim (fun y : Unit => Go l m_X7_areSame (d + 1) LAYC (.inl (some (.inl (b2i q)))) σ 82 [none, none, none, none] [] σ) (fun r : Bool => r = q)) y → (fun a : Int => Go l m_X7_areSame (d + 1) LAYC (.inl (some (.inl (b2i q)))) σ 36 [some (.inr 43), some (.inl x1), some (.inl x2), some (.inl a)] [] σ) a := by
      intro x1 x2 σ
      refine go_iter (G := fun a : Int => Go l m_X7_areSame (d + 1) LAYC (.inl (some (.inl (b2i q)))) σ 36 [some (.inr 43), some (.inl x1), some (.inl x2), some (.inl a)] [] σ) (K := Sum.elim (fun y : Unit => Go l m_X7_areSame (d + 1) LAYC (.inl (some (.inl (b2i q)))) σ 82 [none, none, none, none] [] σ) (fun r : Bool => r = q)) ?_
      rintro x3 w h hK
      replace h : L_X7_areSame_36 43 x1 x2 σ x3 = some w := h
      show Go l m_X7_areSame (d + 1) LAYC (.inl (some (.inl (b2i q)))) σ 36 [some (.inr 43), some (.inl x1), some (.inl x2), some (.inl x3)] [] σ
      unfold L_X7_areSame_36 at h
      refine go_ops ok_X7_areSame_36_3 (L' := [some (.inr 43), some (.inl x1), some (.inl x2), some (.inl x3)]) (st' := [.inl x1, .inr 43, .inl x3]) (σ1 := σ) rfl ?_
      refine go_V (M1 := m_X7_widthOf) (as := [.inl x1]) (st := [.inl x3]) (k := 43) (ci := 7) dc_X7_areSame_39 ln_7_78 im_X7_widthOf (by decide) rfl rfl mk_X7_widthOf rfl (Nat.le_of_ble_eq_true rfl) (Nat.le_refl _) (v := (some (.inl (F_X7_widthOf 43 x1 σ)))) (σ1 := σ) (lk_X7_widthOf_43 l d (by omega) x1 σ _ rfl) _ rfl ?_
      refine go_icmp_ge dc_X7_areSame_42 (by rfl) (fun hc => ?_) (fun hc => ?_)
      · replace h := (if_pos hc).symm.trans h
        cases h
        refine go_wk (L' := [none, none, none, none]) trivial ?_
        exact hK
      · replace h := (if_neg hc).symm.trans h
        refine go_ops ok_X7_areSame_45_5 (L' := [some (.inr 43), some (.inl x1), some (.inl x2), some (.inl x3)]) (st' := [.inl x3, .inl x1, .inr 43, .inr 48]) (σ1 := σ) rfl ?_
        refine go_V (M1 := m_X7_nodeBehind) (as := [.inl x1, .inl x3]) (st := [.inr 48]) (k := 43) (ci := 7) dc_X7_areSame_52 ln_7_81 im_X7_nodeBehind (by decide) rfl rfl mk_X7_nodeBehind rfl (Nat.le_of_ble_eq_true rfl) (Nat.le_refl _) (v := (some (.inl (F_X7_nodeBehind 43 x1 x3 σ)))) (σ1 := σ) (lk_X7_nodeBehind_43 l d (by omega) x1 x3 σ _ rfl) _ rfl ?_
        refine go_SN (M1 := m_X10_at) (as := [.inr 48, .inl (F_X7_nodeBehind 43 x1 x3 σ)]) (st := []) dc_X7_areSame_55 ln_7_61 sm_X10_at mk_X10_at rfl (Nat.le_of_ble_eq_true rfl) (Nat.le_refl _) (v := some (.inl (rdD (-1) σ 48 500 (F_X7_nodeBehind 43 x1 x3 σ)))) (σ1 := σ) (lk_X10_at l d LAYC 48 500 rfl σ _) _ rfl ?_
        refine go_ops ok_X7_areSame_58_5 (L' := [some (.inr 43), some (.inl x1), some (.inl x2), some (.inl x3)]) (st' := [.inl x3, .inl x2, .inr 43, .inr 48, .inl (rdD (-1) σ 48 500 (F_X7_nodeBehind 43 x1 x3 σ))]) (σ1 := σ) rfl ?_
        refine go_V (M1 := m_X7_nodeBehind) (as := [.inl x2, .inl x3]) (st := [.inr 48, .inl (rdD (-1) σ 48 500 (F_X7_nodeBehind 43 x1 x3 σ))]) (k := 43) (ci := 7) dc_X7_areSame_65 ln_7_81 im_X7_nodeBehind (by decide) rfl rfl mk_X7_nodeBehind rfl (Nat.le_of_ble_eq_true rfl) (Nat.le_refl _) (v := (some (.inl (F_X7_nodeBehind 43 x2 x3 σ)))) (σ1 := σ) (lk_X7_nodeBehind_43 l d (by omega) x2 x3 σ _ rfl) _ rfl ?_
        refine go_SN (M1 := m_X10_at) (as := [.inr 48, .inl (F_X7_nodeBehind 43 x2 x3 σ)]) (st := [.inl (rdD (-1) σ 48 500 (F_X7_nodeBehind 43 x1 x3 σ))]) dc_X7_areSame_68 ln_7_61 sm_X10_at mk_X10_at rfl (Nat.le_of_ble_eq_true rfl) (Nat.le_refl _) (v := some (.inl (rdD (-1) σ 48 500 (F_X7_nodeBehind 43 x2 x3 σ)))) (σ1 := σ) (lk_X10_at l d LAYC 48 500 rfl σ _) _ rfl ?_
        refine go_icmp_eq dc_X7_areSame_71 (by rfl) (fun hc => ?_) (fun hc => ?_)
        · replace h := (if_pos hc).symm.trans h
          refine go_ops ok_X7_areSame_76_1 (L' := [some (.inr 43), some (.inl x1), some (.inl x2), some (.inl (wrap (x3 + 1)))]) (st' := []) (σ1 := σ) rfl ?_
          refine go_goto dc_X7_areSame_79 (by rfl) ?_
          cases h
          exact hK
        · replace h := (if_neg hc).symm.trans h
          refine go_ops ok_X7_areSame_74_1 (L' := [some (.inr 43), some (.inl x1), some (.inl x2), some (.inl x3)]) (st' := [.inl 0]) (σ1 := σ) rfl ?_
          cases h
          have hK2 : _ = q := hK
          subst hK2
          exact go_zret (x := false) dc_X7_areSame_75 rfl
    refine go_ops ok_X7_areSame_0_3 (L' := [some (.inr 43), some (.inl a1), some (.inl a2), none]) (st' := [.inl a1, .inr 44]) (σ1 := σ) rfl ?_
    refine go_SN (M1 := m_X10_at) (as := [.inr 44, .inl a1]) (st := []) dc_X7_areSame_5 ln_7_61 sm_X10_at mk_X10_at rfl (Nat.le_of_ble_eq_true rfl) (Nat.le_refl _) (v := some (.inl (rdD (-1) σ 44 500 a1))) (σ1 := σ) (lk_X10_at l d LAYC 44 500 rfl σ _) _ rfl ?_
    refine go_ops ok_X7_areSame_8_3 (L' := [some (.inr 43), some (.inl a1), some (.inl a2), none]) (st' := [.inl a2, .inr 44, .inl (rdD (-1) σ 44 500 a1)]) (σ1 := σ) rfl ?_
    refine go_SN (M1 := m_X10_at) (as := [.inr 44, .inl a2]) (st := [.inl (rdD (-1) σ 44 500 a1)]) dc_X7_areSame_13 ln_7_61 sm_X10_at mk_X10_at rfl (Nat.le_of_ble_eq_true rfl) (Nat.le_refl _) (v := some (.inl (rdD (-1) σ 44 500 a2))) (σ1 := σ) (lk_X10_at l d LAYC 44 500 rfl σ _) _ rfl ?_
    refine go_icmp_ne dc_X7_areSame_16 (by rfl) (fun hc => ?_) (fun hc => ?_)
    · replace h := (if_neg hc).symm.trans h
      refine go_ops ok_X7_areSame_32_1 (L' := [some (.inr 43), some (.inl a1), some (.inl a2), none]) (st' := [.inl 0]) (σ1 := σ) rfl ?_
      have h9 := Option.some.inj h
      subst h9
      exact go_zret (x := false) dc_X7_areSame_33 rfl
    · replace h := (if_pos hc).symm.trans h
      refine go_ops ok_X7_areSame_19_2 (L' := [some (.inr 43), some (.inl a1), some (.inl a2), none]) (st' := [.inl a1, .inr 43]) (σ1 := σ) rfl ?_
      refine go_V (M1 := m_X7_widthOf) (as := [.inl a1]) (st := []) (k := 43) (ci := 7) dc_X7_areSame_21 ln_7_78 im_X7_widthOf (by decide) rfl rfl mk_X7_widthOf rfl (Nat.le_of_ble_eq_true rfl) (Nat.le_refl _) (v := (some (.inl (F_X7_widthOf 43 a1 σ)))) (σ1 := σ) (lk_X7_widthOf_43 l d (by omega) a1 σ _ rfl) _ rfl ?_
      refine go_ops ok_X7_areSame_24_2 (L' := [some (.inr 43), some (.inl a1), some (.inl a2), none]) (st' := [.inl a2, .inr 43, .inl (F_X7_widthOf 43 a1 σ)]) (σ1 := σ) rfl ?_
      refine go_V (M1 := m_X7_widthOf) (as := [.inl a2]) (st := [.inl (F_X7_widthOf 43 a1 σ)]) (k := 43) (ci := 7) dc_X7_areSame_26 ln_7_78 im_X7_widthOf (by decide) rfl rfl mk_X7_widthOf rfl (Nat.le_of_ble_eq_true rfl) (Nat.le_refl _) (v := (some (.inl (F_X7_widthOf 43 a2 σ)))) (σ1 := σ) (lk_X7_widthOf_43 l d (by omega) a2 σ _ rfl) _ rfl ?_
      refine go_icmp_eq dc_X7_areSame_29 (by rfl) (fun hc => ?_) (fun hc => ?_)
      · replace h := (if_pos hc).symm.trans h
        refine go_ops ok_X7_areSame_34_2 (L' := [some (.inr 43), some (.inl a1), some (.inl a2), some (.inl 0)]) (st' := []) (σ1 := σ) rfl ?_
        obtain ⟨y1, e2, h⟩ := bind_inv h
        refine hL_X7_areSame_36 a1 a2 σ 3000 0 y1 e2 ?_
        rcases y1 with z3 | r4
        rotate_left
        · show r4 = q
          cases h; rfl
        show Go l m_X7_areSame (d + 1) LAYC (.inl (some (.inl (b2i q)))) σ 82 [none, none, none, none] [] σ
        rw [Sum.elim_inl] at h
        refine go_ops ok_X7_areSame_82_1 (L' := [none, none, none, none]) (st' := [.inl 1]) (σ1 := σ) rfl ?_
        have h9 := Option.some.inj h
        subst h9
        exact go_zret (x := true) dc_X7_areSame_83 rfl
      · replace h := (if_neg hc).symm.trans h
        refine go_ops ok_X7_areSame_32_1 (L' := [some (.inr 43), some (.inl a1), some (.inl a2), none]) (st' := [.inl 0]) (σ1 := σ) rfl ?_
        have h9 := Option.some.inj h
        subst h9
        exact go_zret (x := false) dc_X7_areSame_33 rfl
  have hf := go_ct (as := [.inr 43, .inl a1, .inl a2]) mk_X7_areSame (by rfl) (Nat.le_of_ble_eq_true rfl) key
  exact hf
theorem lk_X7_areSame_49 (l : Launch) (d : Nat) (hd : 3 ≤ d) (a1 : Int) (a2 : Int) (σ : Sg) (q : Bool) (h : F_X7_areSame 49 a1 a2 σ = some q) : CT l d m_X7_areSame.2.1 m_X7_areSame.2.2.1 m_X7_areSame.2.2.2.1 m_X7_areSame.2.2.2.2 [.inr 49, .inl a1, .inl a2] (LAYC, σ) (some (.inl (b2i q))) (LAYC, σ) := by
  obtain ⟨d, rfl⟩ : ∃ e, d = e + 1 := ⟨d - 1, by omega⟩
  have key : Go l m_X7_areSame (d + 1) LAYC (.inl (some (.inl (b2i q)))) σ 0 [some (.inr 49), some (.inl a1), some (.inl a2), none] [] σ := by
    unfold F_X7_areSame at h
    have hL_X7_areSame_36 : ∀ (x1 : Int) (x2 : Int) (σ : Sg) (n : Nat) (a : Int) (y : (Unit ⊕ Bool)), iter (fun a : Int => L_X7_areSame_36 49 x1 x2 σ a) n a = some y → (Sum.elim (fun y : Unit => Go l m_X7_areSame (d + 1) LAYC (.inl (some (.inl (b2i q)))) σ 82 [none, none, none, none] [] σ) (fun r : Bool => r = q)) y → (fun a : Int => Go l m_X7_areSame (d + 1) LAYC (.inl (some (.inl (b2i q)))) σ 36 [some (.inr 49), some (.inl x1), some (.inl x2), some (.inl a)] [] σ) a := by
      intro x1 x2 σ
      refine go_iter (G := fun a : Int => Go l m_X7_areSame (d + 1) LAYC (.inl (some (.inl (b2i q)))) σ 36 [some (.inr 49), some (.inl x1), some (.inl x2), some (.inl a)] [] σ) (K := Sum.elim (fun y : Unit => Go l m_X7_areSame (d + 1) LAYC (.inl (some (.inl (b2i q)))) σ 82 [none, none, none, none] [] σ) (fun r : Bool => r = q)) ?_
      rintro x3 w h hK
      replace h : L_X7_areSame_36 49 x1 x2 σ x3 = some w := h
      show Go l m_X7_areSame (d + 1) LAYC (.inl (some (.inl (b2i q)))) σ 36 [some (.inr 49), some (.inl x1), some (.inl x2), some (.inl x3)] [] σ
      unfold L_X7_areSame_36 at h
      refine go_ops ok_X7_areSame_36_3 (L' := [some (.inr 49), some (.inl x1), some (.inl x2), some (.inl x3)]) (st' := [.inl x1, .inr 49, .inl x3]) (σ1 := σ) rfl ?_
      refine go_V (M1 := m_X7_widthOf) (as := [.inl x1]) (st := [.inl x3]) (k := 49) (ci := 7) dc_X7_areSame_39 ln_7_78 im_X7_widthOf (by decide) rfl rfl mk_X7_widthOf rfl (Nat.le_of_ble_eq_true rfl) (Nat.le_refl _) (v := (some (.inl (F_X7_widthOf 49 x1 σ)))) (σ1 := σ) (lk_X7_widthOf_49 l d (by omega) x1 σ _ rfl) _ rfl ?_
      refine go_icmp_ge dc_X7_areSame_42 (by rfl) (fun hc => ?_) (fun hc => ?_)
      · replace h := (if_pos hc).symm.trans h
        cases h
        refine go_wk (L' := [none, none, none, none]) trivial ?_
        exact hK
      · replace h := (if_neg hc).symm.trans h
        refine go_ops ok_X7_areSame_45_5 (L' := [some (.inr 49), some (.inl x1), some (.inl x2), some (.inl x3)]) (st' := [.inl x3, .inl x1, .inr 49, .inr 54]) (σ1 := σ) rfl ?_
        refine go_V (M1 := m_X7_nodeBehind) (as := [.inl x1, .inl x3]) (st := [.inr 54]) (k := 49) (ci := 7) dc_X7_areSame_52 ln_7_81 im_X7_nodeBehind (by decide) rfl rfl mk_X7_nodeBehind rfl (Nat.le_of_ble_eq_true rfl) (Nat.le_refl _) (v := (some (.inl (F_X7_nodeBehind 49 x1 x3 σ)))) (σ1 := σ) (lk_X7_nodeBehind_49 l d (by omega) x1 x3 σ _ rfl) _ rfl ?_
        refine go_SN (M1 := m_X10_at) (as := [.inr 54, .inl (F_X7_nodeBehind 49 x1 x3 σ)]) (st := []) dc_X7_areSame_55 ln_7_61 sm_X10_at mk_X10_at rfl (Nat.le_of_ble_eq_true rfl) (Nat.le_refl _) (v := some (.inl (rdD (-1) σ 54 500 (F_X7_nodeBehind 49 x1 x3 σ)))) (σ1 := σ) (lk_X10_at l d LAYC 54 500 rfl σ _) _ rfl ?_
        refine go_ops ok_X7_areSame_58_5 (L' := [some (.inr 49), some (.inl x1), some (.inl x2), some (.inl x3)]) (st' := [.inl x3, .inl x2, .inr 49, .inr 54, .inl (rdD (-1) σ 54 500 (F_X7_nodeBehind 49 x1 x3 σ))]) (σ1 := σ) rfl ?_
        refine go_V (M1 := m_X7_nodeBehind) (as := [.inl x2, .inl x3]) (st := [.inr 54, .inl (rdD (-1) σ 54 500 (F_X7_nodeBehind 49 x1 x3 σ))]) (k := 49) (ci := 7) dc_X7_areSame_65 ln_7_81 im_X7_nodeBehind (by decide) rfl rfl mk_X7_nodeBehind rfl (Nat.le_of_ble_eq_true rfl) (Nat.le_refl _) (v := (some (.inl (F_X7_nodeBehind 49 x2 x3 σ)))) (σ1 := σ) (lk_X7_nodeBehind_49 l d (by omega) x2 x3 σ _ rfl) _ rfl ?_
        refine go_SN (M1 := m_X10_at) (as := [.inr 54, .inl (F_X7_nodeBehind 49 x2 x3 σ)]) (st := [.inl (rdD (-1) σ 54 500 (F_X7_nodeBehind 49 x1 x3 σ))]) dc_X7_areSame_68 ln_7_61 sm_X10_at mk_X10_at rfl (Nat.le_of_ble_eq_true rfl) (Nat.le_refl _) (v := some (.inl (rdD (-1) σ 54 500 (F_X7_nodeBehind 49 x2 x3 σ)))) (σ1 := σ) (lk_X10_at l d LAYC 54 500 rfl σ _) _ rfl ?_
        refine go_icmp_eq dc_X7_areSame_71 (by rfl) (fun hc => ?_) (fun hc => ?_)
        · replace h := (if_pos hc).symm.trans h
          refine go_ops ok_X7_areSame_76_1 (L' := [some (.inr 49), some (.inl x1), some (.inl x2), some (.inl (wrap (x3 + 1)))]) (st' := []) (σ1 := σ) rfl ?_
          refine go_goto dc_X7_areSame_79 (by rfl) ?_
          cases h
          exact hK
        · replace h := (if_neg hc).symm.trans h
          refine go_ops ok_X7_areSame_74_1 (L' := [some (.inr 49), some (.inl x1), some (.inl x2), some (.inl x3)]) (st' := [.inl 0]) (σ1 := σ) rfl ?_
          cases h
          have hK2 : _ = q := hK
          subst hK2
          exact go_zret (x := false) dc_X7_areSame_75 rfl
    refine go_ops ok_X7_areSame_0_3 (L' := [some (.inr 49), some (.inl a1), some (.inl a2), none]) (st' := [.inl a1, .inr 50]) (σ1 := σ) rfl ?_
    refine go_SN (M1 := m_X10_at) (as := [.inr 50, .inl a1]) (st := []) dc_X7_areSame_5 ln_7_61 sm_X10_at mk_X10_at rfl (Nat.le_of_ble_eq_true rfl) (Nat.le_refl _) (v := some (.inl (rdD (-1) σ 50 500 a1))) (σ1 := σ) (lk_X10_at l d LAYC 50 500 rfl σ _) _ rfl ?_
    refine go_ops ok_X7_areSame_8_3 (L' := [some (.inr 49), some (.inl a1), some (.inl a2), none]) (st' := [.inl a2, .inr 50, .inl (rdD (-1) σ 50 500 a1)]) (σ1 := σ) rfl ?_
    refine go_SN (M1 := m_X10_at) (as := [.inr 50, .inl a2]) (st := [.inl (rdD (-1) σ 50 500 a1)]) dc_X7_areSame_13 ln_7_61 sm_X10_at mk_X10_at rfl (Nat.le_of_ble_eq_true rfl) (Nat.le_refl _) (v := some (.inl (rdD (-1) σ 50 500 a2))) (σ1 := σ) (lk_X10_at l d LAYC 50 500 rfl σ _) _ rfl ?_
    refine go_icmp_ne dc_X7_areSame_16 (by rfl) (fun hc => ?_) (fun hc => ?_)
    · replace h := (if_neg hc).symm.trans h
      refine go_ops ok_X7_areSame_32_1 (L' := [some (.inr 49), some (.inl a1), some (.inl a2), none]) (st' := [.inl 0]) (σ1 := σ) rfl ?_
      have h9 := Option.some.inj h
      subst h9
      exact go_zret (x := false) dc_X7_areSame_33 rfl
    · replace h := (if_pos hc).symm.trans h
      refine go_ops ok_X7_areSame_19_2 (L' := [some (.inr 49), some (.inl a1), some (.inl a2), none]) (st' := [.inl a1, .inr 49]) (σ1 := σ) rfl ?_
      refine go_V (M1 := m_X7_widthOf) (as := [.inl a1]) (st := []) (k := 49) (ci := 7) dc_X7_areSame_21 ln_7_78 im_X7_widthOf (by decide) rfl rfl mk_X7_widthOf rfl (Nat.le_of_ble_eq_true rfl) (Nat.le_refl _) (v := (some (.inl (F_X7_widthOf 49 a1 σ)))) (σ1 := σ) (lk_X7_widthOf_49 l d (by omega) a1 σ _ rfl) _ rfl ?_
      refine go_ops ok_X7_areSame_24_2 (L' := [some (.inr 49), some (.inl a1), some (.inl a2), none]) (st' := [.inl a2, .inr 49, .inl (F_X7_widthOf 49 a1 σ)]) (σ1 := σ) rfl ?_
      refine go_V (M1 := m_X7_widthOf) (as := [.inl a2]) (st := [.inl (F_X7_widthOf 49 a1 σ)]) (k := 49) (ci := 7) dc_X7_areSame_26 ln_7_78 im_X7_widthOf (by decide) rfl rfl mk_X7_widthOf rfl (Nat.le_of_ble_eq_true rfl) (Nat.le_refl _) (v := (some (.inl (F_X7_widthOf 49 a2 σ)))) (σ1 := σ) (lk_X7_widthOf_49 l d (by omega) a2 σ _ rfl) _ rfl ?_
      refine go_icmp_eq dc_X7_areSame_29 (by rfl) (fun hc => ?_) (fun hc => ?_)
      · replace h := (if_pos hc).symm.trans h
        refine go_ops ok_X7_areSame_34_2 (L' := [some (.inr 49), some (.inl a1), some (.inl a2), some (.inl 0)]) (st' := []) (σ1 := σ) rfl ?_
        obtain ⟨y1, e2, h⟩ := bind_inv h
        refine hL_X7_areSame_36 a1 a2 σ 3000 0 y1 e2 ?_
        rcases y1 with z3 | r4
        rotate_left
        · show r4 = q
          cases h; rfl
        show Go l m_X7_areSame (d + 1) LAYC (.inl (some (.inl (b2i q)))) σ 82 [none, none, none, none] [] σ
        rw [Sum.elim_inl] at h
        refine go_ops ok_X7_areSame_82_1 (L' := [none, none, none, none]) (st' := [.inl 1]) (σ1 := σ) rfl ?_
        have h9 := Option.some.inj h
        subst h9
        exact go_zret (x := true) dc_X7_areSame_83 rfl
      · replace h := (if_neg hc).symm.trans h
        refine go_ops ok_X7_areSame_32_1 (L' := [some (.inr 49), some (.inl a1), some (.inl a2), none]) (st' := [.inl 0]) (σ1 := σ) rfl ?_
        have h9 := Option.some.inj h
        subst h9
        exact go_zret (x := false) dc_X7_areSame_33 rfl
  have hf := go_ct (as := [.inr 49, .inl a1, .inl a2]) mk_X7_areSame (by rfl) (Nat.le_of_ble_eq_true rfl) key
  exact hf
