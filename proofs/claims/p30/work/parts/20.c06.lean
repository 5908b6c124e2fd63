/-! read off: X10_size .. X10_isUsed -/
theorem dc_X10_size_3 : decode m_X10_size.2.2.1 3 = .ok (.invokestatic 94, 3) := by decide +kernel
theorem dc_X10_size_6 : decode m_X10_size.2.2.1 6 = .ok (.invokestatic 90, 3) := by decide +kernel
theorem dc_X10_size_13 : decode m_X10_size.2.2.1 13 = .ok (.invokevirtual 210, 3) := by decide +kernel
theorem dc_X10_size_16 : decode m_X10_size.2.2.1 16 = .ok (.invokestatic 112, 3) := by decide +kernel
theorem dc_X10_size_21 : decode m_X10_size.2.2.1 21 = .ok (.invokevirtual 252, 3) := by decide +kernel
theorem dc_X10_size_26 : decode m_X10_size.2.2.1 26 = .ok (.invokevirtual 256, 3) := by decide +kernel
theorem dc_X10_size_29 : decode m_X10_size.2.2.1 29 = .ok (.ifCond .ne 6, 3) := by decide +kernel
theorem dc_X10_size_34 : decode m_X10_size.2.2.1 34 = .ok (.ireturn, 1) := by decide +kernel
theorem dc_X10_size_36 : decode m_X10_size.2.2.1 36 = .ok (.ifCond .eq 10, 3) := by decide +kernel
theorem dc_X10_size_40 : decode m_X10_size.2.2.1 40 = .ok (.invokevirtual 278, 3) := by decide +kernel
theorem dc_X10_size_43 : decode m_X10_size.2.2.1 43 = .ok (.goto 7, 3) := by decide +kernel
theorem dc_X10_size_47 : decode m_X10_size.2.2.1 47 = .ok (.invokevirtual 281, 3) := by decide +kernel
theorem dc_X10_size_50 : decode m_X10_size.2.2.1 50 = .ok (.ireturn, 1) := by decide +kernel
theorem ok_X10_size_0_3 : oks m_X10_size.1 m_X10_size.2.2.1 0 [(.iload_n 1, 1, (0, 0, 0)), (.iconst 2, 1, (0, 0, 0)), (.iconst 3, 1, (0, 0, 0))] = true ∧ plen 0 [(.iload_n 1, 1, (0, 0, 0)), (.iconst 2, 1, (0, 0, 0)), (.iconst 3, 1, (0, 0, 0))] = 3 := by decide +kernel
theorem ok_X10_size_9_2 : oks m_X10_size.1 m_X10_size.2.2.1 9 [(.aload_n 0, 1, (0, 0, 0)), (.getfield 40, 3, (10, 4, 0))] = true ∧ plen 9 [(.aload_n 0, 1, (0, 0, 0)), (.getfield 40, 3, (10, 4, 0))] = 13 := by decide +kernel
theorem ok_X10_size_19_2 : oks m_X10_size.1 m_X10_size.2.2.1 19 [(.aload_n 0, 1, (0, 0, 0)), (.iload_n 1, 1, (0, 0, 0))] = true ∧ plen 19 [(.aload_n 0, 1, (0, 0, 0)), (.iload_n 1, 1, (0, 0, 0))] = 21 := by decide +kernel
theorem ok_X10_size_24_2 : oks m_X10_size.1 m_X10_size.2.2.1 24 [(.astore_n 3, 1, (0, 0, 0)), (.aload_n 3, 1, (0, 0, 0))] = true ∧ plen 24 [(.astore_n 3, 1, (0, 0, 0)), (.aload_n 3, 1, (0, 0, 0))] = 26 := by decide +kernel
theorem ok_X10_size_32_1 : oks m_X10_size.1 m_X10_size.2.2.1 32 [(.bipush (-3), 2, (0, 0, 0))] = true ∧ plen 32 [(.bipush (-3), 2, (0, 0, 0))] = 34 := by decide +kernel
theorem ok_X10_size_35_1 : oks m_X10_size.1 m_X10_size.2.2.1 35 [(.iload_n 2, 1, (0, 0, 0))] = true ∧ plen 35 [(.iload_n 2, 1, (0, 0, 0))] = 36 := by decide +kernel
theorem ok_X10_size_39_1 : oks m_X10_size.1 m_X10_size.2.2.1 39 [(.aload_n 3, 1, (0, 0, 0))] = true ∧ plen 39 [(.aload_n 3, 1, (0, 0, 0))] = 40 := by decide +kernel
theorem ok_X10_size_46_1 : oks m_X10_size.1 m_X10_size.2.2.1 46 [(.aload_n 3, 1, (0, 0, 0))] = true ∧ plen 46 [(.aload_n 3, 1, (0, 0, 0))] = 47 := by decide +kernel
def F_X10_size (a1 : Int) (a2 : Bool) (σ : Sg) : Option ((Int ⊕ Nat) × Sg) :=
if (F_X10_isIn a1 2 3) = true then
if (F_X4_isThere σ) = true then
if a1 = 3 then
(F_X7_grow 49 σ).bind fun q1 =>
if q1.1 = true then
if a2 = true then
(F_X7_sharedCount 49 q1.2).bind fun q3 =>
some (.inl q3.1, q3.2)
else
some (.inl (F_X7_nodeCount 49 q1.2), q1.2)
else
some (.inl (-3), q1.2)
else
(F_X7_grow 43 σ).bind fun q5 =>
if q5.1 = true then
if a2 = true then
(F_X7_sharedCount 43 q5.2).bind fun q7 =>
some (.inl q7.1, q7.2)
else
some (.inl (F_X7_nodeCount 43 q5.2), q5.2)
else
some (.inl (-3), q5.2)
else some (.inr 2, σ)
else some (.inr 0, σ)
theorem lk_X10_size (l : Launch) (hl : l.stackTraces = false) (d : Nat) (hd : 109 ≤ d) (a1 : Int) (a2 : Bool) (σ : Sg) (q : ((Int ⊕ Nat) × Sg)) (h : F_X10_size a1 a2 σ = some q) : outZ (ozI q.1) l d m_X10_size.2.1 m_X10_size.2.2.1 m_X10_size.2.2.2.1 m_X10_size.2.2.2.2 [.inr 0, .inl a1, .inl (b2i a2)] (LAYC, σ) (LAYC, q.2) := by
  obtain ⟨d, rfl⟩ : ∃ e, d = e + 1 := ⟨d - 1, by omega⟩
  have key : Go l m_X10_size (d + 1) LAYC (ozI q.1) q.2 0 [some (.inr 0), some (.inl a1), some (.inl (b2i a2)), none] [] σ := by
    unfold F_X10_size at h
    refine go_ops ok_X10_size_0_3 (L' := [some (.inr 0), some (.inl a1), some (.inl (b2i a2)), none]) (st' := [.inl 3, .inl 2, .inl a1]) (σ1 := σ) rfl ?_
    refine go_S (M1 := m_X10_isIn) (as := [.inl a1, .inl 2, .inl 3]) (st := []) dc_X10_size_3 ln_10_94 sm_X10_isIn mk_X10_isIn rfl (Nat.le_of_ble_eq_true rfl) (Nat.le_refl _) (v := (some (.inl (b2i (F_X10_isIn a1 2 3))))) (σ1 := σ) (lk_X10_isIn l d (by omega) a1 2 3 σ _ rfl) _ rfl ?_
    rcases Decidable.em (¬ (F_X10_isIn a1 2 3) = true) with hc | hc
    · replace h := (if_neg hc).symm.trans h
      have h9 := Option.some.inj h
      subst h9
      exact go_SX (M1 := m_X10_demandIndex) (as := [.inl (b2i (F_X10_isIn a1 2 3))]) (st := []) dc_X10_size_6 ln_10_90 sm_X10_demandIndex rfl mk_X10_demandIndex rfl (Nat.le_of_ble_eq_true rfl) (Nat.le_refl _) (lkX_X10_demandIndex l d hl (by omega) _ hc LAYC σ) _ rfl
    replace hc := Decidable.not_not.mp hc
    replace h := (if_pos hc).symm.trans h
    refine go_S (M1 := m_X10_demandIndex) (as := [.inl (b2i (F_X10_isIn a1 2 3))]) (st := []) dc_X10_size_6 ln_10_90 sm_X10_demandIndex mk_X10_demandIndex rfl (Nat.le_of_ble_eq_true rfl) (Nat.le_refl _) (v := none) (σ1 := σ) (lk_X10_demandIndex l d _ hc _ σ) _ rfl ?_
    refine go_ops ok_X10_size_9_2 (L' := [some (.inr 0), some (.inl a1), some (.inl (b2i a2)), none]) (st' := [.inr 24]) (σ1 := σ) rfl ?_
    refine go_V (M1 := m_X4_isThere) (as := []) (st := []) (k := 24) (ci := 4) dc_X10_size_13 ln_10_210 im_X4_isThere (by decide) rfl rfl mk_X4_isThere rfl (Nat.le_of_ble_eq_true rfl) (Nat.le_refl _) (v := (some (.inl (b2i (F_X4_isThere σ))))) (σ1 := σ) (lk_X4_isThere l d (by omega) σ _ rfl) _ rfl ?_
    rcases Decidable.em (¬ (F_X4_isThere σ) = true) with hc | hc
    · replace h := (if_neg hc).symm.trans h
      have h9 := Option.some.inj h
      subst h9
      exact go_SX (M1 := m_X10_demandState) (as := [.inl (b2i (F_X4_isThere σ))]) (st := []) dc_X10_size_16 ln_10_112 sm_X10_demandState rfl mk_X10_demandState rfl (Nat.le_of_ble_eq_true rfl) (Nat.le_refl _) (lkX_X10_demandState l d hl (by omega) _ hc LAYC σ) _ rfl
    replace hc := Decidable.not_not.mp hc
    replace h := (if_pos hc).symm.trans h
    refine go_S (M1 := m_X10_demandState) (as := [.inl (b2i (F_X4_isThere σ))]) (st := []) dc_X10_size_16 ln_10_112 sm_X10_demandState mk_X10_demandState rfl (Nat.le_of_ble_eq_true rfl) (Nat.le_refl _) (v := none) (σ1 := σ) (lk_X10_demandState l d _ hc _ σ) _ rfl ?_
    refine go_ops ok_X10_size_19_2 (L' := [some (.inr 0), some (.inl a1), some (.inl (b2i a2)), none]) (st' := [.inl a1, .inr 0]) (σ1 := σ) rfl ?_
    rcases Decidable.em (a1 = 3) with hc | hc
    · replace h := (if_pos hc).symm.trans h
      refine go_V (M1 := m_X10_treeOf) (as := [.inl a1]) (st := []) (k := 0) (ci := 10) dc_X10_size_21 ln_10_252 im_X10_treeOf (by decide) rfl rfl mk_X10_treeOf rfl (Nat.le_of_ble_eq_true rfl) (Nat.le_refl _) (v := some (.inr 49)) (σ1 := σ) (lk_X10_treeOf_49 l d a1 hc σ) _ rfl ?_
      refine go_ops ok_X10_size_24_2 (L' := [some (.inr 0), some (.inl a1), some (.inl (b2i a2)), some (.inr 49)]) (st' := [.inr 49]) (σ1 := σ) rfl ?_
      obtain ⟨q1, e2, h⟩ := bind_inv h
      refine go_V (M1 := m_X7_grow) (as := []) (st := []) (k := 49) (ci := 7) dc_X10_size_26 ln_10_256 im_X7_grow (by decide) rfl rfl mk_X7_grow rfl (Nat.le_of_ble_eq_true rfl) (Nat.le_refl _) (v := (some (.inl (b2i q1.1)))) (σ1 := q1.2) (lk_X7_grow_49 l d (by omega) σ q1 e2) _ rfl ?_
      refine go_ifb_ne dc_X10_size_29 (by rfl) (fun hc => ?_) (fun hc => ?_)
      · replace h := (if_pos hc).symm.trans h
        refine go_ops ok_X10_size_35_1 (L' := [some (.inr 0), some (.inl a1), some (.inl (b2i a2)), some (.inr 49)]) (st' := [.inl (b2i a2)]) (σ1 := q1.2) rfl ?_
        refine go_ifb_eq dc_X10_size_36 (by rfl) (fun hc => ?_) (fun hc => ?_)
        · replace h := (if_neg hc).symm.trans h
          refine go_ops ok_X10_size_46_1 (L' := [some (.inr 0), some (.inl a1), some (.inl (b2i a2)), some (.inr 49)]) (st' := [.inr 49]) (σ1 := q1.2) rfl ?_
          refine go_V (M1 := m_X7_nodeCount) (as := []) (st := []) (k := 49) (ci := 7) dc_X10_size_47 ln_10_281 im_X7_nodeCount (by decide) rfl rfl mk_X7_nodeCount rfl (Nat.le_of_ble_eq_true rfl) (Nat.le_refl _) (v := (some (.inl (F_X7_nodeCount 49 q1.2)))) (σ1 := q1.2) (lk_X7_nodeCount_49 l d (by omega) q1.2 _ rfl) _ rfl ?_
          have h9 := Option.some.inj h
          subst h9
          exact go_iret dc_X10_size_50 rfl
        · replace h := (if_pos hc).symm.trans h
          refine go_ops ok_X10_size_39_1 (L' := [some (.inr 0), some (.inl a1), some (.inl (b2i a2)), some (.inr 49)]) (st' := [.inr 49]) (σ1 := q1.2) rfl ?_
          obtain ⟨q3, e4, h⟩ := bind_inv h
          refine go_V (M1 := m_X7_sharedCount) (as := []) (st := []) (k := 49) (ci := 7) dc_X10_size_40 ln_10_278 im_X7_sharedCount (by decide) rfl rfl mk_X7_sharedCount rfl (Nat.le_of_ble_eq_true rfl) (Nat.le_refl _) (v := (some (.inl q3.1))) (σ1 := q3.2) (lk_X7_sharedCount_49 l d (by omega) q1.2 q3 e4) _ rfl ?_
          refine go_goto dc_X10_size_43 (by rfl) ?_
          have h9 := Option.some.inj h
          subst h9
          exact go_iret dc_X10_size_50 rfl
      · replace h := (if_neg hc).symm.trans h
        refine go_ops ok_X10_size_32_1 (L' := [some (.inr 0), some (.inl a1), some (.inl (b2i a2)), some (.inr 49)]) (st' := [.inl (-3)]) (σ1 := q1.2) rfl ?_
        have h9 := Option.some.inj h
        subst h9
        exact go_iret dc_X10_size_34 rfl
    · replace h := (if_neg hc).symm.trans h
      refine go_V (M1 := m_X10_treeOf) (as := [.inl a1]) (st := []) (k := 0) (ci := 10) dc_X10_size_21 ln_10_252 im_X10_treeOf (by decide) rfl rfl mk_X10_treeOf rfl (Nat.le_of_ble_eq_true rfl) (Nat.le_refl _) (v := some (.inr 43)) (σ1 := σ) (lk_X10_treeOf_43 l d a1 hc σ) _ rfl ?_
      refine go_ops ok_X10_size_24_2 (L' := [some (.inr 0), some (.inl a1), some (.inl (b2i a2)), some (.inr 43)]) (st' := [.inr 43]) (σ1 := σ) rfl ?_
      obtain ⟨q5, e6, h⟩ := bind_inv h
      refine go_V (M1 := m_X7_grow) (as := []) (st := []) (k := 43) (ci := 7) dc_X10_size_26 ln_10_256 im_X7_grow (by decide) rfl rfl mk_X7_grow rfl (Nat.le_of_ble_eq_true rfl) (Nat.le_refl _) (v := (some (.inl (b2i q5.1)))) (σ1 := q5.2) (lk_X7_grow_43 l d (by omega) σ q5 e6) _ rfl ?_
      refine go_ifb_ne dc_X10_size_29 (by rfl) (fun hc => ?_) (fun hc => ?_)
      · replace h := (if_pos hc).symm.trans h
        refine go_ops ok_X10_size_35_1 (L' := [some (.inr 0), some (.inl a1), some (.inl (b2i a2)), some (.inr 43)]) (st' := [.inl (b2i a2)]) (σ1 := q5.2) rfl ?_
        refine go_ifb_eq dc_X10_size_36 (by rfl) (fun hc => ?_) (fun hc => ?_)
        · replace h := (if_neg hc).symm.trans h
          refine go_ops ok_X10_size_46_1 (L' := [some (.inr 0), some (.inl a1), some (.inl (b2i a2)), some (.inr 43)]) (st' := [.inr 43]) (σ1 := q5.2) rfl ?_
          refine go_V (M1 := m_X7_nodeCount) (as := []) (st := []) (k := 43) (ci := 7) dc_X10_size_47 ln_10_281 im_X7_nodeCount (by decide) rfl rfl mk_X7_nodeCount rfl (Nat.le_of_ble_eq_true rfl) (Nat.le_refl _) (v := (some (.inl (F_X7_nodeCount 43 q5.2)))) (σ1 := q5.2) (lk_X7_nodeCount_43 l d (by omega) q5.2 _ rfl) _ rfl ?_
          have h9 := Option.some.inj h
          subst h9
          exact go_iret dc_X10_size_50 rfl
        · replace h := (if_pos hc).symm.trans h
          refine go_ops ok_X10_size_39_1 (L' := [some (.inr 0), some (.inl a1), some (.inl (b2i a2)), some (.inr 43)]) (st' := [.inr 43]) (σ1 := q5.2) rfl ?_
          obtain ⟨q7, e8, h⟩ := bind_inv h
          refine go_V (M1 := m_X7_sharedCount) (as := []) (st := []) (k := 43) (ci := 7) dc_X10_size_40 ln_10_278 im_X7_sharedCount (by decide) rfl rfl mk_X7_sharedCount rfl (Nat.le_of_ble_eq_true rfl) (Nat.le_refl _) (v := (some (.inl q7.1))) (σ1 := q7.2) (lk_X7_sharedCount_43 l d (by omega) q5.2 q7 e8) _ rfl ?_
          refine go_goto dc_X10_size_43 (by rfl) ?_
          have h9 := Option.some.inj h
          subst h9
          exact go_iret dc_X10_size_50 rfl
      · replace h := (if_neg hc).symm.trans h
        refine go_ops ok_X10_size_32_1 (L' := [some (.inr 0), some (.inl a1), some (.inl (b2i a2)), some (.inr 43)]) (st' := [.inl (-3)]) (σ1 := q5.2) rfl ?_
        have h9 := Option.some.inj h
        subst h9
        exact go_iret dc_X10_size_34 rfl
  have hf := go_co (as := [.inr 0, .inl a1, .inl (b2i a2)]) mk_X10_size (fun _ _ => by decide +kernel) (by rfl) (Nat.le_of_ble_eq_true rfl) key
  exact hf
theorem dc_X10_missing_4 : decode m_X10_missing.2.2.1 4 = .ok (.invokevirtual 210, 3) := by decide +kernel
theorem dc_X10_missing_7 : decode m_X10_missing.2.2.1 7 = .ok (.invokestatic 112, 3) := by decide +kernel
theorem dc_X10_missing_14 : decode m_X10_missing.2.2.1 14 = .ok (.invokevirtual 256, 3) := by decide +kernel
theorem dc_X10_missing_17 : decode m_X10_missing.2.2.1 17 = .ok (.ifCond .eq 13, 3) := by decide +kernel
theorem dc_X10_missing_24 : decode m_X10_missing.2.2.1 24 = .ok (.invokevirtual 284, 3) := by decide +kernel
theorem dc_X10_missing_27 : decode m_X10_missing.2.2.1 27 = .ok (.goto 5, 3) := by decide +kernel
theorem dc_X10_missing_32 : decode m_X10_missing.2.2.1 32 = .ok (.ireturn, 1) := by decide +kernel
theorem ok_X10_missing_0_2 : oks m_X10_missing.1 m_X10_missing.2.2.1 0 [(.aload_n 0, 1, (0, 0, 0)), (.getfield 40, 3, (10, 4, 0))] = true ∧ plen 0 [(.aload_n 0, 1, (0, 0, 0)), (.getfield 40, 3, (10, 4, 0))] = 4 := by decide +kernel
theorem ok_X10_missing_10_2 : oks m_X10_missing.1 m_X10_missing.2.2.1 10 [(.aload_n 0, 1, (0, 0, 0)), (.getfield 79, 3, (10, 8, 0))] = true ∧ plen 10 [(.aload_n 0, 1, (0, 0, 0)), (.getfield 79, 3, (10, 8, 0))] = 14 := by decide +kernel
theorem ok_X10_missing_20_2 : oks m_X10_missing.1 m_X10_missing.2.2.1 20 [(.aload_n 0, 1, (0, 0, 0)), (.getfield 79, 3, (10, 8, 0))] = true ∧ plen 20 [(.aload_n 0, 1, (0, 0, 0)), (.getfield 79, 3, (10, 8, 0))] = 24 := by decide +kernel
theorem ok_X10_missing_30_1 : oks m_X10_missing.1 m_X10_missing.2.2.1 30 [(.bipush (-3), 2, (0, 0, 0))] = true ∧ plen 30 [(.bipush (-3), 2, (0, 0, 0))] = 32 := by decide +kernel
def F_X10_missing (σ : Sg) : Option ((Int ⊕ Nat) × Sg) :=
if (F_X4_isThere σ) = true then
(F_X7_grow 43 σ).bind fun q1 =>
if q1.1 = true then
some (.inl (F_X7_missedCount 43 q1.2), q1.2)
else
some (.inl (-3), q1.2)
else some (.inr 2, σ)
theorem lk_X10_missing (l : Launch) (hl : l.stackTraces = false) (d : Nat) (hd : 109 ≤ d) (σ : Sg) (q : ((Int ⊕ Nat) × Sg)) (h : F_X10_missing σ = some q) : outZ (ozI q.1) l d m_X10_missing.2.1 m_X10_missing.2.2.1 m_X10_missing.2.2.2.1 m_X10_missing.2.2.2.2 [.inr 0] (LAYC, σ) (LAYC, q.2) := by
  obtain ⟨d, rfl⟩ : ∃ e, d = e + 1 := ⟨d - 1, by omega⟩
  have key : Go l m_X10_missing (d + 1) LAYC (ozI q.1) q.2 0 [some (.inr 0)] [] σ := by
    unfold F_X10_missing at h
    refine go_ops ok_X10_missing_0_2 (L' := [some (.inr 0)]) (st' := [.inr 24]) (σ1 := σ) rfl ?_
    refine go_V (M1 := m_X4_isThere) (as := []) (st := []) (k := 24) (ci := 4) dc_X10_missing_4 ln_10_210 im_X4_isThere (by decide) rfl rfl mk_X4_isThere rfl (Nat.le_of_ble_eq_true rfl) (Nat.le_refl _) (v := (some (.inl (b2i (F_X4_isThere σ))))) (σ1 := σ) (lk_X4_isThere l d (by omega) σ _ rfl) _ rfl ?_
    rcases Decidable.em (¬ (F_X4_isThere σ) = true) with hc | hc
    · replace h := (if_neg hc).symm.trans h
      have h9 := Option.some.inj h
      subst h9
      exact go_SX (M1 := m_X10_demandState) (as := [.inl (b2i (F_X4_isThere σ))]) (st := []) dc_X10_missing_7 ln_10_112 sm_X10_demandState rfl mk_X10_demandState rfl (Nat.le_of_ble_eq_true rfl) (Nat.le_refl _) (lkX_X10_demandState l d hl (by omega) _ hc LAYC σ) _ rfl
    replace hc := Decidable.not_not.mp hc
    replace h := (if_pos hc).symm.trans h
    refine go_S (M1 := m_X10_demandState) (as := [.inl (b2i (F_X4_isThere σ))]) (st := []) dc_X10_missing_7 ln_10_112 sm_X10_demandState mk_X10_demandState rfl (Nat.le_of_ble_eq_true rfl) (Nat.le_refl _) (v := none) (σ1 := σ) (lk_X10_demandState l d _ hc _ σ) _ rfl ?_
    refine go_ops ok_X10_missing_10_2 (L' := [some (.inr 0)]) (st' := [.inr 43]) (σ1 := σ) rfl ?_
    obtain ⟨q1, e2, h⟩ := bind_inv h
    refine go_V (M1 := m_X7_grow) (as := []) (st := []) (k := 43) (ci := 7) dc_X10_missing_14 ln_10_256 im_X7_grow (by decide) rfl rfl mk_X7_grow rfl (Nat.le_of_ble_eq_true rfl) (Nat.le_refl _) (v := (some (.inl (b2i q1.1)))) (σ1 := q1.2) (lk_X7_grow_43 l d (by omega) σ q1 e2) _ rfl ?_
    refine go_ifb_eq dc_X10_missing_17 (by rfl) (fun hc => ?_) (fun hc => ?_)
    · replace h := (if_neg hc).symm.trans h
      refine go_ops ok_X10_missing_30_1 (L' := [some (.inr 0)]) (st' := [.inl (-3)]) (σ1 := q1.2) rfl ?_
      have h9 := Option.some.inj h
      subst h9
      exact go_iret dc_X10_missing_32 rfl
    · replace h := (if_pos hc).symm.trans h
      refine go_ops ok_X10_missing_20_2 (L' := [some (.inr 0)]) (st' := [.inr 43]) (σ1 := q1.2) rfl ?_
      refine go_V (M1 := m_X7_missedCount) (as := []) (st := []) (k := 43) (ci := 7) dc_X10_missing_24 ln_10_284 im_X7_missedCount (by decide) rfl rfl mk_X7_missedCount rfl (Nat.le_of_ble_eq_true rfl) (Nat.le_refl _) (v := (some (.inl (F_X7_missedCount 43 q1.2)))) (σ1 := q1.2) (lk_X7_missedCount_43 l d (by omega) q1.2 _ rfl) _ rfl ?_
      refine go_goto dc_X10_missing_27 (by rfl) ?_
      have h9 := Option.some.inj h
      subst h9
      exact go_iret dc_X10_missing_32 rfl
  have hf := go_co (as := [.inr 0]) mk_X10_missing (fun _ _ => by decide +kernel) (by rfl) (Nat.le_of_ble_eq_true rfl) key
  exact hf
theorem dc_X10_example_4 : decode m_X10_example.2.2.1 4 = .ok (.invokevirtual 210, 3) := by decide +kernel
theorem dc_X10_example_7 : decode m_X10_example.2.2.1 7 = .ok (.invokestatic 112, 3) := by decide +kernel
theorem dc_X10_example_14 : decode m_X10_example.2.2.1 14 = .ok (.invokevirtual 256, 3) := by decide +kernel
theorem dc_X10_example_17 : decode m_X10_example.2.2.1 17 = .ok (.invokestatic 112, 3) := by decide +kernel
theorem dc_X10_example_24 : decode m_X10_example.2.2.1 24 = .ok (.invokevirtual 284, 3) := by decide +kernel
theorem dc_X10_example_27 : decode m_X10_example.2.2.1 27 = .ok (.ifCond .le 7, 3) := by decide +kernel
theorem dc_X10_example_31 : decode m_X10_example.2.2.1 31 = .ok (.goto 4, 3) := by decide +kernel
theorem dc_X10_example_35 : decode m_X10_example.2.2.1 35 = .ok (.invokestatic 112, 3) := by decide +kernel
theorem dc_X10_example_43 : decode m_X10_example.2.2.1 43 = .ok (.invokevirtual 287, 3) := by decide +kernel
theorem dc_X10_example_46 : decode m_X10_example.2.2.1 46 = .ok (.ireturn, 1) := by decide +kernel
theorem ok_X10_example_0_2 : oks m_X10_example.1 m_X10_example.2.2.1 0 [(.aload_n 0, 1, (0, 0, 0)), (.getfield 40, 3, (10, 4, 0))] = true ∧ plen 0 [(.aload_n 0, 1, (0, 0, 0)), (.getfield 40, 3, (10, 4, 0))] = 4 := by decide +kernel
theorem ok_X10_example_10_2 : oks m_X10_example.1 m_X10_example.2.2.1 10 [(.aload_n 0, 1, (0, 0, 0)), (.getfield 79, 3, (10, 8, 0))] = true ∧ plen 10 [(.aload_n 0, 1, (0, 0, 0)), (.getfield 79, 3, (10, 8, 0))] = 14 := by decide +kernel
theorem ok_X10_example_20_2 : oks m_X10_example.1 m_X10_example.2.2.1 20 [(.aload_n 0, 1, (0, 0, 0)), (.getfield 79, 3, (10, 8, 0))] = true ∧ plen 20 [(.aload_n 0, 1, (0, 0, 0)), (.getfield 79, 3, (10, 8, 0))] = 24 := by decide +kernel
theorem ok_X10_example_30_1 : oks m_X10_example.1 m_X10_example.2.2.1 30 [(.iconst 1, 1, (0, 0, 0))] = true ∧ plen 30 [(.iconst 1, 1, (0, 0, 0))] = 31 := by decide +kernel
theorem ok_X10_example_34_1 : oks m_X10_example.1 m_X10_example.2.2.1 34 [(.iconst 0, 1, (0, 0, 0))] = true ∧ plen 34 [(.iconst 0, 1, (0, 0, 0))] = 35 := by decide +kernel
theorem ok_X10_example_38_3 : oks m_X10_example.1 m_X10_example.2.2.1 38 [(.aload_n 0, 1, (0, 0, 0)), (.getfield 79, 3, (10, 8, 0)), (.iload_n 1, 1, (0, 0, 0))] = true ∧ plen 38 [(.aload_n 0, 1, (0, 0, 0)), (.getfield 79, 3, (10, 8, 0)), (.iload_n 1, 1, (0, 0, 0))] = 43 := by decide +kernel
def B_X10_example_35 (x1 : Int) (y0 : Bool) (σ : Sg) : Option ((Int ⊕ Nat) × Sg) :=
if y0 = true then
(F_X7_exampleAt 43 x1 σ).bind fun q3 =>
some (.inl q3, σ)
else some (.inr 2, σ)
def F_X10_example (a1 : Int) (σ : Sg) : Option ((Int ⊕ Nat) × Sg) :=
if (F_X4_isThere σ) = true then
(F_X7_grow 43 σ).bind fun q1 =>
if q1.1 = true then
if (F_X7_missedCount 43 q1.2) ≤ 0 then
B_X10_example_35 a1 false q1.2
else
B_X10_example_35 a1 true q1.2
else some (.inr 2, q1.2)
else some (.inr 2, σ)
theorem lk_X10_example (l : Launch) (hl : l.stackTraces = false) (d : Nat) (hd : 109 ≤ d) (a1 : Int) (σ : Sg) (q : ((Int ⊕ Nat) × Sg)) (h : F_X10_example a1 σ = some q) : outZ (ozI q.1) l d m_X10_example.2.1 m_X10_example.2.2.1 m_X10_example.2.2.2.1 m_X10_example.2.2.2.2 [.inr 0, .inl a1] (LAYC, σ) (LAYC, q.2) := by
  obtain ⟨d, rfl⟩ : ∃ e, d = e + 1 := ⟨d - 1, by omega⟩
  have key : Go l m_X10_example (d + 1) LAYC (ozI q.1) q.2 0 [some (.inr 0), some (.inl a1)] [] σ := by
    unfold F_X10_example at h
    have hB_X10_example_35 : ∀ (x1 : Int) (y0 : Bool) (σ : Sg), B_X10_example_35 x1 y0 σ = some q → Go l m_X10_example (d + 1) LAYC (ozI q.1) q.2 35 [some (.inr 0), some (.inl x1)] [.inl (b2i y0)] σ := by
      intro x1 y0 σ h
      unfold B_X10_example_35 at h
      rcases Decidable.em (¬ y0 = true) with hc | hc
      · replace h := (if_neg hc).symm.trans h
        have h9 := Option.some.inj h
        subst h9
        exact go_SX (M1 := m_X10_demandState) (as := [.inl (b2i y0)]) (st := []) dc_X10_example_35 ln_10_112 sm_X10_demandState rfl mk_X10_demandState rfl (Nat.le_of_ble_eq_true rfl) (Nat.le_refl _) (lkX_X10_demandState l d hl (by omega) _ hc LAYC σ) _ rfl
      replace hc := Decidable.not_not.mp hc
      replace h := (if_pos hc).symm.trans h
      refine go_S (M1 := m_X10_demandState) (as := [.inl (b2i y0)]) (st := []) dc_X10_example_35 ln_10_112 sm_X10_demandState mk_X10_demandState rfl (Nat.le_of_ble_eq_true rfl) (Nat.le_refl _) (v := none) (σ1 := σ) (lk_X10_demandState l d _ hc _ σ) _ rfl ?_
      refine go_ops ok_X10_example_38_3 (L' := [some (.inr 0), some (.inl x1)]) (st' := [.inl x1, .inr 43]) (σ1 := σ) rfl ?_
      obtain ⟨q3, e4, h⟩ := bind_inv h
      refine go_V (M1 := m_X7_exampleAt) (as := [.inl x1]) (st := []) (k := 43) (ci := 7) dc_X10_example_43 ln_10_287 im_X7_exampleAt (by decide) rfl rfl mk_X7_exampleAt rfl (Nat.le_of_ble_eq_true rfl) (Nat.le_refl _) (v := (some (.inl q3))) (σ1 := σ) (lk_X7_exampleAt_43 l d (by omega) x1 σ q3 e4) _ rfl ?_
      have h9 := Option.some.inj h
      subst h9
      exact go_iret dc_X10_example_46 rfl
    refine go_ops ok_X10_example_0_2 (L' := [some (.inr 0), some (.inl a1)]) (st' := [.inr 24]) (σ1 := σ) rfl ?_
    refine go_V (M1 := m_X4_isThere) (as := []) (st := []) (k := 24) (ci := 4) dc_X10_example_4 ln_10_210 im_X4_isThere (by decide) rfl rfl mk_X4_isThere rfl (Nat.le_of_ble_eq_true rfl) (Nat.le_refl _) (v := (some (.inl (b2i (F_X4_isThere σ))))) (σ1 := σ) (lk_X4_isThere l d (by omega) σ _ rfl) _ rfl ?_
    rcases Decidable.em (¬ (F_X4_isThere σ) = true) with hc | hc
    · replace h := (if_neg hc).symm.trans h
      have h9 := Option.some.inj h
      subst h9
      exact go_SX (M1 := m_X10_demandState) (as := [.inl (b2i (F_X4_isThere σ))]) (st := []) dc_X10_example_7 ln_10_112 sm_X10_demandState rfl mk_X10_demandState rfl (Nat.le_of_ble_eq_true rfl) (Nat.le_refl _) (lkX_X10_demandState l d hl (by omega) _ hc LAYC σ) _ rfl
    replace hc := Decidable.not_not.mp hc
    replace h := (if_pos hc).symm.trans h
    refine go_S (M1 := m_X10_demandState) (as := [.inl (b2i (F_X4_isThere σ))]) (st := []) dc_X10_example_7 ln_10_112 sm_X10_demandState mk_X10_demandState rfl (Nat.le_of_ble_eq_true rfl) (Nat.le_refl _) (v := none) (σ1 := σ) (lk_X10_demandState l d _ hc _ σ) _ rfl ?_
    refine go_ops ok_X10_example_10_2 (L' := [some (.inr 0), some (.inl a1)]) (st' := [.inr 43]) (σ1 := σ) rfl ?_
    obtain ⟨q1, e2, h⟩ := bind_inv h
    refine go_V (M1 := m_X7_grow) (as := []) (st := []) (k := 43) (ci := 7) dc_X10_example_14 ln_10_256 im_X7_grow (by decide) rfl rfl mk_X7_grow rfl (Nat.le_of_ble_eq_true rfl) (Nat.le_refl _) (v := (some (.inl (b2i q1.1)))) (σ1 := q1.2) (lk_X7_grow_43 l d (by omega) σ q1 e2) _ rfl ?_
    rcases Decidable.em (¬ q1.1 = true) with hc | hc
    · replace h := (if_neg hc).symm.trans h
      have h9 := Option.some.inj h
      subst h9
      exact go_SX (M1 := m_X10_demandState) (as := [.inl (b2i q1.1)]) (st := []) dc_X10_example_17 ln_10_112 sm_X10_demandState rfl mk_X10_demandState rfl (Nat.le_of_ble_eq_true rfl) (Nat.le_refl _) (lkX_X10_demandState l d hl (by omega) _ hc LAYC q1.2) _ rfl
    replace hc := Decidable.not_not.mp hc
    replace h := (if_pos hc).symm.trans h
    refine go_S (M1 := m_X10_demandState) (as := [.inl (b2i q1.1)]) (st := []) dc_X10_example_17 ln_10_112 sm_X10_demandState mk_X10_demandState rfl (Nat.le_of_ble_eq_true rfl) (Nat.le_refl _) (v := none) (σ1 := q1.2) (lk_X10_demandState l d _ hc _ q1.2) _ rfl ?_
    refine go_ops ok_X10_example_20_2 (L' := [some (.inr 0), some (.inl a1)]) (st' := [.inr 43]) (σ1 := q1.2) rfl ?_
    refine go_V (M1 := m_X7_missedCount) (as := []) (st := []) (k := 43) (ci := 7) dc_X10_example_24 ln_10_284 im_X7_missedCount (by decide) rfl rfl mk_X7_missedCount rfl (Nat.le_of_ble_eq_true rfl) (Nat.le_refl _) (v := (some (.inl (F_X7_missedCount 43 q1.2)))) (σ1 := q1.2) (lk_X7_missedCount_43 l d (by omega) q1.2 _ rfl) _ rfl ?_
    refine go_if_le dc_X10_example_27 (by rfl) (fun hc => ?_) (fun hc => ?_)
    · replace h := (if_pos hc).symm.trans h
      refine go_ops ok_X10_example_34_1 (L' := [some (.inr 0), some (.inl a1)]) (st' := [.inl 0]) (σ1 := q1.2) rfl ?_
      exact hB_X10_example_35 a1 false q1.2 h
    · replace h := (if_neg hc).symm.trans h
      refine go_ops ok_X10_example_30_1 (L' := [some (.inr 0), some (.inl a1)]) (st' := [.inl 1]) (σ1 := q1.2) rfl ?_
      refine go_goto dc_X10_example_31 (by rfl) ?_
      exact hB_X10_example_35 a1 true q1.2 h
  have hf := go_co (as := [.inr 0, .inl a1]) mk_X10_example (fun _ _ => by decide +kernel) (by rfl) (Nat.le_of_ble_eq_true rfl) key
  exact hf
theorem dc_X10_isUsed_5 : decode m_X10_isUsed.2.2.1 5 = .ok (.invokevirtual 218, 3) := by decide +kernel
theorem dc_X10_isUsed_8 : decode m_X10_isUsed.2.2.1 8 = .ok (.invokestatic 90, 3) := by decide +kernel
theorem dc_X10_isUsed_15 : decode m_X10_isUsed.2.2.1 15 = .ok (.invokevirtual 256, 3) := by decide +kernel
theorem dc_X10_isUsed_18 : decode m_X10_isUsed.2.2.1 18 = .ok (.invokestatic 112, 3) := by decide +kernel
theorem dc_X10_isUsed_26 : decode m_X10_isUsed.2.2.1 26 = .ok (.invokevirtual 290, 3) := by decide +kernel
theorem dc_X10_isUsed_29 : decode m_X10_isUsed.2.2.1 29 = .ok (.ireturn, 1) := by decide +kernel
theorem ok_X10_isUsed_0_3 : oks m_X10_isUsed.1 m_X10_isUsed.2.2.1 0 [(.aload_n 0, 1, (0, 0, 0)), (.getfield 40, 3, (10, 4, 0)), (.iload_n 1, 1, (0, 0, 0))] = true ∧ plen 0 [(.aload_n 0, 1, (0, 0, 0)), (.getfield 40, 3, (10, 4, 0)), (.iload_n 1, 1, (0, 0, 0))] = 5 := by decide +kernel
theorem ok_X10_isUsed_11_2 : oks m_X10_isUsed.1 m_X10_isUsed.2.2.1 11 [(.aload_n 0, 1, (0, 0, 0)), (.getfield 79, 3, (10, 8, 0))] = true ∧ plen 11 [(.aload_n 0, 1, (0, 0, 0)), (.getfield 79, 3, (10, 8, 0))] = 15 := by decide +kernel
theorem ok_X10_isUsed_21_3 : oks m_X10_isUsed.1 m_X10_isUsed.2.2.1 21 [(.aload_n 0, 1, (0, 0, 0)), (.getfield 79, 3, (10, 8, 0)), (.iload_n 1, 1, (0, 0, 0))] = true ∧ plen 21 [(.aload_n 0, 1, (0, 0, 0)), (.getfield 79, 3, (10, 8, 0)), (.iload_n 1, 1, (0, 0, 0))] = 26 := by decide +kernel
def F_X10_isUsed (a1 : Int) (σ : Sg) : Option ((Bool ⊕ Nat) × Sg) :=
if (F_X4_has a1 σ) = true then
(F_X7_grow 43 σ).bind fun q1 =>
if q1.1 = true then
some (.inl (F_X7_hasLeafOf 43 a1 q1.2), q1.2)
else some (.inr 2, q1.2)
else some (.inr 0, σ)
theorem lk_X10_isUsed (l : Launch) (hl : l.stackTraces = false) (d : Nat) (hd : 109 ≤ d) (a1 : Int) (σ : Sg) (q : ((Bool ⊕ Nat) × Sg)) (h : F_X10_isUsed a1 σ = some q) : outZ (ozB q.1) l d m_X10_isUsed.2.1 m_X10_isUsed.2.2.1 m_X10_isUsed.2.2.2.1 m_X10_isUsed.2.2.2.2 [.inr 0, .inl a1] (LAYC, σ) (LAYC, q.2) := by
  obtain ⟨d, rfl⟩ : ∃ e, d = e + 1 := ⟨d - 1, by omega⟩
  have key : Go l m_X10_isUsed (d + 1) LAYC (ozB q.1) q.2 0 [some (.inr 0), some (.inl a1)] [] σ := by
    unfold F_X10_isUsed at h
    refine go_ops ok_X10_isUsed_0_3 (L' := [some (.inr 0), some (.inl a1)]) (st' := [.inl a1, .inr 24]) (σ1 := σ) rfl ?_
    refine go_V (M1 := m_X4_has) (as := [.inl a1]) (st := []) (k := 24) (ci := 4) dc_X10_isUsed_5 ln_10_218 im_X4_has (by decide) rfl rfl mk_X4_has rfl (Nat.le_of_ble_eq_true rfl) (Nat.le_refl _) (v := (some (.inl (b2i (F_X4_has a1 σ))))) (σ1 := σ) (lk_X4_has l d (by omega) a1 σ _ rfl) _ rfl ?_
    rcases Decidable.em (¬ (F_X4_has a1 σ) = true) with hc | hc
    · replace h := (if_neg hc).symm.trans h
      have h9 := Option.some.inj h
      subst h9
      exact go_SX (M1 := m_X10_demandIndex) (as := [.inl (b2i (F_X4_has a1 σ))]) (st := []) dc_X10_isUsed_8 ln_10_90 sm_X10_demandIndex rfl mk_X10_demandIndex rfl (Nat.le_of_ble_eq_true rfl) (Nat.le_refl _) (lkX_X10_demandIndex l d hl (by omega) _ hc LAYC σ) _ rfl
    replace hc := Decidable.not_not.mp hc
    replace h := (if_pos hc).symm.trans h
    refine go_S (M1 := m_X10_demandIndex) (as := [.inl (b2i (F_X4_has a1 σ))]) (st := []) dc_X10_isUsed_8 ln_10_90 sm_X10_demandIndex mk_X10_demandIndex rfl (Nat.le_of_ble_eq_true rfl) (Nat.le_refl _) (v := none) (σ1 := σ) (lk_X10_demandIndex l d _ hc _ σ) _ rfl ?_
    refine go_ops ok_X10_isUsed_11_2 (L' := [some (.inr 0), some (.inl a1)]) (st' := [.inr 43]) (σ1 := σ) rfl ?_
    obtain ⟨q1, e2, h⟩ := bind_inv h
    refine go_V (M1 := m_X7_grow) (as := []) (st := []) (k := 43) (ci := 7) dc_X10_isUsed_15 ln_10_256 im_X7_grow (by decide) rfl rfl mk_X7_grow rfl (Nat.le_of_ble_eq_true rfl) (Nat.le_refl _) (v := (some (.inl (b2i q1.1)))) (σ1 := q1.2) (lk_X7_grow_43 l d (by omega) σ q1 e2) _ rfl ?_
    rcases Decidable.em (¬ q1.1 = true) with hc | hc
    · replace h := (if_neg hc).symm.trans h
      have h9 := Option.some.inj h
      subst h9
      exact go_SX (M1 := m_X10_demandState) (as := [.inl (b2i q1.1)]) (st := []) dc_X10_isUsed_18 ln_10_112 sm_X10_demandState rfl mk_X10_demandState rfl (Nat.le_of_ble_eq_true rfl) (Nat.le_refl _) (lkX_X10_demandState l d hl (by omega) _ hc LAYC q1.2) _ rfl
    replace hc := Decidable.not_not.mp hc
    replace h := (if_pos hc).symm.trans h
    refine go_S (M1 := m_X10_demandState) (as := [.inl (b2i q1.1)]) (st := []) dc_X10_isUsed_18 ln_10_112 sm_X10_demandState mk_X10_demandState rfl (Nat.le_of_ble_eq_true rfl) (Nat.le_refl _) (v := none) (σ1 := q1.2) (lk_X10_demandState l d _ hc _ q1.2) _ rfl ?_
    refine go_ops ok_X10_isUsed_21_3 (L' := [some (.inr 0), some (.inl a1)]) (st' := [.inl a1, .inr 43]) (σ1 := q1.2) rfl ?_
    refine go_V (M1 := m_X7_hasLeafOf) (as := [.inl a1]) (st := []) (k := 43) (ci := 7) dc_X10_isUsed_26 ln_10_290 im_X7_hasLeafOf (by decide) rfl rfl mk_X7_hasLeafOf rfl (Nat.le_of_ble_eq_true rfl) (Nat.le_refl _) (v := (some (.inl (b2i (F_X7_hasLeafOf 43 a1 q1.2))))) (σ1 := q1.2) (lk_X7_hasLeafOf_43 l d (by omega) a1 q1.2 _ rfl) _ rfl ?_
    have h9 := Option.some.inj h
    subst h9
    exact go_zret (x := (F_X7_hasLeafOf 43 a1 q1.2)) dc_X10_isUsed_29 rfl
  have hf := go_co (as := [.inr 0, .inl a1]) mk_X10_isUsed (fun _ _ => by decide +kernel) (by rfl) (Nat.le_of_ble_eq_true rfl) key
  exact hf
