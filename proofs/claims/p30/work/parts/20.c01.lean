/-! read off: X1_start .. X4_start -/
theorem dc_X1_start_1 : decode m_X1_start.2.2.1 1 = .ok (.invokevirtual 52, 3) := by decide +kernel
theorem dc_X1_start_9 : decode m_X1_start.2.2.1 9 = .ok (.invokestatic 43, 3) := by decide +kernel
theorem dc_X1_start_18 : decode m_X1_start.2.2.1 18 = .ok (.invokestatic 55, 3) := by decide +kernel
theorem dc_X1_start_27 : decode m_X1_start.2.2.1 27 = .ok (.invokestatic 55, 3) := by decide +kernel
theorem dc_X1_start_36 : decode m_X1_start.2.2.1 36 = .ok (.invokestatic 55, 3) := by decide +kernel
theorem dc_X1_start_39 : decode m_X1_start.2.2.1 39 = .ok (.return_, 1) := by decide +kernel
theorem ok_X1_start_0_1 : oks m_X1_start.1 m_X1_start.2.2.1 0 [(.aload_n 0, 1, (0, 0, 0))] = true ∧ plen 0 [(.aload_n 0, 1, (0, 0, 0))] = 1 := by decide +kernel
theorem ok_X1_start_4_3 : oks m_X1_start.1 m_X1_start.2.2.1 4 [(.aload_n 0, 1, (0, 0, 0)), (.getfield 22, 3, (1, 6, 0)), (.iconst 0, 1, (0, 0, 0))] = true ∧ plen 4 [(.aload_n 0, 1, (0, 0, 0)), (.getfield 22, 3, (1, 6, 0)), (.iconst 0, 1, (0, 0, 0))] = 9 := by decide +kernel
theorem ok_X1_start_12_4 : oks m_X1_start.1 m_X1_start.2.2.1 12 [(.aload_n 0, 1, (0, 0, 0)), (.getfield 18, 3, (1, 5, 0)), (.iconst 1, 1, (0, 0, 0)), (.iload_n 1, 1, (0, 0, 0))] = true ∧ plen 12 [(.aload_n 0, 1, (0, 0, 0)), (.getfield 18, 3, (1, 5, 0)), (.iconst 1, 1, (0, 0, 0)), (.iload_n 1, 1, (0, 0, 0))] = 18 := by decide +kernel
theorem ok_X1_start_21_4 : oks m_X1_start.1 m_X1_start.2.2.1 21 [(.aload_n 0, 1, (0, 0, 0)), (.getfield 18, 3, (1, 5, 0)), (.iconst 2, 1, (0, 0, 0)), (.iload_n 2, 1, (0, 0, 0))] = true ∧ plen 21 [(.aload_n 0, 1, (0, 0, 0)), (.getfield 18, 3, (1, 5, 0)), (.iconst 2, 1, (0, 0, 0)), (.iload_n 2, 1, (0, 0, 0))] = 27 := by decide +kernel
theorem ok_X1_start_30_4 : oks m_X1_start.1 m_X1_start.2.2.1 30 [(.aload_n 0, 1, (0, 0, 0)), (.getfield 18, 3, (1, 5, 0)), (.iconst 3, 1, (0, 0, 0)), (.iload_n 3, 1, (0, 0, 0))] = true ∧ plen 30 [(.aload_n 0, 1, (0, 0, 0)), (.getfield 18, 3, (1, 5, 0)), (.iconst 3, 1, (0, 0, 0)), (.iload_n 3, 1, (0, 0, 0))] = 36 := by decide +kernel
def F_X1_start (a1 : Int) (a2 : Int) (a3 : Int) (σ : Sg) : Sg :=
bnd (F_X1_clear σ) fun q1 =>
bnd (fillF q1 29 469 0) fun s3 =>
bnd (wrD s3 28 469 1 a1) fun s5 =>
bnd (wrD s5 28 469 2 a2) fun s7 =>
bnd (wrD s7 28 469 3 a3) fun s9 =>
s9
theorem lk_X1_start (l : Launch) (d : Nat) (hd : 3 ≤ d) (a1 : Int) (a2 : Int) (a3 : Int) (σ : Sg) (q : Sg) (h : F_X1_start a1 a2 a3 σ = q) : CT l d m_X1_start.2.1 m_X1_start.2.2.1 m_X1_start.2.2.2.1 m_X1_start.2.2.2.2 [.inr 27, .inl a1, .inl a2, .inl a3] (LAYC, σ) none (LAYC, q) := by
  obtain ⟨d, rfl⟩ : ∃ e, d = e + 1 := ⟨d - 1, by omega⟩
  have key : Go l m_X1_start (d + 1) LAYC (.inl none) q 0 [some (.inr 27), some (.inl a1), some (.inl a2), some (.inl a3)] [] σ := by
    unfold F_X1_start at h
    refine go_ops ok_X1_start_0_1 (L' := [some (.inr 27), some (.inl a1), some (.inl a2), some (.inl a3)]) (st' := [.inr 27]) (σ1 := σ) rfl ?_
    obtain ⟨q1, e2, h⟩ := bnd_inv h
    refine go_V (M1 := m_X1_clear) (as := []) (st := []) (k := 27) (ci := 1) dc_X1_start_1 ln_1_52 im_X1_clear (by decide) rfl rfl mk_X1_clear rfl (Nat.le_of_ble_eq_true rfl) (Nat.le_refl _) (v := none) (σ1 := q1) (lk_X1_clear l d (by omega) σ q1 e2.symm) _ rfl ?_
    refine go_ops ok_X1_start_4_3 (L' := [some (.inr 27), some (.inl a1), some (.inl a2), some (.inl a3)]) (st' := [.inl 0, .inr 29]) (σ1 := q1) rfl ?_
    obtain ⟨s3, e4, h⟩ := bnd_inv h
    refine go_S (M1 := m_J7_fill_53178) (as := [.inr 29, .inl 0]) (st := []) dc_X1_start_9 ln_1_43 sm_J7_fill_53178 mk_J7_fill_53178 rfl (Nat.le_of_ble_eq_true rfl) (Nat.le_refl _) (v := none) (σ1 := s3) (lk_J7_fill_53178 l d LAYC 29 469 rfl _ s3 e4) _ rfl ?_
    refine go_ops ok_X1_start_12_4 (L' := [some (.inr 27), some (.inl a1), some (.inl a2), some (.inl a3)]) (st' := [.inl a1, .inl 1, .inr 28]) (σ1 := s3) rfl ?_
    obtain ⟨s5, e6, h⟩ := bnd_inv h
    refine go_SN (M1 := m_X10_put) (as := [.inr 28, .inl 1, .inl a1]) (st := []) dc_X1_start_18 ln_1_55 sm_X10_put mk_X10_put rfl (Nat.le_of_ble_eq_true rfl) (Nat.le_refl _) (v := none) (σ1 := s5) (lk_X10_put l d LAYC 28 469 rfl _ _ s5 e6) _ rfl ?_
    refine go_ops ok_X1_start_21_4 (L' := [some (.inr 27), some (.inl a1), some (.inl a2), some (.inl a3)]) (st' := [.inl a2, .inl 2, .inr 28]) (σ1 := s5) rfl ?_
    obtain ⟨s7, e8, h⟩ := bnd_inv h
    refine go_SN (M1 := m_X10_put) (as := [.inr 28, .inl 2, .inl a2]) (st := []) dc_X1_start_27 ln_1_55 sm_X10_put mk_X10_put rfl (Nat.le_of_ble_eq_true rfl) (Nat.le_refl _) (v := none) (σ1 := s7) (lk_X10_put l d LAYC 28 469 rfl _ _ s7 e8) _ rfl ?_
    refine go_ops ok_X1_start_30_4 (L' := [some (.inr 27), some (.inl a1), some (.inl a2), some (.inl a3)]) (st' := [.inl a3, .inl 3, .inr 28]) (σ1 := s7) rfl ?_
    obtain ⟨s9, e10, h⟩ := bnd_inv h
    refine go_SN (M1 := m_X10_put) (as := [.inr 28, .inl 3, .inl a3]) (st := []) dc_X1_start_36 ln_1_55 sm_X10_put mk_X10_put rfl (Nat.le_of_ble_eq_true rfl) (Nat.le_refl _) (v := none) (σ1 := s9) (lk_X10_put l d LAYC 28 469 rfl _ _ s9 e10) _ rfl ?_
    subst h
    exact go_vret dc_X1_start_39 rfl
  have hf := go_ct (as := [.inr 27, .inl a1, .inl a2, .inl a3]) mk_X1_start (by rfl) (Nat.le_of_ble_eq_true rfl) key
  exact hf
theorem dc_X1_testCount_4 : decode m_X1_testCount.2.2.1 4 = .ok (.ireturn, 1) := by decide +kernel
theorem ok_X1_testCount_0_2 : oks m_X1_testCount.1 m_X1_testCount.2.2.1 0 [(.aload_n 0, 1, (0, 0, 0)), (.getfield 9, 3, (1, 3, 0))] = true ∧ plen 0 [(.aload_n 0, 1, (0, 0, 0)), (.getfield 9, 3, (1, 3, 0))] = 4 := by decide +kernel
def F_X1_testCount (σ : Sg) : Int :=
σ 27 3
theorem lk_X1_testCount (l : Launch) (d : Nat) (hd : 0 ≤ d) (σ : Sg) (q : Int) (h : F_X1_testCount σ = q) : CT l d m_X1_testCount.2.1 m_X1_testCount.2.2.1 m_X1_testCount.2.2.2.1 m_X1_testCount.2.2.2.2 [.inr 27] (LAYC, σ) (some (.inl q)) (LAYC, σ) := by
  skip
  have key : Go l m_X1_testCount d LAYC (.inl (some (.inl q))) σ 0 [some (.inr 27)] [] σ := by
    unfold F_X1_testCount at h
    refine go_ops ok_X1_testCount_0_2 (L' := [some (.inr 27)]) (st' := [.inl (σ 27 3)]) (σ1 := σ) rfl ?_
    subst h
    exact go_iret dc_X1_testCount_4 rfl
  have hf := go_ct (as := [.inr 27]) mk_X1_testCount (by rfl) (Nat.le_of_ble_eq_true rfl) key
  exact hf
theorem dc_X1_viewCount_4 : decode m_X1_viewCount.2.2.1 4 = .ok (.ireturn, 1) := by decide +kernel
theorem ok_X1_viewCount_0_2 : oks m_X1_viewCount.1 m_X1_viewCount.2.2.1 0 [(.aload_n 0, 1, (0, 0, 0)), (.getfield 15, 3, (1, 4, 0))] = true ∧ plen 0 [(.aload_n 0, 1, (0, 0, 0)), (.getfield 15, 3, (1, 4, 0))] = 4 := by decide +kernel
def F_X1_viewCount (σ : Sg) : Int :=
σ 27 4
theorem lk_X1_viewCount (l : Launch) (d : Nat) (hd : 0 ≤ d) (σ : Sg) (q : Int) (h : F_X1_viewCount σ = q) : CT l d m_X1_viewCount.2.1 m_X1_viewCount.2.2.1 m_X1_viewCount.2.2.2.1 m_X1_viewCount.2.2.2.2 [.inr 27] (LAYC, σ) (some (.inl q)) (LAYC, σ) := by
  skip
  have key : Go l m_X1_viewCount d LAYC (.inl (some (.inl q))) σ 0 [some (.inr 27)] [] σ := by
    unfold F_X1_viewCount at h
    refine go_ops ok_X1_viewCount_0_2 (L' := [some (.inr 27)]) (st' := [.inl (σ 27 4)]) (σ1 := σ) rfl ?_
    subst h
    exact go_iret dc_X1_viewCount_4 rfl
  have hf := go_ct (as := [.inr 27]) mk_X1_viewCount (by rfl) (Nat.le_of_ble_eq_true rfl) key
  exact hf
theorem dc_X1_ranAt_5 : decode m_X1_ranAt.2.2.1 5 = .ok (.invokestatic 59, 3) := by decide +kernel
theorem dc_X1_ranAt_8 : decode m_X1_ranAt.2.2.1 8 = .ok (.ireturn, 1) := by decide +kernel
theorem ok_X1_ranAt_0_3 : oks m_X1_ranAt.1 m_X1_ranAt.2.2.1 0 [(.aload_n 0, 1, (0, 0, 0)), (.getfield 25, 3, (1, 7, 0)), (.iload_n 1, 1, (0, 0, 0))] = true ∧ plen 0 [(.aload_n 0, 1, (0, 0, 0)), (.getfield 25, 3, (1, 7, 0)), (.iload_n 1, 1, (0, 0, 0))] = 5 := by decide +kernel
def F_X1_ranAt (a1 : Int) (σ : Sg) : Int :=
rdD (-1) σ 30 360 a1
theorem lk_X1_ranAt (l : Launch) (d : Nat) (hd : 1 ≤ d) (a1 : Int) (σ : Sg) (q : Int) (h : F_X1_ranAt a1 σ = q) : CT l d m_X1_ranAt.2.1 m_X1_ranAt.2.2.1 m_X1_ranAt.2.2.2.1 m_X1_ranAt.2.2.2.2 [.inr 27, .inl a1] (LAYC, σ) (some (.inl q)) (LAYC, σ) := by
  obtain ⟨d, rfl⟩ : ∃ e, d = e + 1 := ⟨d - 1, by omega⟩
  have key : Go l m_X1_ranAt (d + 1) LAYC (.inl (some (.inl q))) σ 0 [some (.inr 27), some (.inl a1)] [] σ := by
    unfold F_X1_ranAt at h
    refine go_ops ok_X1_ranAt_0_3 (L' := [some (.inr 27), some (.inl a1)]) (st' := [.inl a1, .inr 30]) (σ1 := σ) rfl ?_
    refine go_SN (M1 := m_X10_at) (as := [.inr 30, .inl a1]) (st := []) dc_X1_ranAt_5 ln_1_59 sm_X10_at mk_X10_at rfl (Nat.le_of_ble_eq_true rfl) (Nat.le_refl _) (v := some (.inl (rdD (-1) σ 30 360 a1))) (σ1 := σ) (lk_X10_at l d LAYC 30 360 rfl σ _) _ rfl ?_
    subst h
    exact go_iret dc_X1_ranAt_8 rfl
  have hf := go_ct (as := [.inr 27, .inl a1]) mk_X1_ranAt (by rfl) (Nat.le_of_ble_eq_true rfl) key
  exact hf
theorem dc_X2_isType_3 : decode m_X2_isType.2.2.1 3 = .ok (.invokestatic 21, 3) := by decide +kernel
theorem dc_X2_isType_6 : decode m_X2_isType.2.2.1 6 = .ok (.ireturn, 1) := by decide +kernel
theorem ok_X2_isType_0_3 : oks m_X2_isType.1 m_X2_isType.2.2.1 0 [(.iload_n 0, 1, (0, 0, 0)), (.iconst 0, 1, (0, 0, 0)), (.iconst 3, 1, (0, 0, 0))] = true ∧ plen 0 [(.iload_n 0, 1, (0, 0, 0)), (.iconst 0, 1, (0, 0, 0)), (.iconst 3, 1, (0, 0, 0))] = 3 := by decide +kernel
def F_X2_isType (a0 : Int) : Bool :=
F_X10_isIn a0 0 3
theorem lk_X2_isType (l : Launch) (d : Nat) (hd : 1 ≤ d) (a0 : Int) (σ : Sg) (q : Bool) (h : F_X2_isType a0 = q) : CT l d m_X2_isType.2.1 m_X2_isType.2.2.1 m_X2_isType.2.2.2.1 m_X2_isType.2.2.2.2 [.inl a0] (LAYC, σ) (some (.inl (b2i q))) (LAYC, σ) := by
  obtain ⟨d, rfl⟩ : ∃ e, d = e + 1 := ⟨d - 1, by omega⟩
  have key : Go l m_X2_isType (d + 1) LAYC (.inl (some (.inl (b2i q)))) σ 0 [some (.inl a0)] [] σ := by
    unfold F_X2_isType at h
    refine go_ops ok_X2_isType_0_3 (L' := [some (.inl a0)]) (st' := [.inl 3, .inl 0, .inl a0]) (σ1 := σ) rfl ?_
    refine go_SN (M1 := m_X10_isIn) (as := [.inl a0, .inl 0, .inl 3]) (st := []) dc_X2_isType_3 ln_2_21 sm_X10_isIn mk_X10_isIn rfl (Nat.le_of_ble_eq_true rfl) (Nat.le_refl _) (v := (some (.inl (b2i (F_X10_isIn a0 0 3))))) (σ1 := σ) (lk_X10_isIn l d (by omega) a0 0 3 σ _ rfl) _ rfl ?_
    subst h
    exact go_zret (x := (F_X10_isIn a0 0 3)) dc_X2_isType_6 rfl
  have hf := go_ct (as := [.inl a0]) mk_X2_isType (by rfl) (Nat.le_of_ble_eq_true rfl) key
  exact hf
theorem dc_X2_isKind_1 : decode m_X2_isKind.2.2.1 1 = .ok (.invokestatic 25, 3) := by decide +kernel
theorem dc_X2_isKind_4 : decode m_X2_isKind.2.2.1 4 = .ok (.ifCond .ne 13, 3) := by decide +kernel
theorem dc_X2_isKind_9 : decode m_X2_isKind.2.2.1 9 = .ok (.if_icmp .eq 8, 3) := by decide +kernel
theorem dc_X2_isKind_14 : decode m_X2_isKind.2.2.1 14 = .ok (.if_icmp .ne 7, 3) := by decide +kernel
theorem dc_X2_isKind_18 : decode m_X2_isKind.2.2.1 18 = .ok (.goto 4, 3) := by decide +kernel
theorem dc_X2_isKind_22 : decode m_X2_isKind.2.2.1 22 = .ok (.ireturn, 1) := by decide +kernel
theorem ok_X2_isKind_0_1 : oks m_X2_isKind.1 m_X2_isKind.2.2.1 0 [(.iload_n 0, 1, (0, 0, 0))] = true ∧ plen 0 [(.iload_n 0, 1, (0, 0, 0))] = 1 := by decide +kernel
theorem ok_X2_isKind_7_2 : oks m_X2_isKind.1 m_X2_isKind.2.2.1 7 [(.iload_n 0, 1, (0, 0, 0)), (.iconst 4, 1, (0, 0, 0))] = true ∧ plen 7 [(.iload_n 0, 1, (0, 0, 0)), (.iconst 4, 1, (0, 0, 0))] = 9 := by decide +kernel
theorem ok_X2_isKind_12_2 : oks m_X2_isKind.1 m_X2_isKind.2.2.1 12 [(.iload_n 0, 1, (0, 0, 0)), (.iconst 5, 1, (0, 0, 0))] = true ∧ plen 12 [(.iload_n 0, 1, (0, 0, 0)), (.iconst 5, 1, (0, 0, 0))] = 14 := by decide +kernel
theorem ok_X2_isKind_17_1 : oks m_X2_isKind.1 m_X2_isKind.2.2.1 17 [(.iconst 1, 1, (0, 0, 0))] = true ∧ plen 17 [(.iconst 1, 1, (0, 0, 0))] = 18 := by decide +kernel
theorem ok_X2_isKind_21_1 : oks m_X2_isKind.1 m_X2_isKind.2.2.1 21 [(.iconst 0, 1, (0, 0, 0))] = true ∧ plen 21 [(.iconst 0, 1, (0, 0, 0))] = 22 := by decide +kernel
def B_X2_isKind_17  : Bool :=
true
def F_X2_isKind (a0 : Int) : Bool :=
if (F_X2_isType a0) = true then
B_X2_isKind_17
else
if a0 = 4 then
B_X2_isKind_17
else
if a0 = 5 then
B_X2_isKind_17
else
false
theorem lk_X2_isKind (l : Launch) (d : Nat) (hd : 2 ≤ d) (a0 : Int) (σ : Sg) (q : Bool) (h : F_X2_isKind a0 = q) : CT l d m_X2_isKind.2.1 m_X2_isKind.2.2.1 m_X2_isKind.2.2.2.1 m_X2_isKind.2.2.2.2 [.inl a0] (LAYC, σ) (some (.inl (b2i q))) (LAYC, σ) := by
  obtain ⟨d, rfl⟩ : ∃ e, d = e + 1 := ⟨d - 1, by omega⟩
  have key : Go l m_X2_isKind (d + 1) LAYC (.inl (some (.inl (b2i q)))) σ 0 [some (.inl a0)] [] σ := by
    unfold F_X2_isKind at h
    have hB_X2_isKind_17 : ∀ (σ : Sg), B_X2_isKind_17 = q → Go l m_X2_isKind (d + 1) LAYC (.inl (some (.inl (b2i q)))) σ 17 [none] [] σ := by
      intro σ h
      unfold B_X2_isKind_17 at h
      refine go_ops ok_X2_isKind_17_1 (L' := [none]) (st' := [.inl 1]) (σ1 := σ) rfl ?_
      refine go_goto dc_X2_isKind_18 (by rfl) ?_
      subst h
      exact go_zret (x := true) dc_X2_isKind_22 rfl
    refine go_ops ok_X2_isKind_0_1 (L' := [some (.inl a0)]) (st' := [.inl a0]) (σ1 := σ) rfl ?_
    refine go_S (M1 := m_X2_isType) (as := [.inl a0]) (st := []) dc_X2_isKind_1 ln_2_25 sm_X2_isType mk_X2_isType rfl (Nat.le_of_ble_eq_true rfl) (Nat.le_refl _) (v := (some (.inl (b2i (F_X2_isType a0))))) (σ1 := σ) (lk_X2_isType l d (by omega) a0 σ _ rfl) _ rfl ?_
    refine go_ifb_ne dc_X2_isKind_4 (by rfl) (fun hc => ?_) (fun hc => ?_)
    · replace h := (if_pos hc).symm.trans h
      refine go_wk (L' := [none]) trivial ?_
      exact hB_X2_isKind_17 σ h
    · replace h := (if_neg hc).symm.trans h
      refine go_ops ok_X2_isKind_7_2 (L' := [some (.inl a0)]) (st' := [.inl 4, .inl a0]) (σ1 := σ) rfl ?_
      refine go_icmp_eq dc_X2_isKind_9 (by rfl) (fun hc => ?_) (fun hc => ?_)
      · replace h := (if_pos hc).symm.trans h
        refine go_wk (L' := [none]) trivial ?_
        exact hB_X2_isKind_17 σ h
      · replace h := (if_neg hc).symm.trans h
        refine go_ops ok_X2_isKind_12_2 (L' := [some (.inl a0)]) (st' := [.inl 5, .inl a0]) (σ1 := σ) rfl ?_
        refine go_icmp_ne dc_X2_isKind_14 (by rfl) (fun hc => ?_) (fun hc => ?_)
        · replace h := (if_neg hc).symm.trans h
          refine go_ops ok_X2_isKind_21_1 (L' := [some (.inl a0)]) (st' := [.inl 0]) (σ1 := σ) rfl ?_
          subst h
          exact go_zret (x := false) dc_X2_isKind_22 rfl
        · replace h := (if_pos hc).symm.trans h
          refine go_wk (L' := [none]) trivial ?_
          exact hB_X2_isKind_17 σ h
  have hf := go_ct (as := [.inl a0]) mk_X2_isKind (by rfl) (Nat.le_of_ble_eq_true rfl) key
  exact hf
theorem dc_X2_countOf_5 : decode m_X2_countOf.2.2.1 5 = .ok (.invokestatic 29, 3) := by decide +kernel
theorem dc_X2_countOf_8 : decode m_X2_countOf.2.2.1 8 = .ok (.ireturn, 1) := by decide +kernel
theorem ok_X2_countOf_0_3 : oks m_X2_countOf.1 m_X2_countOf.2.2.1 0 [(.aload_n 0, 1, (0, 0, 0)), (.getfield 9, 3, (2, 0, 0)), (.iload_n 1, 1, (0, 0, 0))] = true ∧ plen 0 [(.aload_n 0, 1, (0, 0, 0)), (.getfield 9, 3, (2, 0, 0)), (.iload_n 1, 1, (0, 0, 0))] = 5 := by decide +kernel
def F_X2_countOf (a1 : Int) (σ : Sg) : Int :=
rdD 0 σ 2 4 a1
theorem lk_X2_countOf (l : Launch) (d : Nat) (hd : 1 ≤ d) (a1 : Int) (σ : Sg) (q : Int) (h : F_X2_countOf a1 σ = q) : CT l d m_X2_countOf.2.1 m_X2_countOf.2.2.1 m_X2_countOf.2.2.2.1 m_X2_countOf.2.2.2.2 [.inr 1, .inl a1] (LAYC, σ) (some (.inl q)) (LAYC, σ) := by
  obtain ⟨d, rfl⟩ : ∃ e, d = e + 1 := ⟨d - 1, by omega⟩
  have key : Go l m_X2_countOf (d + 1) LAYC (.inl (some (.inl q))) σ 0 [some (.inr 1), some (.inl a1)] [] σ := by
    unfold F_X2_countOf at h
    refine go_ops ok_X2_countOf_0_3 (L' := [some (.inr 1), some (.inl a1)]) (st' := [.inl a1, .inr 2]) (σ1 := σ) rfl ?_
    refine go_SN (M1 := m_X10_atOrZero) (as := [.inr 2, .inl a1]) (st := []) dc_X2_countOf_5 ln_2_29 sm_X10_atOrZero mk_X10_atOrZero rfl (Nat.le_of_ble_eq_true rfl) (Nat.le_refl _) (v := some (.inl (rdD 0 σ 2 4 a1))) (σ1 := σ) (lk_X10_atOrZero l d LAYC 2 4 rfl σ _) _ rfl ?_
    subst h
    exact go_iret dc_X2_countOf_8 rfl
  have hf := go_ct (as := [.inr 1, .inl a1]) mk_X2_countOf (by rfl) (Nat.le_of_ble_eq_true rfl) key
  exact hf
theorem dc_X2_has_4 : decode m_X2_has.2.2.1 4 = .ok (.invokevirtual 33, 3) := by decide +kernel
theorem dc_X2_has_9 : decode m_X2_has.2.2.1 9 = .ok (.invokestatic 21, 3) := by decide +kernel
theorem dc_X2_has_12 : decode m_X2_has.2.2.1 12 = .ok (.ireturn, 1) := by decide +kernel
theorem ok_X2_has_0_4 : oks m_X2_has.1 m_X2_has.2.2.1 0 [(.iload_n 2, 1, (0, 0, 0)), (.iconst 0, 1, (0, 0, 0)), (.aload_n 0, 1, (0, 0, 0)), (.iload_n 1, 1, (0, 0, 0))] = true ∧ plen 0 [(.iload_n 2, 1, (0, 0, 0)), (.iconst 0, 1, (0, 0, 0)), (.aload_n 0, 1, (0, 0, 0)), (.iload_n 1, 1, (0, 0, 0))] = 4 := by decide +kernel
theorem ok_X2_has_7_2 : oks m_X2_has.1 m_X2_has.2.2.1 7 [(.iconst 1, 1, (0, 0, 0)), (.isub, 1, (0, 0, 0))] = true ∧ plen 7 [(.iconst 1, 1, (0, 0, 0)), (.isub, 1, (0, 0, 0))] = 9 := by decide +kernel
def F_X2_has (a1 : Int) (a2 : Int) (σ : Sg) : Bool :=
F_X10_isIn a2 0 (wrap ((F_X2_countOf a1 σ) - 1))
theorem lk_X2_has (l : Launch) (d : Nat) (hd : 2 ≤ d) (a1 : Int) (a2 : Int) (σ : Sg) (q : Bool) (h : F_X2_has a1 a2 σ = q) : CT l d m_X2_has.2.1 m_X2_has.2.2.1 m_X2_has.2.2.2.1 m_X2_has.2.2.2.2 [.inr 1, .inl a1, .inl a2] (LAYC, σ) (some (.inl (b2i q))) (LAYC, σ) := by
  obtain ⟨d, rfl⟩ : ∃ e, d = e + 1 := ⟨d - 1, by omega⟩
  have key : Go l m_X2_has (d + 1) LAYC (.inl (some (.inl (b2i q)))) σ 0 [some (.inr 1), some (.inl a1), some (.inl a2)] [] σ := by
    unfold F_X2_has at h
    refine go_ops ok_X2_has_0_4 (L' := [some (.inr 1), some (.inl a1), some (.inl a2)]) (st' := [.inl a1, .inr 1, .inl 0, .inl a2]) (σ1 := σ) rfl ?_
    refine go_V (M1 := m_X2_countOf) (as := [.inl a1]) (st := [.inl 0, .inl a2]) (k := 1) (ci := 2) dc_X2_has_4 ln_2_33 im_X2_countOf (by decide) rfl rfl mk_X2_countOf rfl (Nat.le_of_ble_eq_true rfl) (Nat.le_refl _) (v := (some (.inl (F_X2_countOf a1 σ)))) (σ1 := σ) (lk_X2_countOf l d (by omega) a1 σ _ rfl) _ rfl ?_
    refine go_ops ok_X2_has_7_2 (L' := [some (.inr 1), some (.inl a1), some (.inl a2)]) (st' := [.inl (wrap ((F_X2_countOf a1 σ) - 1)), .inl 0, .inl a2]) (σ1 := σ) rfl ?_
    refine go_SN (M1 := m_X10_isIn) (as := [.inl a2, .inl 0, .inl (wrap ((F_X2_countOf a1 σ) - 1))]) (st := []) dc_X2_has_9 ln_2_21 sm_X10_isIn mk_X10_isIn rfl (Nat.le_of_ble_eq_true rfl) (Nat.le_refl _) (v := (some (.inl (b2i (F_X10_isIn a2 0 (wrap ((F_X2_countOf a1 σ) - 1))))))) (σ1 := σ) (lk_X10_isIn l d (by omega) a2 0 (wrap ((F_X2_countOf a1 σ) - 1)) σ _ rfl) _ rfl ?_
    subst h
    exact go_zret (x := (F_X10_isIn a2 0 (wrap ((F_X2_countOf a1 σ) - 1)))) dc_X2_has_12 rfl
  have hf := go_ct (as := [.inr 1, .inl a1, .inl a2]) mk_X2_has (by rfl) (Nat.le_of_ble_eq_true rfl) key
  exact hf
theorem dc_X2_fieldsOf_3 : decode m_X2_fieldsOf.2.2.1 3 = .ok (.invokevirtual 37, 3) := by decide +kernel
theorem dc_X2_fieldsOf_6 : decode m_X2_fieldsOf.2.2.1 6 = .ok (.ifCond .eq 18, 3) := by decide +kernel
theorem dc_X2_fieldsOf_18 : decode m_X2_fieldsOf.2.2.1 18 = .ok (.invokestatic 41, 3) := by decide +kernel
theorem dc_X2_fieldsOf_21 : decode m_X2_fieldsOf.2.2.1 21 = .ok (.goto 4, 3) := by decide +kernel
theorem dc_X2_fieldsOf_25 : decode m_X2_fieldsOf.2.2.1 25 = .ok (.ireturn, 1) := by decide +kernel
theorem ok_X2_fieldsOf_0_3 : oks m_X2_fieldsOf.1 m_X2_fieldsOf.2.2.1 0 [(.aload_n 0, 1, (0, 0, 0)), (.iload_n 1, 1, (0, 0, 0)), (.iload_n 2, 1, (0, 0, 0))] = true ∧ plen 0 [(.aload_n 0, 1, (0, 0, 0)), (.iload_n 1, 1, (0, 0, 0)), (.iload_n 2, 1, (0, 0, 0))] = 3 := by decide +kernel
theorem ok_X2_fieldsOf_9_7 : oks m_X2_fieldsOf.1 m_X2_fieldsOf.2.2.1 9 [(.aload_n 0, 1, (0, 0, 0)), (.getfield 15, 3, (2, 1, 0)), (.iload_n 1, 1, (0, 0, 0)), (.iconst 4, 1, (0, 0, 0)), (.imul, 1, (0, 0, 0)), (.iload_n 2, 1, (0, 0, 0)), (.iadd, 1, (0, 0, 0))] = true ∧ plen 9 [(.aload_n 0, 1, (0, 0, 0)), (.getfield 15, 3, (2, 1, 0)), (.iload_n 1, 1, (0, 0, 0)), (.iconst 4, 1, (0, 0, 0)), (.imul, 1, (0, 0, 0)), (.iload_n 2, 1, (0, 0, 0)), (.iadd, 1, (0, 0, 0))] = 18 := by decide +kernel
theorem ok_X2_fieldsOf_24_1 : oks m_X2_fieldsOf.1 m_X2_fieldsOf.2.2.1 24 [(.iconst 0, 1, (0, 0, 0))] = true ∧ plen 24 [(.iconst 0, 1, (0, 0, 0))] = 25 := by decide +kernel
def F_X2_fieldsOf (a1 : Int) (a2 : Int) (σ : Sg) : Int :=
if (F_X2_has a1 a2 σ) = true then
rdD (-1) σ 3 16 (wrap ((wrap (a1 * 4)) + a2))
else
0
theorem lk_X2_fieldsOf (l : Launch) (d : Nat) (hd : 3 ≤ d) (a1 : Int) (a2 : Int) (σ : Sg) (q : Int) (h : F_X2_fieldsOf a1 a2 σ = q) : CT l d m_X2_fieldsOf.2.1 m_X2_fieldsOf.2.2.1 m_X2_fieldsOf.2.2.2.1 m_X2_fieldsOf.2.2.2.2 [.inr 1, .inl a1, .inl a2] (LAYC, σ) (some (.inl q)) (LAYC, σ) := by
  obtain ⟨d, rfl⟩ : ∃ e, d = e + 1 := ⟨d - 1, by omega⟩
  have key : Go l m_X2_fieldsOf (d + 1) LAYC (.inl (some (.inl q))) σ 0 [some (.inr 1), some (.inl a1), some (.inl a2)] [] σ := by
    unfold F_X2_fieldsOf at h
    refine go_ops ok_X2_fieldsOf_0_3 (L' := [some (.inr 1), some (.inl a1), some (.inl a2)]) (st' := [.inl a2, .inl a1, .inr 1]) (σ1 := σ) rfl ?_
    refine go_V (M1 := m_X2_has) (as := [.inl a1, .inl a2]) (st := []) (k := 1) (ci := 2) dc_X2_fieldsOf_3 ln_2_37 im_X2_has (by decide) rfl rfl mk_X2_has rfl (Nat.le_of_ble_eq_true rfl) (Nat.le_refl _) (v := (some (.inl (b2i (F_X2_has a1 a2 σ))))) (σ1 := σ) (lk_X2_has l d (by omega) a1 a2 σ _ rfl) _ rfl ?_
    refine go_ifb_eq dc_X2_fieldsOf_6 (by rfl) (fun hc => ?_) (fun hc => ?_)
    · replace h := (if_neg hc).symm.trans h
      refine go_ops ok_X2_fieldsOf_24_1 (L' := [some (.inr 1), some (.inl a1), some (.inl a2)]) (st' := [.inl 0]) (σ1 := σ) rfl ?_
      subst h
      exact go_iret dc_X2_fieldsOf_25 rfl
    · replace h := (if_pos hc).symm.trans h
      refine go_ops ok_X2_fieldsOf_9_7 (L' := [some (.inr 1), some (.inl a1), some (.inl a2)]) (st' := [.inl (wrap ((wrap (a1 * 4)) + a2)), .inr 3]) (σ1 := σ) rfl ?_
      refine go_SN (M1 := m_X10_at) (as := [.inr 3, .inl (wrap ((wrap (a1 * 4)) + a2))]) (st := []) dc_X2_fieldsOf_18 ln_2_41 sm_X10_at mk_X10_at rfl (Nat.le_of_ble_eq_true rfl) (Nat.le_refl _) (v := some (.inl (rdD (-1) σ 3 16 (wrap ((wrap (a1 * 4)) + a2))))) (σ1 := σ) (lk_X10_at l d LAYC 3 16 rfl σ _) _ rfl ?_
      refine go_goto dc_X2_fieldsOf_21 (by rfl) ?_
      subst h
      exact go_iret dc_X2_fieldsOf_25 rfl
  have hf := go_ct (as := [.inr 1, .inl a1, .inl a2]) mk_X2_fieldsOf (by rfl) (Nat.le_of_ble_eq_true rfl) key
  exact hf
theorem dc_X2_fieldKind_3 : decode m_X2_fieldKind.2.2.1 3 = .ok (.invokevirtual 37, 3) := by decide +kernel
theorem dc_X2_fieldKind_6 : decode m_X2_fieldKind.2.2.1 6 = .ok (.ifCond .eq 16, 3) := by decide +kernel
theorem dc_X2_fieldKind_12 : decode m_X2_fieldKind.2.2.1 12 = .ok (.invokestatic 21, 3) := by decide +kernel
theorem dc_X2_fieldKind_15 : decode m_X2_fieldKind.2.2.1 15 = .ok (.ifCond .eq 7, 3) := by decide +kernel
theorem dc_X2_fieldKind_19 : decode m_X2_fieldKind.2.2.1 19 = .ok (.goto 4, 3) := by decide +kernel
theorem dc_X2_fieldKind_27 : decode m_X2_fieldKind.2.2.1 27 = .ok (.ifCond .eq 22, 3) := by decide +kernel
theorem dc_X2_fieldKind_43 : decode m_X2_fieldKind.2.2.1 43 = .ok (.invokestatic 41, 3) := by decide +kernel
theorem dc_X2_fieldKind_46 : decode m_X2_fieldKind.2.2.1 46 = .ok (.goto 4, 3) := by decide +kernel
theorem dc_X2_fieldKind_50 : decode m_X2_fieldKind.2.2.1 50 = .ok (.ireturn, 1) := by decide +kernel
theorem ok_X2_fieldKind_0_3 : oks m_X2_fieldKind.1 m_X2_fieldKind.2.2.1 0 [(.aload_n 0, 1, (0, 0, 0)), (.iload_n 1, 1, (0, 0, 0)), (.iload_n 2, 1, (0, 0, 0))] = true ∧ plen 0 [(.aload_n 0, 1, (0, 0, 0)), (.iload_n 1, 1, (0, 0, 0)), (.iload_n 2, 1, (0, 0, 0))] = 3 := by decide +kernel
theorem ok_X2_fieldKind_9_3 : oks m_X2_fieldKind.1 m_X2_fieldKind.2.2.1 9 [(.iload_n 3, 1, (0, 0, 0)), (.iconst 0, 1, (0, 0, 0)), (.iconst 2, 1, (0, 0, 0))] = true ∧ plen 9 [(.iload_n 3, 1, (0, 0, 0)), (.iconst 0, 1, (0, 0, 0)), (.iconst 2, 1, (0, 0, 0))] = 12 := by decide +kernel
theorem ok_X2_fieldKind_18_1 : oks m_X2_fieldKind.1 m_X2_fieldKind.2.2.1 18 [(.iconst 1, 1, (0, 0, 0))] = true ∧ plen 18 [(.iconst 1, 1, (0, 0, 0))] = 19 := by decide +kernel
theorem ok_X2_fieldKind_22_1 : oks m_X2_fieldKind.1 m_X2_fieldKind.2.2.1 22 [(.iconst 0, 1, (0, 0, 0))] = true ∧ plen 22 [(.iconst 0, 1, (0, 0, 0))] = 23 := by decide +kernel
theorem ok_X2_fieldKind_23_2 : oks m_X2_fieldKind.1 m_X2_fieldKind.2.2.1 23 [(.istore 4, 2, (0, 0, 0)), (.iload 4, 2, (0, 0, 0))] = true ∧ plen 23 [(.istore 4, 2, (0, 0, 0)), (.iload 4, 2, (0, 0, 0))] = 27 := by decide +kernel
theorem ok_X2_fieldKind_30_11 : oks m_X2_fieldKind.1 m_X2_fieldKind.2.2.1 30 [(.aload_n 0, 1, (0, 0, 0)), (.getfield 18, 3, (2, 2, 0)), (.iload_n 1, 1, (0, 0, 0)), (.iconst 4, 1, (0, 0, 0)), (.imul, 1, (0, 0, 0)), (.iload_n 2, 1, (0, 0, 0)), (.iadd, 1, (0, 0, 0)), (.iconst 3, 1, (0, 0, 0)), (.imul, 1, (0, 0, 0)), (.iload_n 3, 1, (0, 0, 0)), (.iadd, 1, (0, 0, 0))] = true ∧ plen 30 [(.aload_n 0, 1, (0, 0, 0)), (.getfield 18, 3, (2, 2, 0)), (.iload_n 1, 1, (0, 0, 0)), (.iconst 4, 1, (0, 0, 0)), (.imul, 1, (0, 0, 0)), (.iload_n 2, 1, (0, 0, 0)), (.iadd, 1, (0, 0, 0)), (.iconst 3, 1, (0, 0, 0)), (.imul, 1, (0, 0, 0)), (.iload_n 3, 1, (0, 0, 0)), (.iadd, 1, (0, 0, 0))] = 43 := by decide +kernel
theorem ok_X2_fieldKind_49_1 : oks m_X2_fieldKind.1 m_X2_fieldKind.2.2.1 49 [(.iconst (-1), 1, (0, 0, 0))] = true ∧ plen 49 [(.iconst (-1), 1, (0, 0, 0))] = 50 := by decide +kernel
def B_X2_fieldKind_23 (x1 : Int) (x2 : Int) (x3 : Int) (y0 : Bool) (σ : Sg) : Int :=
if y0 = true then
rdD (-1) σ 4 48 (wrap ((wrap ((wrap ((wrap (x1 * 4)) + x2)) * 3)) + x3))
else
(-1)
def B_X2_fieldKind_22 (x1 : Int) (x2 : Int) (x3 : Int) (σ : Sg) : Int :=
B_X2_fieldKind_23 x1 x2 x3 false σ
def F_X2_fieldKind (a1 : Int) (a2 : Int) (a3 : Int) (σ : Sg) : Int :=
if (F_X2_has a1 a2 σ) = true then
if (F_X10_isIn a3 0 2) = true then
B_X2_fieldKind_23 a1 a2 a3 true σ
else
B_X2_fieldKind_22 a1 a2 a3 σ
else
B_X2_fieldKind_22 a1 a2 a3 σ
theorem lk_X2_fieldKind (l : Launch) (d : Nat) (hd : 3 ≤ d) (a1 : Int) (a2 : Int) (a3 : Int) (σ : Sg) (q : Int) (h : F_X2_fieldKind a1 a2 a3 σ = q) : CT l d m_X2_fieldKind.2.1 m_X2_fieldKind.2.2.1 m_X2_fieldKind.2.2.2.1 m_X2_fieldKind.2.2.2.2 [.inr 1, .inl a1, .inl a2, .inl a3] (LAYC, σ) (some (.inl q)) (LAYC, σ) := by
  obtain ⟨d, rfl⟩ : ∃ e, d = e + 1 := ⟨d - 1, by omega⟩
  have key : Go l m_X2_fieldKind (d + 1) LAYC (.inl (some (.inl q))) σ 0 [some (.inr 1), some (.inl a1), some (.inl a2), some (.inl a3), none] [] σ := by
    unfold F_X2_fieldKind at h
    have hB_X2_fieldKind_23 : ∀ (x1 : Int) (x2 : Int) (x3 : Int) (y0 : Bool) (σ : Sg), B_X2_fieldKind_23 x1 x2 x3 y0 σ = q → Go l m_X2_fieldKind (d + 1) LAYC (.inl (some (.inl q))) σ 23 [some (.inr 1), some (.inl x1), some (.inl x2), some (.inl x3), none] [.inl (b2i y0)] σ := by
      intro x1 x2 x3 y0 σ h
      unfold B_X2_fieldKind_23 at h
      refine go_ops ok_X2_fieldKind_23_2 (L' := [some (.inr 1), some (.inl x1), some (.inl x2), some (.inl x3), some (.inl (b2i y0))]) (st' := [.inl (b2i y0)]) (σ1 := σ) rfl ?_
      refine go_ifb_eq dc_X2_fieldKind_27 (by rfl) (fun hc => ?_) (fun hc => ?_)
      · replace h := (if_neg hc).symm.trans h
        refine go_ops ok_X2_fieldKind_49_1 (L' := [some (.inr 1), some (.inl x1), some (.inl x2), some (.inl x3), some (.inl (b2i y0))]) (st' := [.inl (-1)]) (σ1 := σ) rfl ?_
        subst h
        exact go_iret dc_X2_fieldKind_50 rfl
      · replace h := (if_pos hc).symm.trans h
        refine go_ops ok_X2_fieldKind_30_11 (L' := [some (.inr 1), some (.inl x1), some (.inl x2), some (.inl x3), some (.inl (b2i y0))]) (st' := [.inl (wrap ((wrap ((wrap ((wrap (x1 * 4)) + x2)) * 3)) + x3)), .inr 4]) (σ1 := σ) rfl ?_
        refine go_SN (M1 := m_X10_at) (as := [.inr 4, .inl (wrap ((wrap ((wrap ((wrap (x1 * 4)) + x2)) * 3)) + x3))]) (st := []) dc_X2_fieldKind_43 ln_2_41 sm_X10_at mk_X10_at rfl (Nat.le_of_ble_eq_true rfl) (Nat.le_refl _) (v := some (.inl (rdD (-1) σ 4 48 (wrap ((wrap ((wrap ((wrap (x1 * 4)) + x2)) * 3)) + x3))))) (σ1 := σ) (lk_X10_at l d LAYC 4 48 rfl σ _) _ rfl ?_
        refine go_goto dc_X2_fieldKind_46 (by rfl) ?_
        subst h
        exact go_iret dc_X2_fieldKind_50 rfl
    have hB_X2_fieldKind_22 : ∀ (x1 : Int) (x2 : Int) (x3 : Int) (σ : Sg), B_X2_fieldKind_22 x1 x2 x3 σ = q → Go l m_X2_fieldKind (d + 1) LAYC (.inl (some (.inl q))) σ 22 [some (.inr 1), some (.inl x1), some (.inl x2), some (.inl x3), none] [] σ := by
      intro x1 x2 x3 σ h
      unfold B_X2_fieldKind_22 at h
      refine go_ops ok_X2_fieldKind_22_1 (L' := [some (.inr 1), some (.inl x1), some (.inl x2), some (.inl x3), none]) (st' := [.inl 0]) (σ1 := σ) rfl ?_
      exact hB_X2_fieldKind_23 x1 x2 x3 false σ h
    refine go_ops ok_X2_fieldKind_0_3 (L' := [some (.inr 1), some (.inl a1), some (.inl a2), some (.inl a3), none]) (st' := [.inl a2, .inl a1, .inr 1]) (σ1 := σ) rfl ?_
    refine go_V (M1 := m_X2_has) (as := [.inl a1, .inl a2]) (st := []) (k := 1) (ci := 2) dc_X2_fieldKind_3 ln_2_37 im_X2_has (by decide) rfl rfl mk_X2_has rfl (Nat.le_of_ble_eq_true rfl) (Nat.le_refl _) (v := (some (.inl (b2i (F_X2_has a1 a2 σ))))) (σ1 := σ) (lk_X2_has l d (by omega) a1 a2 σ _ rfl) _ rfl ?_
    refine go_ifb_eq dc_X2_fieldKind_6 (by rfl) (fun hc => ?_) (fun hc => ?_)
    · replace h := (if_neg hc).symm.trans h
      exact hB_X2_fieldKind_22 a1 a2 a3 σ h
    · replace h := (if_pos hc).symm.trans h
      refine go_ops ok_X2_fieldKind_9_3 (L' := [some (.inr 1), some (.inl a1), some (.inl a2), some (.inl a3), none]) (st' := [.inl 2, .inl 0, .inl a3]) (σ1 := σ) rfl ?_
      refine go_SN (M1 := m_X10_isIn) (as := [.inl a3, .inl 0, .inl 2]) (st := []) dc_X2_fieldKind_12 ln_2_21 sm_X10_isIn mk_X10_isIn rfl (Nat.le_of_ble_eq_true rfl) (Nat.le_refl _) (v := (some (.inl (b2i (F_X10_isIn a3 0 2))))) (σ1 := σ) (lk_X10_isIn l d (by omega) a3 0 2 σ _ rfl) _ rfl ?_
      refine go_ifb_eq dc_X2_fieldKind_15 (by rfl) (fun hc => ?_) (fun hc => ?_)
      · replace h := (if_neg hc).symm.trans h
        exact hB_X2_fieldKind_22 a1 a2 a3 σ h
      · replace h := (if_pos hc).symm.trans h
        refine go_ops ok_X2_fieldKind_18_1 (L' := [some (.inr 1), some (.inl a1), some (.inl a2), some (.inl a3), none]) (st' := [.inl 1]) (σ1 := σ) rfl ?_
        refine go_goto dc_X2_fieldKind_19 (by rfl) ?_
        exact hB_X2_fieldKind_23 a1 a2 a3 true σ h
  have hf := go_ct (as := [.inr 1, .inl a1, .inl a2, .inl a3]) mk_X2_fieldKind (by rfl) (Nat.le_of_ble_eq_true rfl) key
  exact hf
theorem dc_X10_pick_1 : decode m_X10_pick.2.2.1 1 = .ok (.ifCond .ne 5, 3) := by decide +kernel
theorem dc_X10_pick_5 : decode m_X10_pick.2.2.1 5 = .ok (.ireturn, 1) := by decide +kernel
theorem dc_X10_pick_8 : decode m_X10_pick.2.2.1 8 = .ok (.if_icmp .ne 7, 3) := by decide +kernel
theorem dc_X10_pick_12 : decode m_X10_pick.2.2.1 12 = .ok (.goto 4, 3) := by decide +kernel
theorem dc_X10_pick_16 : decode m_X10_pick.2.2.1 16 = .ok (.ireturn, 1) := by decide +kernel
theorem ok_X10_pick_0_1 : oks m_X10_pick.1 m_X10_pick.2.2.1 0 [(.iload_n 0, 1, (0, 0, 0))] = true ∧ plen 0 [(.iload_n 0, 1, (0, 0, 0))] = 1 := by decide +kernel
theorem ok_X10_pick_4_1 : oks m_X10_pick.1 m_X10_pick.2.2.1 4 [(.iload_n 1, 1, (0, 0, 0))] = true ∧ plen 4 [(.iload_n 1, 1, (0, 0, 0))] = 5 := by decide +kernel
theorem ok_X10_pick_6_2 : oks m_X10_pick.1 m_X10_pick.2.2.1 6 [(.iload_n 0, 1, (0, 0, 0)), (.iconst 1, 1, (0, 0, 0))] = true ∧ plen 6 [(.iload_n 0, 1, (0, 0, 0)), (.iconst 1, 1, (0, 0, 0))] = 8 := by decide +kernel
theorem ok_X10_pick_11_1 : oks m_X10_pick.1 m_X10_pick.2.2.1 11 [(.iload_n 2, 1, (0, 0, 0))] = true ∧ plen 11 [(.iload_n 2, 1, (0, 0, 0))] = 12 := by decide +kernel
theorem ok_X10_pick_15_1 : oks m_X10_pick.1 m_X10_pick.2.2.1 15 [(.iload_n 3, 1, (0, 0, 0))] = true ∧ plen 15 [(.iload_n 3, 1, (0, 0, 0))] = 16 := by decide +kernel
def F_X10_pick (a0 : Int) (a1 : Int) (a2 : Int) (a3 : Int) : Int :=
if a0 = 0 then
a1
else
if a0 = 1 then
a2
else
a3
theorem lk_X10_pick (l : Launch) (d : Nat) (hd : 0 ≤ d) (a0 : Int) (a1 : Int) (a2 : Int) (a3 : Int) (σ : Sg) (q : Int) (h : F_X10_pick a0 a1 a2 a3 = q) : CT l d m_X10_pick.2.1 m_X10_pick.2.2.1 m_X10_pick.2.2.2.1 m_X10_pick.2.2.2.2 [.inl a0, .inl a1, .inl a2, .inl a3] (LAYC, σ) (some (.inl q)) (LAYC, σ) := by
  skip
  have key : Go l m_X10_pick d LAYC (.inl (some (.inl q))) σ 0 [some (.inl a0), some (.inl a1), some (.inl a2), some (.inl a3)] [] σ := by
    unfold F_X10_pick at h
    refine go_ops ok_X10_pick_0_1 (L' := [some (.inl a0), some (.inl a1), some (.inl a2), some (.inl a3)]) (st' := [.inl a0]) (σ1 := σ) rfl ?_
    refine go_if_ne dc_X10_pick_1 (by rfl) (fun hc => ?_) (fun hc => ?_)
    · replace h := (if_neg hc).symm.trans h
      refine go_ops ok_X10_pick_6_2 (L' := [some (.inl a0), some (.inl a1), some (.inl a2), some (.inl a3)]) (st' := [.inl 1, .inl a0]) (σ1 := σ) rfl ?_
      refine go_icmp_ne dc_X10_pick_8 (by rfl) (fun hc => ?_) (fun hc => ?_)
      · replace h := (if_neg hc).symm.trans h
        refine go_ops ok_X10_pick_15_1 (L' := [some (.inl a0), some (.inl a1), some (.inl a2), some (.inl a3)]) (st' := [.inl a3]) (σ1 := σ) rfl ?_
        subst h
        exact go_iret dc_X10_pick_16 rfl
      · replace h := (if_pos hc).symm.trans h
        refine go_ops ok_X10_pick_11_1 (L' := [some (.inl a0), some (.inl a1), some (.inl a2), some (.inl a3)]) (st' := [.inl a2]) (σ1 := σ) rfl ?_
        refine go_goto dc_X10_pick_12 (by rfl) ?_
        subst h
        exact go_iret dc_X10_pick_16 rfl
    · replace h := (if_pos hc).symm.trans h
      refine go_ops ok_X10_pick_4_1 (L' := [some (.inl a0), some (.inl a1), some (.inl a2), some (.inl a3)]) (st' := [.inl a1]) (σ1 := σ) rfl ?_
      subst h
      exact go_iret dc_X10_pick_5 rfl
  have hf := go_ct (as := [.inl a0, .inl a1, .inl a2, .inl a3]) mk_X10_pick (by rfl) (Nat.le_of_ble_eq_true rfl) key
  exact hf
theorem dc_X2_extend_2 : decode m_X2_extend.2.2.1 2 = .ok (.invokevirtual 33, 3) := by decide +kernel
theorem dc_X2_extend_24 : decode m_X2_extend.2.2.1 24 = .ok (.invokestatic 44, 3) := by decide +kernel
theorem dc_X2_extend_34 : decode m_X2_extend.2.2.1 34 = .ok (.invokestatic 44, 3) := by decide +kernel
theorem dc_X2_extend_43 : decode m_X2_extend.2.2.1 43 = .ok (.if_icmp .ge 33, 3) := by decide +kernel
theorem dc_X2_extend_64 : decode m_X2_extend.2.2.1 64 = .ok (.invokestatic 48, 3) := by decide +kernel
theorem dc_X2_extend_67 : decode m_X2_extend.2.2.1 67 = .ok (.invokestatic 44, 3) := by decide +kernel
theorem dc_X2_extend_73 : decode m_X2_extend.2.2.1 73 = .ok (.goto (-33), 3) := by decide +kernel
theorem dc_X2_extend_78 : decode m_X2_extend.2.2.1 78 = .ok (.ireturn, 1) := by decide +kernel
theorem ok_X2_extend_0_2 : oks m_X2_extend.1 m_X2_extend.2.2.1 0 [(.aload_n 0, 1, (0, 0, 0)), (.iload_n 1, 1, (0, 0, 0))] = true ∧ plen 0 [(.aload_n 0, 1, (0, 0, 0)), (.iload_n 1, 1, (0, 0, 0))] = 2 := by decide +kernel
theorem ok_X2_extend_5_13 : oks m_X2_extend.1 m_X2_extend.2.2.1 5 [(.istore 6, 2, (0, 0, 0)), (.iload_n 1, 1, (0, 0, 0)), (.iconst 4, 1, (0, 0, 0)), (.imul, 1, (0, 0, 0)), (.iload 6, 2, (0, 0, 0)), (.iadd, 1, (0, 0, 0)), (.istore 7, 2, (0, 0, 0)), (.aload_n 0, 1, (0, 0, 0)), (.getfield 9, 3, (2, 0, 0)), (.iload_n 1, 1, (0, 0, 0)), (.iload 6, 2, (0, 0, 0)), (.iconst 1, 1, (0, 0, 0)), (.iadd, 1, (0, 0, 0))] = true ∧ plen 5 [(.istore 6, 2, (0, 0, 0)), (.iload_n 1, 1, (0, 0, 0)), (.iconst 4, 1, (0, 0, 0)), (.imul, 1, (0, 0, 0)), (.iload 6, 2, (0, 0, 0)), (.iadd, 1, (0, 0, 0)), (.istore 7, 2, (0, 0, 0)), (.aload_n 0, 1, (0, 0, 0)), (.getfield 9, 3, (2, 0, 0)), (.iload_n 1, 1, (0, 0, 0)), (.iload 6, 2, (0, 0, 0)), (.iconst 1, 1, (0, 0, 0)), (.iadd, 1, (0, 0, 0))] = 24 := by decide +kernel
theorem ok_X2_extend_27_4 : oks m_X2_extend.1 m_X2_extend.2.2.1 27 [(.aload_n 0, 1, (0, 0, 0)), (.getfield 15, 3, (2, 1, 0)), (.iload 7, 2, (0, 0, 0)), (.iload_n 2, 1, (0, 0, 0))] = true ∧ plen 27 [(.aload_n 0, 1, (0, 0, 0)), (.getfield 15, 3, (2, 1, 0)), (.iload 7, 2, (0, 0, 0)), (.iload_n 2, 1, (0, 0, 0))] = 34 := by decide +kernel
theorem ok_X2_extend_37_2 : oks m_X2_extend.1 m_X2_extend.2.2.1 37 [(.iconst 0, 1, (0, 0, 0)), (.istore 8, 2, (0, 0, 0))] = true ∧ plen 37 [(.iconst 0, 1, (0, 0, 0)), (.istore 8, 2, (0, 0, 0))] = 40 := by decide +kernel
theorem ok_X2_extend_40_2 : oks m_X2_extend.1 m_X2_extend.2.2.1 40 [(.iload 8, 2, (0, 0, 0)), (.iconst 3, 1, (0, 0, 0))] = true ∧ plen 40 [(.iload 8, 2, (0, 0, 0)), (.iconst 3, 1, (0, 0, 0))] = 43 := by decide +kernel
theorem ok_X2_extend_46_11 : oks m_X2_extend.1 m_X2_extend.2.2.1 46 [(.aload_n 0, 1, (0, 0, 0)), (.getfield 18, 3, (2, 2, 0)), (.iload 7, 2, (0, 0, 0)), (.iconst 3, 1, (0, 0, 0)), (.imul, 1, (0, 0, 0)), (.iload 8, 2, (0, 0, 0)), (.iadd, 1, (0, 0, 0)), (.iload 8, 2, (0, 0, 0)), (.iload_n 3, 1, (0, 0, 0)), (.iload 4, 2, (0, 0, 0)), (.iload 5, 2, (0, 0, 0))] = true ∧ plen 46 [(.aload_n 0, 1, (0, 0, 0)), (.getfield 18, 3, (2, 2, 0)), (.iload 7, 2, (0, 0, 0)), (.iconst 3, 1, (0, 0, 0)), (.imul, 1, (0, 0, 0)), (.iload 8, 2, (0, 0, 0)), (.iadd, 1, (0, 0, 0)), (.iload 8, 2, (0, 0, 0)), (.iload_n 3, 1, (0, 0, 0)), (.iload 4, 2, (0, 0, 0)), (.iload 5, 2, (0, 0, 0))] = 64 := by decide +kernel
theorem ok_X2_extend_70_1 : oks m_X2_extend.1 m_X2_extend.2.2.1 70 [(.iinc 8 1, 3, (0, 0, 0))] = true ∧ plen 70 [(.iinc 8 1, 3, (0, 0, 0))] = 73 := by decide +kernel
theorem ok_X2_extend_76_1 : oks m_X2_extend.1 m_X2_extend.2.2.1 76 [(.iload 6, 2, (0, 0, 0))] = true ∧ plen 76 [(.iload 6, 2, (0, 0, 0))] = 78 := by decide +kernel
def L_X2_extend_40 (x3 : Int) (x4 : Int) (x5 : Int) (x7 : Int) (x8 : Int) (σ : Sg) : Option ((Int × Sg) ⊕ Sg) :=
if 3 ≤ x8 then
some (.inr σ)
else
bnd (wrD σ 4 48 (wrap ((wrap (x7 * 3)) + x8)) (F_X10_pick x8 x3 x4 x5)) fun s9 =>
some (.inl (wrap (x8 + 1), s9))
def F_X2_extend (a1 : Int) (a2 : Int) (a3 : Int) (a4 : Int) (a5 : Int) (σ : Sg) : Option (Int × Sg) :=
bnd (F_X2_countOf a1 σ) fun v1 =>
bnd (wrap ((wrap (a1 * 4)) + v1)) fun v3 =>
bnd (wrD σ 2 4 a1 (wrap (v1 + 1))) fun s5 =>
bnd (wrD s5 3 16 v3 a2) fun s7 =>
(iter (fun a : (Int × Sg) => L_X2_extend_40 a3 a4 a5 v3 a.1 a.2) 4 (0, s7)).bind fun y11 =>
some (v1, y11)
theorem lk_X2_extend (l : Launch) (d : Nat) (hd : 2 ≤ d) (a1 : Int) (a2 : Int) (a3 : Int) (a4 : Int) (a5 : Int) (σ : Sg) (q : (Int × Sg)) (h : F_X2_extend a1 a2 a3 a4 a5 σ = some q) : CT l d m_X2_extend.2.1 m_X2_extend.2.2.1 m_X2_extend.2.2.2.1 m_X2_extend.2.2.2.2 [.inr 1, .inl a1, .inl a2, .inl a3, .inl a4, .inl a5] (LAYC, σ) (some (.inl q.1)) (LAYC, q.2) := by
  obtain ⟨d, rfl⟩ : ∃ e, d = e + 1 := ⟨d - 1, by omega⟩
  have key : Go l m_X2_extend (d + 1) LAYC (.inl (some (.inl q.1))) q.2 0 [some (.inr 1), some (.inl a1), some (.inl a2), some (.inl a3), some (.inl a4), some (.inl a5), none, none, none] [] σ := by
    unfold F_X2_extend at h
    have hL_X2_extend_40 : ∀ (x3 : Int) (x4 : Int) (x5 : Int) (x6 : Int) (x7 : Int) (n : Nat) (a : (Int × Sg)) (y : Sg), iter (fun a : (Int × Sg) => L_X2_extend_40 x3 x4 x5 x7 a.1 a.2) n a = some y → (fun y : Sg => Go l m_X2_extend (d + 1) LAYC (.inl (some (.inl q.1))) q.2 76 [none, none, none, none, none, none, some (.inl x6), none, none] [] y) y → (fun a : (Int × Sg) => Go l m_X2_extend (d + 1) LAYC (.inl (some (.inl q.1))) q.2 40 [some (.inr 1), none, none, some (.inl x3), some (.inl x4), some (.inl x5), some (.inl x6), some (.inl x7), some (.inl a.1)] [] a.2) a := by
      intro x3 x4 x5 x6 x7
      refine go_iter (G := fun a : (Int × Sg) => Go l m_X2_extend (d + 1) LAYC (.inl (some (.inl q.1))) q.2 40 [some (.inr 1), none, none, some (.inl x3), some (.inl x4), some (.inl x5), some (.inl x6), some (.inl x7), some (.inl a.1)] [] a.2) (K := fun y : Sg => Go l m_X2_extend (d + 1) LAYC (.inl (some (.inl q.1))) q.2 76 [none, none, none, none, none, none, some (.inl x6), none, none] [] y) ?_
      rintro ⟨x8, σ⟩ w h hK
      replace h : L_X2_extend_40 x3 x4 x5 x7 x8 σ = some w := h
      show Go l m_X2_extend (d + 1) LAYC (.inl (some (.inl q.1))) q.2 40 [some (.inr 1), none, none, some (.inl x3), some (.inl x4), some (.inl x5), some (.inl x6), some (.inl x7), some (.inl x8)] [] σ
      unfold L_X2_extend_40 at h
      refine go_ops ok_X2_extend_40_2 (L' := [some (.inr 1), none, none, some (.inl x3), some (.inl x4), some (.inl x5), some (.inl x6), some (.inl x7), some (.inl x8)]) (st' := [.inl 3, .inl x8]) (σ1 := σ) rfl ?_
      refine go_icmp_ge dc_X2_extend_43 (by rfl) (fun hc => ?_) (fun hc => ?_)
      · replace h := (if_pos hc).symm.trans h
        cases h
        refine go_wk (L' := [none, none, none, none, none, none, some (.inl x6), none, none]) ⟨rfl, trivial⟩ ?_
        exact hK
      · replace h := (if_neg hc).symm.trans h
        refine go_ops ok_X2_extend_46_11 (L' := [some (.inr 1), none, none, some (.inl x3), some (.inl x4), some (.inl x5), some (.inl x6), some (.inl x7), some (.inl x8)]) (st' := [.inl x5, .inl x4, .inl x3, .inl x8, .inl (wrap ((wrap (x7 * 3)) + x8)), .inr 4]) (σ1 := σ) rfl ?_
        refine go_SN (M1 := m_X10_pick) (as := [.inl x8, .inl x3, .inl x4, .inl x5]) (st := [.inl (wrap ((wrap (x7 * 3)) + x8)), .inr 4]) dc_X2_extend_64 ln_2_48 sm_X10_pick mk_X10_pick rfl (Nat.le_of_ble_eq_true rfl) (Nat.le_refl _) (v := (some (.inl (F_X10_pick x8 x3 x4 x5)))) (σ1 := σ) (lk_X10_pick l d (by omega) x8 x3 x4 x5 σ _ rfl) _ rfl ?_
        obtain ⟨s9, e10, h⟩ := bnd_inv h
        refine go_SN (M1 := m_X10_put) (as := [.inr 4, .inl (wrap ((wrap (x7 * 3)) + x8)), .inl (F_X10_pick x8 x3 x4 x5)]) (st := []) dc_X2_extend_67 ln_2_44 sm_X10_put mk_X10_put rfl (Nat.le_of_ble_eq_true rfl) (Nat.le_refl _) (v := none) (σ1 := s9) (lk_X10_put l d LAYC 4 48 rfl _ _ s9 e10) _ rfl ?_
        refine go_ops ok_X2_extend_70_1 (L' := [some (.inr 1), none, none, some (.inl x3), some (.inl x4), some (.inl x5), some (.inl x6), some (.inl x7), some (.inl (wrap (x8 + 1)))]) (st' := []) (σ1 := s9) rfl ?_
        refine go_goto dc_X2_extend_73 (by rfl) ?_
        cases h
        exact hK
    refine go_ops ok_X2_extend_0_2 (L' := [some (.inr 1), some (.inl a1), some (.inl a2), some (.inl a3), some (.inl a4), some (.inl a5), none, none, none]) (st' := [.inl a1, .inr 1]) (σ1 := σ) rfl ?_
    refine go_V (M1 := m_X2_countOf) (as := [.inl a1]) (st := []) (k := 1) (ci := 2) dc_X2_extend_2 ln_2_33 im_X2_countOf (by decide) rfl rfl mk_X2_countOf rfl (Nat.le_of_ble_eq_true rfl) (Nat.le_refl _) (v := (some (.inl (F_X2_countOf a1 σ)))) (σ1 := σ) (lk_X2_countOf l d (by omega) a1 σ _ rfl) _ rfl ?_
    obtain ⟨v1, e2, h⟩ := bnd_inv h
    obtain ⟨v3, e4, h⟩ := bnd_inv h
    refine go_ops ok_X2_extend_5_13 (L' := [some (.inr 1), some (.inl a1), some (.inl a2), some (.inl a3), some (.inl a4), some (.inl a5), some (.inl v1), some (.inl v3), none]) (st' := [.inl (wrap (v1 + 1)), .inl a1, .inr 2]) (σ1 := σ) (by subst e4; subst e2; rfl) ?_
    obtain ⟨s5, e6, h⟩ := bnd_inv h
    refine go_SN (M1 := m_X10_put) (as := [.inr 2, .inl a1, .inl (wrap (v1 + 1))]) (st := []) dc_X2_extend_24 ln_2_44 sm_X10_put mk_X10_put rfl (Nat.le_of_ble_eq_true rfl) (Nat.le_refl _) (v := none) (σ1 := s5) (lk_X10_put l d LAYC 2 4 rfl _ _ s5 e6) _ rfl ?_
    refine go_ops ok_X2_extend_27_4 (L' := [some (.inr 1), some (.inl a1), some (.inl a2), some (.inl a3), some (.inl a4), some (.inl a5), some (.inl v1), some (.inl v3), none]) (st' := [.inl a2, .inl v3, .inr 3]) (σ1 := s5) rfl ?_
    obtain ⟨s7, e8, h⟩ := bnd_inv h
    refine go_SN (M1 := m_X10_put) (as := [.inr 3, .inl v3, .inl a2]) (st := []) dc_X2_extend_34 ln_2_44 sm_X10_put mk_X10_put rfl (Nat.le_of_ble_eq_true rfl) (Nat.le_refl _) (v := none) (σ1 := s7) (lk_X10_put l d LAYC 3 16 rfl _ _ s7 e8) _ rfl ?_
    refine go_ops ok_X2_extend_37_2 (L' := [some (.inr 1), some (.inl a1), some (.inl a2), some (.inl a3), some (.inl a4), some (.inl a5), some (.inl v1), some (.inl v3), some (.inl 0)]) (st' := []) (σ1 := s7) rfl ?_
    refine go_wk (L' := [some (.inr 1), none, none, some (.inl a3), some (.inl a4), some (.inl a5), some (.inl v1), some (.inl v3), some (.inl 0)]) ⟨rfl, rfl, rfl, rfl, rfl, rfl, rfl, trivial⟩ ?_
    obtain ⟨y11, e12, h⟩ := bind_inv h
    refine hL_X2_extend_40 a3 a4 a5 v1 v3 4 (0, s7) y11 e12 ?_
    show Go l m_X2_extend (d + 1) LAYC (.inl (some (.inl q.1))) q.2 76 [none, none, none, none, none, none, some (.inl v1), none, none] [] y11
    refine go_ops ok_X2_extend_76_1 (L' := [none, none, none, none, none, none, some (.inl v1), none, none]) (st' := [.inl v1]) (σ1 := y11) rfl ?_
    have h9 := Option.some.inj h
    subst h9
    exact go_iret dc_X2_extend_78 rfl
  have hf := go_ct (as := [.inr 1, .inl a1, .inl a2, .inl a3, .inl a4, .inl a5]) mk_X2_extend (by rfl) (Nat.le_of_ble_eq_true rfl) key
  exact hf
theorem dc_X2_headsOf_2 : decode m_X2_headsOf.2.2.1 2 = .ok (.if_icmp .ne 6, 3) := by decide +kernel
theorem dc_X2_headsOf_7 : decode m_X2_headsOf.2.2.1 7 = .ok (.ireturn, 1) := by decide +kernel
theorem dc_X2_headsOf_10 : decode m_X2_headsOf.2.2.1 10 = .ok (.if_icmp .ne 7, 3) := by decide +kernel
theorem dc_X2_headsOf_14 : decode m_X2_headsOf.2.2.1 14 = .ok (.goto 11, 3) := by decide +kernel
theorem dc_X2_headsOf_22 : decode m_X2_headsOf.2.2.1 22 = .ok (.invokestatic 29, 3) := by decide +kernel
theorem dc_X2_headsOf_25 : decode m_X2_headsOf.2.2.1 25 = .ok (.ireturn, 1) := by decide +kernel
theorem ok_X2_headsOf_0_2 : oks m_X2_headsOf.1 m_X2_headsOf.2.2.1 0 [(.iload_n 1, 1, (0, 0, 0)), (.iconst 4, 1, (0, 0, 0))] = true ∧ plen 0 [(.iload_n 1, 1, (0, 0, 0)), (.iconst 4, 1, (0, 0, 0))] = 2 := by decide +kernel
theorem ok_X2_headsOf_5_1 : oks m_X2_headsOf.1 m_X2_headsOf.2.2.1 5 [(.bipush 10, 2, (0, 0, 0))] = true ∧ plen 5 [(.bipush 10, 2, (0, 0, 0))] = 7 := by decide +kernel
theorem ok_X2_headsOf_8_2 : oks m_X2_headsOf.1 m_X2_headsOf.2.2.1 8 [(.iload_n 1, 1, (0, 0, 0)), (.iconst 5, 1, (0, 0, 0))] = true ∧ plen 8 [(.iload_n 1, 1, (0, 0, 0)), (.iconst 5, 1, (0, 0, 0))] = 10 := by decide +kernel
theorem ok_X2_headsOf_13_1 : oks m_X2_headsOf.1 m_X2_headsOf.2.2.1 13 [(.iconst 4, 1, (0, 0, 0))] = true ∧ plen 13 [(.iconst 4, 1, (0, 0, 0))] = 14 := by decide +kernel
theorem ok_X2_headsOf_17_3 : oks m_X2_headsOf.1 m_X2_headsOf.2.2.1 17 [(.aload_n 0, 1, (0, 0, 0)), (.getfield 9, 3, (2, 0, 0)), (.iload_n 1, 1, (0, 0, 0))] = true ∧ plen 17 [(.aload_n 0, 1, (0, 0, 0)), (.getfield 9, 3, (2, 0, 0)), (.iload_n 1, 1, (0, 0, 0))] = 22 := by decide +kernel
def F_X2_headsOf (a1 : Int) (σ : Sg) : Int :=
if a1 = 4 then
10
else
if a1 = 5 then
4
else
rdD 0 σ 2 4 a1
theorem lk_X2_headsOf (l : Launch) (d : Nat) (hd : 1 ≤ d) (a1 : Int) (σ : Sg) (q : Int) (h : F_X2_headsOf a1 σ = q) : CT l d m_X2_headsOf.2.1 m_X2_headsOf.2.2.1 m_X2_headsOf.2.2.2.1 m_X2_headsOf.2.2.2.2 [.inr 1, .inl a1] (LAYC, σ) (some (.inl q)) (LAYC, σ) := by
  obtain ⟨d, rfl⟩ : ∃ e, d = e + 1 := ⟨d - 1, by omega⟩
  have key : Go l m_X2_headsOf (d + 1) LAYC (.inl (some (.inl q))) σ 0 [some (.inr 1), some (.inl a1)] [] σ := by
    unfold F_X2_headsOf at h
    refine go_ops ok_X2_headsOf_0_2 (L' := [some (.inr 1), some (.inl a1)]) (st' := [.inl 4, .inl a1]) (σ1 := σ) rfl ?_
    refine go_icmp_ne dc_X2_headsOf_2 (by rfl) (fun hc => ?_) (fun hc => ?_)
    · replace h := (if_neg hc).symm.trans h
      refine go_ops ok_X2_headsOf_8_2 (L' := [some (.inr 1), some (.inl a1)]) (st' := [.inl 5, .inl a1]) (σ1 := σ) rfl ?_
      refine go_icmp_ne dc_X2_headsOf_10 (by rfl) (fun hc => ?_) (fun hc => ?_)
      · replace h := (if_neg hc).symm.trans h
        refine go_ops ok_X2_headsOf_17_3 (L' := [some (.inr 1), some (.inl a1)]) (st' := [.inl a1, .inr 2]) (σ1 := σ) rfl ?_
        refine go_SN (M1 := m_X10_atOrZero) (as := [.inr 2, .inl a1]) (st := []) dc_X2_headsOf_22 ln_2_29 sm_X10_atOrZero mk_X10_atOrZero rfl (Nat.le_of_ble_eq_true rfl) (Nat.le_refl _) (v := some (.inl (rdD 0 σ 2 4 a1))) (σ1 := σ) (lk_X10_atOrZero l d LAYC 2 4 rfl σ _) _ rfl ?_
        subst h
        exact go_iret dc_X2_headsOf_25 rfl
      · replace h := (if_pos hc).symm.trans h
        refine go_ops ok_X2_headsOf_13_1 (L' := [some (.inr 1), some (.inl a1)]) (st' := [.inl 4]) (σ1 := σ) rfl ?_
        refine go_goto dc_X2_headsOf_14 (by rfl) ?_
        subst h
        exact go_iret dc_X2_headsOf_25 rfl
    · replace h := (if_pos hc).symm.trans h
      refine go_ops ok_X2_headsOf_5_1 (L' := [some (.inr 1), some (.inl a1)]) (st' := [.inl 10]) (σ1 := σ) rfl ?_
      subst h
      exact go_iret dc_X2_headsOf_7 rfl
  have hf := go_ct (as := [.inr 1, .inl a1]) mk_X2_headsOf (by rfl) (Nat.le_of_ble_eq_true rfl) key
  exact hf
theorem dc_X3_clear_10 : decode m_X3_clear.2.2.1 10 = .ok (.invokestatic 59, 3) := by decide +kernel
theorem dc_X3_clear_18 : decode m_X3_clear.2.2.1 18 = .ok (.invokestatic 59, 3) := by decide +kernel
theorem dc_X3_clear_21 : decode m_X3_clear.2.2.1 21 = .ok (.return_, 1) := by decide +kernel
theorem ok_X3_clear_0_6 : oks m_X3_clear.1 m_X3_clear.2.2.1 0 [(.aload_n 0, 1, (0, 0, 0)), (.iconst 0, 1, (0, 0, 0)), (.putfield 9, 3, (3, 4, 0)), (.aload_n 0, 1, (0, 0, 0)), (.getfield 27, 3, (3, 9, 0)), (.iconst (-1), 1, (0, 0, 0))] = true ∧ plen 0 [(.aload_n 0, 1, (0, 0, 0)), (.iconst 0, 1, (0, 0, 0)), (.putfield 9, 3, (3, 4, 0)), (.aload_n 0, 1, (0, 0, 0)), (.getfield 27, 3, (3, 9, 0)), (.iconst (-1), 1, (0, 0, 0))] = 10 := by decide +kernel
theorem ok_X3_clear_13_3 : oks m_X3_clear.1 m_X3_clear.2.2.1 13 [(.aload_n 0, 1, (0, 0, 0)), (.getfield 31, 3, (3, 10, 0)), (.iconst 0, 1, (0, 0, 0))] = true ∧ plen 13 [(.aload_n 0, 1, (0, 0, 0)), (.getfield 31, 3, (3, 10, 0)), (.iconst 0, 1, (0, 0, 0))] = 18 := by decide +kernel
def F_X3_clear (σ : Sg) : Sg :=
bnd (up2 σ 37 4 0) fun s1 =>
bnd (fillF s1 38 469 (-1)) fun s3 =>
bnd (fillF s3 39 469 0) fun s5 =>
s5
theorem lk_X3_clear (l : Launch) (d : Nat) (hd : 1 ≤ d) (σ : Sg) (q : Sg) (h : F_X3_clear σ = q) : CT l d m_X3_clear.2.1 m_X3_clear.2.2.1 m_X3_clear.2.2.2.1 m_X3_clear.2.2.2.2 [.inr 37] (LAYC, σ) none (LAYC, q) := by
  obtain ⟨d, rfl⟩ : ∃ e, d = e + 1 := ⟨d - 1, by omega⟩
  have key : Go l m_X3_clear (d + 1) LAYC (.inl none) q 0 [some (.inr 37)] [] σ := by
    unfold F_X3_clear at h
    obtain ⟨s1, e2, h⟩ := bnd_inv h
    refine go_ops ok_X3_clear_0_6 (L' := [some (.inr 37)]) (st' := [.inl (-1), .inr 38]) (σ1 := s1) (by subst e2; rfl) ?_
    obtain ⟨s3, e4, h⟩ := bnd_inv h
    refine go_S (M1 := m_J7_fill_53178) (as := [.inr 38, .inl (-1)]) (st := []) dc_X3_clear_10 ln_3_59 sm_J7_fill_53178 mk_J7_fill_53178 rfl (Nat.le_of_ble_eq_true rfl) (Nat.le_refl _) (v := none) (σ1 := s3) (lk_J7_fill_53178 l d LAYC 38 469 rfl _ s3 e4) _ rfl ?_
    refine go_ops ok_X3_clear_13_3 (L' := [some (.inr 37)]) (st' := [.inl 0, .inr 39]) (σ1 := s3) rfl ?_
    obtain ⟨s5, e6, h⟩ := bnd_inv h
    refine go_S (M1 := m_J7_fill_53178) (as := [.inr 39, .inl 0]) (st := []) dc_X3_clear_18 ln_3_59 sm_J7_fill_53178 mk_J7_fill_53178 rfl (Nat.le_of_ble_eq_true rfl) (Nat.le_refl _) (v := none) (σ1 := s5) (lk_J7_fill_53178 l d LAYC 39 469 rfl _ s5 e6) _ rfl ?_
    subst h
    exact go_vret dc_X3_clear_21 rfl
  have hf := go_ct (as := [.inr 37]) mk_X3_clear (by rfl) (Nat.le_of_ble_eq_true rfl) key
  exact hf
theorem dc_X3_learnHead_6 : decode m_X3_learnHead.2.2.1 6 = .ok (.invokestatic 65, 3) := by decide +kernel
theorem dc_X3_learnHead_9 : decode m_X3_learnHead.2.2.1 9 = .ok (.return_, 1) := by decide +kernel
theorem ok_X3_learnHead_0_4 : oks m_X3_learnHead.1 m_X3_learnHead.2.2.1 0 [(.aload_n 0, 1, (0, 0, 0)), (.getfield 27, 3, (3, 9, 0)), (.iload_n 1, 1, (0, 0, 0)), (.iload_n 2, 1, (0, 0, 0))] = true ∧ plen 0 [(.aload_n 0, 1, (0, 0, 0)), (.getfield 27, 3, (3, 9, 0)), (.iload_n 1, 1, (0, 0, 0)), (.iload_n 2, 1, (0, 0, 0))] = 6 := by decide +kernel
def F_X3_learnHead (a1 : Int) (a2 : Int) (σ : Sg) : Sg :=
bnd (wrD σ 38 469 a1 a2) fun s1 =>
s1
theorem lk_X3_learnHead (l : Launch) (d : Nat) (hd : 1 ≤ d) (a1 : Int) (a2 : Int) (σ : Sg) (q : Sg) (h : F_X3_learnHead a1 a2 σ = q) : CT l d m_X3_learnHead.2.1 m_X3_learnHead.2.2.1 m_X3_learnHead.2.2.2.1 m_X3_learnHead.2.2.2.2 [.inr 37, .inl a1, .inl a2] (LAYC, σ) none (LAYC, q) := by
  obtain ⟨d, rfl⟩ : ∃ e, d = e + 1 := ⟨d - 1, by omega⟩
  have key : Go l m_X3_learnHead (d + 1) LAYC (.inl none) q 0 [some (.inr 37), some (.inl a1), some (.inl a2)] [] σ := by
    unfold F_X3_learnHead at h
    refine go_ops ok_X3_learnHead_0_4 (L' := [some (.inr 37), some (.inl a1), some (.inl a2)]) (st' := [.inl a2, .inl a1, .inr 38]) (σ1 := σ) rfl ?_
    obtain ⟨s1, e2, h⟩ := bnd_inv h
    refine go_SN (M1 := m_X10_put) (as := [.inr 38, .inl a1, .inl a2]) (st := []) dc_X3_learnHead_6 ln_3_65 sm_X10_put mk_X10_put rfl (Nat.le_of_ble_eq_true rfl) (Nat.le_refl _) (v := none) (σ1 := s1) (lk_X10_put l d LAYC 38 469 rfl _ _ s1 e2) _ rfl ?_
    subst h
    exact go_vret dc_X3_learnHead_9 rfl
  have hf := go_ct (as := [.inr 37, .inl a1, .inl a2]) mk_X3_learnHead (by rfl) (Nat.le_of_ble_eq_true rfl) key
  exact hf
theorem dc_X3_learnGiven_7 : decode m_X3_learnGiven.2.2.1 7 = .ok (.invokestatic 69, 3) := by decide +kernel
theorem dc_X3_learnGiven_10 : decode m_X3_learnGiven.2.2.1 10 = .ok (.return_, 1) := by decide +kernel
theorem ok_X3_learnGiven_0_5 : oks m_X3_learnGiven.1 m_X3_learnGiven.2.2.1 0 [(.aload_n 0, 1, (0, 0, 0)), (.getfield 31, 3, (3, 10, 0)), (.iload_n 1, 1, (0, 0, 0)), (.iload_n 2, 1, (0, 0, 0)), (.iload_n 3, 1, (0, 0, 0))] = true ∧ plen 0 [(.aload_n 0, 1, (0, 0, 0)), (.getfield 31, 3, (3, 10, 0)), (.iload_n 1, 1, (0, 0, 0)), (.iload_n 2, 1, (0, 0, 0)), (.iload_n 3, 1, (0, 0, 0))] = 7 := by decide +kernel
def F_X3_learnGiven (a1 : Int) (a2 : Int) (a3 : Int) (σ : Sg) : Sg :=
bnd (F_X10_putGiven 39 a1 a2 a3 σ) fun q1 =>
q1
theorem lk_X3_learnGiven (l : Launch) (d : Nat) (hd : 2 ≤ d) (a1 : Int) (a2 : Int) (a3 : Int) (σ : Sg) (q : Sg) (h : F_X3_learnGiven a1 a2 a3 σ = q) : CT l d m_X3_learnGiven.2.1 m_X3_learnGiven.2.2.1 m_X3_learnGiven.2.2.2.1 m_X3_learnGiven.2.2.2.2 [.inr 37, .inl a1, .inl a2, .inl a3] (LAYC, σ) none (LAYC, q) := by
  obtain ⟨d, rfl⟩ : ∃ e, d = e + 1 := ⟨d - 1, by omega⟩
  have key : Go l m_X3_learnGiven (d + 1) LAYC (.inl none) q 0 [some (.inr 37), some (.inl a1), some (.inl a2), some (.inl a3)] [] σ := by
    unfold F_X3_learnGiven at h
    refine go_ops ok_X3_learnGiven_0_5 (L' := [some (.inr 37), some (.inl a1), some (.inl a2), some (.inl a3)]) (st' := [.inl a3, .inl a2, .inl a1, .inr 39]) (σ1 := σ) rfl ?_
    obtain ⟨q1, e2, h⟩ := bnd_inv h
    refine go_SN (M1 := m_X10_putGiven) (as := [.inr 39, .inl a1, .inl a2, .inl a3]) (st := []) dc_X3_learnGiven_7 ln_3_69 sm_X10_putGiven mk_X10_putGiven rfl (Nat.le_of_ble_eq_true rfl) (Nat.le_refl _) (v := none) (σ1 := q1) (lk_X10_putGiven_39 l d (by omega) a1 a2 a3 σ q1 e2.symm) _ rfl ?_
    subst h
    exact go_vret dc_X3_learnGiven_10 rfl
  have hf := go_ct (as := [.inr 37, .inl a1, .inl a2, .inl a3]) mk_X3_learnGiven (by rfl) (Nat.le_of_ble_eq_true rfl) key
  exact hf
theorem dc_X3_learnFailed_2 : decode m_X3_learnFailed.2.2.1 2 = .ok (.ifCond .eq 14, 3) := by decide +kernel
theorem dc_X3_learnFailed_13 : decode m_X3_learnFailed.2.2.1 13 = .ok (.goto 13, 3) := by decide +kernel
theorem dc_X3_learnFailed_29 : decode m_X3_learnFailed.2.2.1 29 = .ok (.return_, 1) := by decide +kernel
theorem ok_X3_learnFailed_0_2 : oks m_X3_learnFailed.1 m_X3_learnFailed.2.2.1 0 [(.aload_n 0, 1, (0, 0, 0)), (.iload_n 2, 1, (0, 0, 0))] = true ∧ plen 0 [(.aload_n 0, 1, (0, 0, 0)), (.iload_n 2, 1, (0, 0, 0))] = 2 := by decide +kernel
theorem ok_X3_learnFailed_5_6 : oks m_X3_learnFailed.1 m_X3_learnFailed.2.2.1 5 [(.aload_n 0, 1, (0, 0, 0)), (.getfield 9, 3, (3, 4, 0)), (.iconst 1, 1, (0, 0, 0)), (.iload_n 1, 1, (0, 0, 0)), (.ishl, 1, (0, 0, 0)), (.ior, 1, (0, 0, 0))] = true ∧ plen 5 [(.aload_n 0, 1, (0, 0, 0)), (.getfield 9, 3, (3, 4, 0)), (.iconst 1, 1, (0, 0, 0)), (.iload_n 1, 1, (0, 0, 0)), (.ishl, 1, (0, 0, 0)), (.ior, 1, (0, 0, 0))] = 13 := by decide +kernel
theorem ok_X3_learnFailed_16_8 : oks m_X3_learnFailed.1 m_X3_learnFailed.2.2.1 16 [(.aload_n 0, 1, (0, 0, 0)), (.getfield 9, 3, (3, 4, 0)), (.iconst 1, 1, (0, 0, 0)), (.iload_n 1, 1, (0, 0, 0)), (.ishl, 1, (0, 0, 0)), (.iconst (-1), 1, (0, 0, 0)), (.ixor, 1, (0, 0, 0)), (.iand, 1, (0, 0, 0))] = true ∧ plen 16 [(.aload_n 0, 1, (0, 0, 0)), (.getfield 9, 3, (3, 4, 0)), (.iconst 1, 1, (0, 0, 0)), (.iload_n 1, 1, (0, 0, 0)), (.ishl, 1, (0, 0, 0)), (.iconst (-1), 1, (0, 0, 0)), (.ixor, 1, (0, 0, 0)), (.iand, 1, (0, 0, 0))] = 26 := by decide +kernel
theorem ok_X3_learnFailed_26_1 : oks m_X3_learnFailed.1 m_X3_learnFailed.2.2.1 26 [(.putfield 9, 3, (3, 4, 0))] = true ∧ plen 26 [(.putfield 9, 3, (3, 4, 0))] = 29 := by decide +kernel
def B_X3_learnFailed_26 (y0 : Int) (σ : Sg) : Sg :=
bnd (up2 σ 37 4 y0) fun s1 =>
s1
def F_X3_learnFailed (a1 : Int) (a2 : Bool) (σ : Sg) : Sg :=
if a2 = true then
B_X3_learnFailed_26 (jor (σ 37 4) (jshl 1 a1)) σ
else
B_X3_learnFailed_26 (jand (σ 37 4) (jxor (jshl 1 a1) (-1))) σ
theorem lk_X3_learnFailed (l : Launch) (d : Nat) (hd : 0 ≤ d) (a1 : Int) (a2 : Bool) (σ : Sg) (q : Sg) (h : F_X3_learnFailed a1 a2 σ = q) : CT l d m_X3_learnFailed.2.1 m_X3_learnFailed.2.2.1 m_X3_learnFailed.2.2.2.1 m_X3_learnFailed.2.2.2.2 [.inr 37, .inl a1, .inl (b2i a2)] (LAYC, σ) none (LAYC, q) := by
  skip
  have key : Go l m_X3_learnFailed d LAYC (.inl none) q 0 [some (.inr 37), some (.inl a1), some (.inl (b2i a2))] [] σ := by
    unfold F_X3_learnFailed at h
    have hB_X3_learnFailed_26 : ∀ (y0 : Int) (σ : Sg), B_X3_learnFailed_26 y0 σ = q → Go l m_X3_learnFailed d LAYC (.inl none) q 26 [none, none, none] [.inl y0, .inr 37] σ := by
      intro y0 σ h
      unfold B_X3_learnFailed_26 at h
      obtain ⟨s1, e2, h⟩ := bnd_inv h
      refine go_ops ok_X3_learnFailed_26_1 (L' := [none, none, none]) (st' := []) (σ1 := s1) (by subst e2; rfl) ?_
      subst h
      exact go_vret dc_X3_learnFailed_29 rfl
    refine go_ops ok_X3_learnFailed_0_2 (L' := [some (.inr 37), some (.inl a1), some (.inl (b2i a2))]) (st' := [.inl (b2i a2), .inr 37]) (σ1 := σ) rfl ?_
    refine go_ifb_eq dc_X3_learnFailed_2 (by rfl) (fun hc => ?_) (fun hc => ?_)
    · replace h := (if_neg hc).symm.trans h
      refine go_ops ok_X3_learnFailed_16_8 (L' := [some (.inr 37), some (.inl a1), some (.inl (b2i a2))]) (st' := [.inl (jand (σ 37 4) (jxor (jshl 1 a1) (-1))), .inr 37]) (σ1 := σ) rfl ?_
      refine go_wk (L' := [none, none, none]) trivial ?_
      exact hB_X3_learnFailed_26 (jand (σ 37 4) (jxor (jshl 1 a1) (-1))) σ h
    · replace h := (if_pos hc).symm.trans h
      refine go_ops ok_X3_learnFailed_5_6 (L' := [some (.inr 37), some (.inl a1), some (.inl (b2i a2))]) (st' := [.inl (jor (σ 37 4) (jshl 1 a1)), .inr 37]) (σ1 := σ) rfl ?_
      refine go_goto dc_X3_learnFailed_13 (by rfl) ?_
      refine go_wk (L' := [none, none, none]) trivial ?_
      exact hB_X3_learnFailed_26 (jor (σ 37 4) (jshl 1 a1)) σ h
  have hf := go_ct (as := [.inr 37, .inl a1, .inl (b2i a2)]) mk_X3_learnFailed (by rfl) (Nat.le_of_ble_eq_true rfl) key
  exact hf
theorem dc_X3_sort_4 : decode m_X3_sort.2.2.1 4 = .ok (.ireturn, 1) := by decide +kernel
theorem ok_X3_sort_0_2 : oks m_X3_sort.1 m_X3_sort.2.2.1 0 [(.aload_n 0, 1, (0, 0, 0)), (.getfield 15, 3, (3, 5, 0))] = true ∧ plen 0 [(.aload_n 0, 1, (0, 0, 0)), (.getfield 15, 3, (3, 5, 0))] = 4 := by decide +kernel
def F_X3_sort (σ : Sg) : Int :=
σ 37 5
theorem lk_X3_sort (l : Launch) (d : Nat) (hd : 0 ≤ d) (σ : Sg) (q : Int) (h : F_X3_sort σ = q) : CT l d m_X3_sort.2.1 m_X3_sort.2.2.1 m_X3_sort.2.2.2.1 m_X3_sort.2.2.2.2 [.inr 37] (LAYC, σ) (some (.inl q)) (LAYC, σ) := by
  skip
  have key : Go l m_X3_sort d LAYC (.inl (some (.inl q))) σ 0 [some (.inr 37)] [] σ := by
    unfold F_X3_sort at h
    refine go_ops ok_X3_sort_0_2 (L' := [some (.inr 37)]) (st' := [.inl (σ 37 5)]) (σ1 := σ) rfl ?_
    subst h
    exact go_iret dc_X3_sort_4 rfl
  have hf := go_ct (as := [.inr 37]) mk_X3_sort (by rfl) (Nat.le_of_ble_eq_true rfl) key
  exact hf
theorem dc_X3_what_4 : decode m_X3_what.2.2.1 4 = .ok (.ireturn, 1) := by decide +kernel
theorem ok_X3_what_0_2 : oks m_X3_what.1 m_X3_what.2.2.1 0 [(.aload_n 0, 1, (0, 0, 0)), (.getfield 18, 3, (3, 6, 0))] = true ∧ plen 0 [(.aload_n 0, 1, (0, 0, 0)), (.getfield 18, 3, (3, 6, 0))] = 4 := by decide +kernel
def F_X3_what (σ : Sg) : Int :=
σ 37 6
theorem lk_X3_what (l : Launch) (d : Nat) (hd : 0 ≤ d) (σ : Sg) (q : Int) (h : F_X3_what σ = q) : CT l d m_X3_what.2.1 m_X3_what.2.2.1 m_X3_what.2.2.2.1 m_X3_what.2.2.2.2 [.inr 37] (LAYC, σ) (some (.inl q)) (LAYC, σ) := by
  skip
  have key : Go l m_X3_what d LAYC (.inl (some (.inl q))) σ 0 [some (.inr 37)] [] σ := by
    unfold F_X3_what at h
    refine go_ops ok_X3_what_0_2 (L' := [some (.inr 37)]) (st' := [.inl (σ 37 6)]) (σ1 := σ) rfl ?_
    subst h
    exact go_iret dc_X3_what_4 rfl
  have hf := go_ct (as := [.inr 37]) mk_X3_what (by rfl) (Nat.le_of_ble_eq_true rfl) key
  exact hf
theorem dc_X3_which_4 : decode m_X3_which.2.2.1 4 = .ok (.ireturn, 1) := by decide +kernel
theorem ok_X3_which_0_2 : oks m_X3_which.1 m_X3_which.2.2.1 0 [(.aload_n 0, 1, (0, 0, 0)), (.getfield 21, 3, (3, 7, 0))] = true ∧ plen 0 [(.aload_n 0, 1, (0, 0, 0)), (.getfield 21, 3, (3, 7, 0))] = 4 := by decide +kernel
def F_X3_which (σ : Sg) : Int :=
σ 37 7
theorem lk_X3_which (l : Launch) (d : Nat) (hd : 0 ≤ d) (σ : Sg) (q : Int) (h : F_X3_which σ = q) : CT l d m_X3_which.2.1 m_X3_which.2.2.1 m_X3_which.2.2.2.1 m_X3_which.2.2.2.2 [.inr 37] (LAYC, σ) (some (.inl q)) (LAYC, σ) := by
  skip
  have key : Go l m_X3_which d LAYC (.inl (some (.inl q))) σ 0 [some (.inr 37)] [] σ := by
    unfold F_X3_which at h
    refine go_ops ok_X3_which_0_2 (L' := [some (.inr 37)]) (st' := [.inl (σ 37 7)]) (σ1 := σ) rfl ?_
    subst h
    exact go_iret dc_X3_which_4 rfl
  have hf := go_ct (as := [.inr 37]) mk_X3_which (by rfl) (Nat.le_of_ble_eq_true rfl) key
  exact hf
theorem dc_X3_placeOf_5 : decode m_X3_placeOf.2.2.1 5 = .ok (.invokestatic 73, 3) := by decide +kernel
theorem dc_X3_placeOf_8 : decode m_X3_placeOf.2.2.1 8 = .ok (.ireturn, 1) := by decide +kernel
theorem ok_X3_placeOf_0_3 : oks m_X3_placeOf.1 m_X3_placeOf.2.2.1 0 [(.aload_n 0, 1, (0, 0, 0)), (.getfield 34, 3, (3, 11, 0)), (.iload_n 1, 1, (0, 0, 0))] = true ∧ plen 0 [(.aload_n 0, 1, (0, 0, 0)), (.getfield 34, 3, (3, 11, 0)), (.iload_n 1, 1, (0, 0, 0))] = 5 := by decide +kernel
def F_X3_placeOf (a1 : Int) (σ : Sg) : Int :=
rdD (-1) σ 40 6 a1
theorem lk_X3_placeOf (l : Launch) (d : Nat) (hd : 1 ≤ d) (a1 : Int) (σ : Sg) (q : Int) (h : F_X3_placeOf a1 σ = q) : CT l d m_X3_placeOf.2.1 m_X3_placeOf.2.2.1 m_X3_placeOf.2.2.2.1 m_X3_placeOf.2.2.2.2 [.inr 37, .inl a1] (LAYC, σ) (some (.inl q)) (LAYC, σ) := by
  obtain ⟨d, rfl⟩ : ∃ e, d = e + 1 := ⟨d - 1, by omega⟩
  have key : Go l m_X3_placeOf (d + 1) LAYC (.inl (some (.inl q))) σ 0 [some (.inr 37), some (.inl a1)] [] σ := by
    unfold F_X3_placeOf at h
    refine go_ops ok_X3_placeOf_0_3 (L' := [some (.inr 37), some (.inl a1)]) (st' := [.inl a1, .inr 40]) (σ1 := σ) rfl ?_
    refine go_SN (M1 := m_X10_at) (as := [.inr 40, .inl a1]) (st := []) dc_X3_placeOf_5 ln_3_73 sm_X10_at mk_X10_at rfl (Nat.le_of_ble_eq_true rfl) (Nat.le_refl _) (v := some (.inl (rdD (-1) σ 40 6 a1))) (σ1 := σ) (lk_X10_at l d LAYC 40 6 rfl σ _) _ rfl ?_
    subst h
    exact go_iret dc_X3_placeOf_8 rfl
  have hf := go_ct (as := [.inr 37, .inl a1]) mk_X3_placeOf (by rfl) (Nat.le_of_ble_eq_true rfl) key
  exact hf
theorem dc_X9_manyOf_9 : decode m_X9_manyOf.2.2.1 9 = .ok (.invokestatic 19, 3) := by decide +kernel
theorem dc_X9_manyOf_12 : decode m_X9_manyOf.2.2.1 12 = .ok (.ireturn, 1) := by decide +kernel
theorem ok_X9_manyOf_0_7 : oks m_X9_manyOf.1 m_X9_manyOf.2.2.1 0 [(.aload_n 0, 1, (0, 0, 0)), (.getfield 11, 3, (9, 0, 0)), (.iload_n 1, 1, (0, 0, 0)), (.iconst 4, 1, (0, 0, 0)), (.imul, 1, (0, 0, 0)), (.iconst 3, 1, (0, 0, 0)), (.iadd, 1, (0, 0, 0))] = true ∧ plen 0 [(.aload_n 0, 1, (0, 0, 0)), (.getfield 11, 3, (9, 0, 0)), (.iload_n 1, 1, (0, 0, 0)), (.iconst 4, 1, (0, 0, 0)), (.imul, 1, (0, 0, 0)), (.iconst 3, 1, (0, 0, 0)), (.iadd, 1, (0, 0, 0))] = 9 := by decide +kernel
def F_X9_manyOf (a1 : Int) (σ : Sg) : Int :=
rdD (-1) σ 23 12 (wrap ((wrap (a1 * 4)) + 3))
theorem lk_X9_manyOf (l : Launch) (d : Nat) (hd : 1 ≤ d) (a1 : Int) (σ : Sg) (q : Int) (h : F_X9_manyOf a1 σ = q) : CT l d m_X9_manyOf.2.1 m_X9_manyOf.2.2.1 m_X9_manyOf.2.2.2.1 m_X9_manyOf.2.2.2.2 [.inr 22, .inl a1] (LAYC, σ) (some (.inl q)) (LAYC, σ) := by
  obtain ⟨d, rfl⟩ : ∃ e, d = e + 1 := ⟨d - 1, by omega⟩
  have key : Go l m_X9_manyOf (d + 1) LAYC (.inl (some (.inl q))) σ 0 [some (.inr 22), some (.inl a1)] [] σ := by
    unfold F_X9_manyOf at h
    refine go_ops ok_X9_manyOf_0_7 (L' := [some (.inr 22), some (.inl a1)]) (st' := [.inl (wrap ((wrap (a1 * 4)) + 3)), .inr 23]) (σ1 := σ) rfl ?_
    refine go_SN (M1 := m_X10_at) (as := [.inr 23, .inl (wrap ((wrap (a1 * 4)) + 3))]) (st := []) dc_X9_manyOf_9 ln_9_19 sm_X10_at mk_X10_at rfl (Nat.le_of_ble_eq_true rfl) (Nat.le_refl _) (v := some (.inl (rdD (-1) σ 23 12 (wrap ((wrap (a1 * 4)) + 3))))) (σ1 := σ) (lk_X10_at l d LAYC 23 12 rfl σ _) _ rfl ?_
    subst h
    exact go_iret dc_X9_manyOf_12 rfl
  have hf := go_ct (as := [.inr 22, .inl a1]) mk_X9_manyOf (by rfl) (Nat.le_of_ble_eq_true rfl) key
  exact hf
theorem dc_X3_width_4 : decode m_X3_width.2.2.1 4 = .ok (.tableswitch 54 3 5 #[28, 40, 52], 28) := by decide +kernel
theorem dc_X3_width_40 : decode m_X3_width.2.2.1 40 = .ok (.invokevirtual 77, 3) := by decide +kernel
theorem dc_X3_width_43 : decode m_X3_width.2.2.1 43 = .ok (.ireturn, 1) := by decide +kernel
theorem dc_X3_width_52 : decode m_X3_width.2.2.1 52 = .ok (.invokevirtual 83, 3) := by decide +kernel
theorem dc_X3_width_55 : decode m_X3_width.2.2.1 55 = .ok (.ireturn, 1) := by decide +kernel
theorem dc_X3_width_57 : decode m_X3_width.2.2.1 57 = .ok (.ireturn, 1) := by decide +kernel
theorem dc_X3_width_59 : decode m_X3_width.2.2.1 59 = .ok (.ireturn, 1) := by decide +kernel
theorem ok_X3_width_0_2 : oks m_X3_width.1 m_X3_width.2.2.1 0 [(.aload_n 0, 1, (0, 0, 0)), (.getfield 15, 3, (3, 5, 0))] = true ∧ plen 0 [(.aload_n 0, 1, (0, 0, 0)), (.getfield 15, 3, (3, 5, 0))] = 4 := by decide +kernel
theorem ok_X3_width_32_4 : oks m_X3_width.1 m_X3_width.2.2.1 32 [(.aload_n 0, 1, (0, 0, 0)), (.getfield 43, 3, (3, 0, 0)), (.aload_n 0, 1, (0, 0, 0)), (.getfield 21, 3, (3, 7, 0))] = true ∧ plen 32 [(.aload_n 0, 1, (0, 0, 0)), (.getfield 43, 3, (3, 0, 0)), (.aload_n 0, 1, (0, 0, 0)), (.getfield 21, 3, (3, 7, 0))] = 40 := by decide +kernel
theorem ok_X3_width_44_4 : oks m_X3_width.1 m_X3_width.2.2.1 44 [(.aload_n 0, 1, (0, 0, 0)), (.getfield 51, 3, (3, 2, 0)), (.aload_n 0, 1, (0, 0, 0)), (.getfield 21, 3, (3, 7, 0))] = true ∧ plen 44 [(.aload_n 0, 1, (0, 0, 0)), (.getfield 51, 3, (3, 2, 0)), (.aload_n 0, 1, (0, 0, 0)), (.getfield 21, 3, (3, 7, 0))] = 52 := by decide +kernel
theorem ok_X3_width_56_1 : oks m_X3_width.1 m_X3_width.2.2.1 56 [(.iconst 2, 1, (0, 0, 0))] = true ∧ plen 56 [(.iconst 2, 1, (0, 0, 0))] = 57 := by decide +kernel
theorem ok_X3_width_58_1 : oks m_X3_width.1 m_X3_width.2.2.1 58 [(.iconst 0, 1, (0, 0, 0))] = true ∧ plen 58 [(.iconst 0, 1, (0, 0, 0))] = 59 := by decide +kernel
def F_X3_width (σ : Sg) : Int :=
if (σ 37 5) = 3 then
F_X2_headsOf (σ 37 7) σ
else if (σ 37 5) = 4 then
F_X9_manyOf (σ 37 7) σ
else if (σ 37 5) = 5 then
2
else 0
theorem lk_X3_width (l : Launch) (d : Nat) (hd : 2 ≤ d) (σ : Sg) (q : Int) (h : F_X3_width σ = q) : CT l d m_X3_width.2.1 m_X3_width.2.2.1 m_X3_width.2.2.2.1 m_X3_width.2.2.2.2 [.inr 37] (LAYC, σ) (some (.inl q)) (LAYC, σ) := by
  obtain ⟨d, rfl⟩ : ∃ e, d = e + 1 := ⟨d - 1, by omega⟩
  have key : Go l m_X3_width (d + 1) LAYC (.inl (some (.inl q))) σ 0 [some (.inr 37)] [] σ := by
    unfold F_X3_width at h
    refine go_ops ok_X3_width_0_2 (L' := [some (.inr 37)]) (st' := [.inl (σ 37 5)]) (σ1 := σ) rfl ?_
    rcases Decidable.em ((σ 37 5) = 3) with hs1 | hs1
    · replace h := (if_pos hs1).symm.trans h
      refine go_tsw (off := 28) dc_X3_width_4 (by decide) (by decide) (tsk hs1 (by decide +kernel)) (by rfl) ?_
      refine go_ops ok_X3_width_32_4 (L' := [some (.inr 37)]) (st' := [.inl (σ 37 7), .inr 1]) (σ1 := σ) rfl ?_
      refine go_V (M1 := m_X2_headsOf) (as := [.inl (σ 37 7)]) (st := []) (k := 1) (ci := 2) dc_X3_width_40 ln_3_77 im_X2_headsOf (by decide) rfl rfl mk_X2_headsOf rfl (Nat.le_of_ble_eq_true rfl) (Nat.le_refl _) (v := (some (.inl (F_X2_headsOf (σ 37 7) σ)))) (σ1 := σ) (lk_X2_headsOf l d (by omega) (σ 37 7) σ _ rfl) _ rfl ?_
      subst h
      exact go_iret dc_X3_width_43 rfl
    replace h := (if_neg hs1).symm.trans h
    rcases Decidable.em ((σ 37 5) = 4) with hs2 | hs2
    · replace h := (if_pos hs2).symm.trans h
      refine go_tsw (off := 40) dc_X3_width_4 (by decide) (by decide) (tsk hs2 (by decide +kernel)) (by rfl) ?_
      refine go_ops ok_X3_width_44_4 (L' := [some (.inr 37)]) (st' := [.inl (σ 37 7), .inr 22]) (σ1 := σ) rfl ?_
      refine go_V (M1 := m_X9_manyOf) (as := [.inl (σ 37 7)]) (st := []) (k := 22) (ci := 9) dc_X3_width_52 ln_3_83 im_X9_manyOf (by decide) rfl rfl mk_X9_manyOf rfl (Nat.le_of_ble_eq_true rfl) (Nat.le_refl _) (v := (some (.inl (F_X9_manyOf (σ 37 7) σ)))) (σ1 := σ) (lk_X9_manyOf l d (by omega) (σ 37 7) σ _ rfl) _ rfl ?_
      subst h
      exact go_iret dc_X3_width_55 rfl
    replace h := (if_neg hs2).symm.trans h
    rcases Decidable.em ((σ 37 5) = 5) with hs3 | hs3
    · replace h := (if_pos hs3).symm.trans h
      refine go_tsw (off := 52) dc_X3_width_4 (by decide) (by decide) (tsk hs3 (by decide +kernel)) (by rfl) ?_
      refine go_ops ok_X3_width_56_1 (L' := [some (.inr 37)]) (st' := [.inl 2]) (σ1 := σ) rfl ?_
      subst h
      exact go_iret dc_X3_width_57 rfl
    replace h := (if_neg hs3).symm.trans h
    refine go_tsw (off := 54) dc_X3_width_4 (by decide) (by decide) (ts_d [3, 4, 5] (nn1 hs1 (nn1 hs2 (nn1 hs3 nn0))) (by decide +kernel)) (by rfl) ?_
    refine go_ops ok_X3_width_58_1 (L' := [some (.inr 37)]) (st' := [.inl 0]) (σ1 := σ) rfl ?_
    subst h
    exact go_iret dc_X3_width_59 rfl
  have hf := go_ct (as := [.inr 37]) mk_X3_width (by rfl) (Nat.le_of_ble_eq_true rfl) key
  exact hf
theorem dc_X3_setNext_15 : decode m_X3_setNext.2.2.1 15 = .ok (.return_, 1) := by decide +kernel
theorem ok_X3_setNext_0_9 : oks m_X3_setNext.1 m_X3_setNext.2.2.1 0 [(.aload_n 0, 1, (0, 0, 0)), (.iload_n 1, 1, (0, 0, 0)), (.putfield 15, 3, (3, 5, 0)), (.aload_n 0, 1, (0, 0, 0)), (.iload_n 2, 1, (0, 0, 0)), (.putfield 18, 3, (3, 6, 0)), (.aload_n 0, 1, (0, 0, 0)), (.iload_n 3, 1, (0, 0, 0)), (.putfield 21, 3, (3, 7, 0))] = true ∧ plen 0 [(.aload_n 0, 1, (0, 0, 0)), (.iload_n 1, 1, (0, 0, 0)), (.putfield 15, 3, (3, 5, 0)), (.aload_n 0, 1, (0, 0, 0)), (.iload_n 2, 1, (0, 0, 0)), (.putfield 18, 3, (3, 6, 0)), (.aload_n 0, 1, (0, 0, 0)), (.iload_n 3, 1, (0, 0, 0)), (.putfield 21, 3, (3, 7, 0))] = 15 := by decide +kernel
def F_X3_setNext (a1 : Int) (a2 : Int) (a3 : Int) (σ : Sg) : Sg :=
bnd (up2 σ 37 5 a1) fun s1 =>
bnd (up2 s1 37 6 a2) fun s3 =>
bnd (up2 s3 37 7 a3) fun s5 =>
s5
theorem lk_X3_setNext (l : Launch) (d : Nat) (hd : 0 ≤ d) (a1 : Int) (a2 : Int) (a3 : Int) (σ : Sg) (q : Sg) (h : F_X3_setNext a1 a2 a3 σ = q) : CT l d m_X3_setNext.2.1 m_X3_setNext.2.2.1 m_X3_setNext.2.2.2.1 m_X3_setNext.2.2.2.2 [.inr 37, .inl a1, .inl a2, .inl a3] (LAYC, σ) none (LAYC, q) := by
  skip
  have key : Go l m_X3_setNext d LAYC (.inl none) q 0 [some (.inr 37), some (.inl a1), some (.inl a2), some (.inl a3)] [] σ := by
    unfold F_X3_setNext at h
    obtain ⟨s1, e2, h⟩ := bnd_inv h
    obtain ⟨s3, e4, h⟩ := bnd_inv h
    obtain ⟨s5, e6, h⟩ := bnd_inv h
    refine go_ops ok_X3_setNext_0_9 (L' := [some (.inr 37), some (.inl a1), some (.inl a2), some (.inl a3)]) (st' := []) (σ1 := s5) (by subst e6; subst e4; subst e2; rfl) ?_
    subst h
    exact go_vret dc_X3_setNext_15 rfl
  have hf := go_ct (as := [.inr 37, .inl a1, .inl a2, .inl a3]) mk_X3_setNext (by rfl) (Nat.le_of_ble_eq_true rfl) key
  exact hf
theorem dc_X3_seekGuard_1 : decode m_X3_seekGuard.2.2.1 1 = .ok (.ifCond .eq 16, 3) := by decide +kernel
theorem dc_X3_seekGuard_10 : decode m_X3_seekGuard.2.2.1 10 = .ok (.invokevirtual 90, 3) := by decide +kernel
theorem dc_X3_seekGuard_14 : decode m_X3_seekGuard.2.2.1 14 = .ok (.if_icmp .ne 7, 3) := by decide +kernel
theorem dc_X3_seekGuard_18 : decode m_X3_seekGuard.2.2.1 18 = .ok (.goto 4, 3) := by decide +kernel
theorem dc_X3_seekGuard_24 : decode m_X3_seekGuard.2.2.1 24 = .ok (.ifCond .eq 18, 3) := by decide +kernel
theorem dc_X3_seekGuard_29 : decode m_X3_seekGuard.2.2.1 29 = .ok (.ifCond .ne 7, 3) := by decide +kernel
theorem dc_X3_seekGuard_33 : decode m_X3_seekGuard.2.2.1 33 = .ok (.goto 4, 3) := by decide +kernel
theorem dc_X3_seekGuard_39 : decode m_X3_seekGuard.2.2.1 39 = .ok (.invokevirtual 94, 3) := by decide +kernel
theorem dc_X3_seekGuard_43 : decode m_X3_seekGuard.2.2.1 43 = .ok (.ireturn, 1) := by decide +kernel
theorem ok_X3_seekGuard_0_1 : oks m_X3_seekGuard.1 m_X3_seekGuard.2.2.1 0 [(.iload_n 2, 1, (0, 0, 0))] = true ∧ plen 0 [(.iload_n 2, 1, (0, 0, 0))] = 1 := by decide +kernel
theorem ok_X3_seekGuard_4_4 : oks m_X3_seekGuard.1 m_X3_seekGuard.2.2.1 4 [(.aload_n 0, 1, (0, 0, 0)), (.getfield 55, 3, (3, 3, 0)), (.iload_n 1, 1, (0, 0, 0)), (.iconst 4, 1, (0, 0, 0))] = true ∧ plen 4 [(.aload_n 0, 1, (0, 0, 0)), (.getfield 55, 3, (3, 3, 0)), (.iload_n 1, 1, (0, 0, 0)), (.iconst 4, 1, (0, 0, 0))] = 10 := by decide +kernel
theorem ok_X3_seekGuard_13_1 : oks m_X3_seekGuard.1 m_X3_seekGuard.2.2.1 13 [(.iconst 3, 1, (0, 0, 0))] = true ∧ plen 13 [(.iconst 3, 1, (0, 0, 0))] = 14 := by decide +kernel
theorem ok_X3_seekGuard_17_1 : oks m_X3_seekGuard.1 m_X3_seekGuard.2.2.1 17 [(.iconst 1, 1, (0, 0, 0))] = true ∧ plen 17 [(.iconst 1, 1, (0, 0, 0))] = 18 := by decide +kernel
theorem ok_X3_seekGuard_21_1 : oks m_X3_seekGuard.1 m_X3_seekGuard.2.2.1 21 [(.iconst 0, 1, (0, 0, 0))] = true ∧ plen 21 [(.iconst 0, 1, (0, 0, 0))] = 22 := by decide +kernel
theorem ok_X3_seekGuard_22_2 : oks m_X3_seekGuard.1 m_X3_seekGuard.2.2.1 22 [(.istore_n 3, 1, (0, 0, 0)), (.iload_n 3, 1, (0, 0, 0))] = true ∧ plen 22 [(.istore_n 3, 1, (0, 0, 0)), (.iload_n 3, 1, (0, 0, 0))] = 24 := by decide +kernel
theorem ok_X3_seekGuard_27_2 : oks m_X3_seekGuard.1 m_X3_seekGuard.2.2.1 27 [(.aload_n 0, 1, (0, 0, 0)), (.iload_n 2, 1, (0, 0, 0))] = true ∧ plen 27 [(.aload_n 0, 1, (0, 0, 0)), (.iload_n 2, 1, (0, 0, 0))] = 29 := by decide +kernel
theorem ok_X3_seekGuard_32_1 : oks m_X3_seekGuard.1 m_X3_seekGuard.2.2.1 32 [(.iconst 0, 1, (0, 0, 0))] = true ∧ plen 32 [(.iconst 0, 1, (0, 0, 0))] = 33 := by decide +kernel
theorem ok_X3_seekGuard_36_1 : oks m_X3_seekGuard.1 m_X3_seekGuard.2.2.1 36 [(.iconst 1, 1, (0, 0, 0))] = true ∧ plen 36 [(.iconst 1, 1, (0, 0, 0))] = 37 := by decide +kernel
theorem ok_X3_seekGuard_37_2 : oks m_X3_seekGuard.1 m_X3_seekGuard.2.2.1 37 [(.iload_n 1, 1, (0, 0, 0)), (.iconst 0, 1, (0, 0, 0))] = true ∧ plen 37 [(.iload_n 1, 1, (0, 0, 0)), (.iconst 0, 1, (0, 0, 0))] = 39 := by decide +kernel
theorem ok_X3_seekGuard_42_1 : oks m_X3_seekGuard.1 m_X3_seekGuard.2.2.1 42 [(.iload_n 3, 1, (0, 0, 0))] = true ∧ plen 42 [(.iload_n 3, 1, (0, 0, 0))] = 43 := by decide +kernel
def B_X3_seekGuard_37 (x1 : Int) (x3 : Bool) (y0 : Bool) (σ : Sg) : (Bool × Sg) :=
bnd (F_X3_setNext (b2i y0) x1 0 σ) fun q1 =>
(x3, q1)
def B_X3_seekGuard_22 (x1 : Int) (x2 : Int) (y0 : Bool) (σ : Sg) : (Bool × Sg) :=
if y0 = true then
if x2 = 0 then
B_X3_seekGuard_37 x1 y0 false σ
else
B_X3_seekGuard_37 x1 y0 true σ
else
(y0, σ)
def B_X3_seekGuard_17 (x1 : Int) (x2 : Int) (σ : Sg) : (Bool × Sg) :=
B_X3_seekGuard_22 x1 x2 true σ
def F_X3_seekGuard (a1 : Int) (a2 : Int) (σ : Sg) : (Bool × Sg) :=
if a2 = 0 then
B_X3_seekGuard_17 a1 a2 σ
else
if (F_X4_get a1 4 σ) = 3 then
B_X3_seekGuard_17 a1 a2 σ
else
B_X3_seekGuard_22 a1 a2 false σ
theorem lk_X3_seekGuard (l : Launch) (d : Nat) (hd : 2 ≤ d) (a1 : Int) (a2 : Int) (σ : Sg) (q : (Bool × Sg)) (h : F_X3_seekGuard a1 a2 σ = q) : CT l d m_X3_seekGuard.2.1 m_X3_seekGuard.2.2.1 m_X3_seekGuard.2.2.2.1 m_X3_seekGuard.2.2.2.2 [.inr 37, .inl a1, .inl a2] (LAYC, σ) (some (.inl (b2i q.1))) (LAYC, q.2) := by
  obtain ⟨d, rfl⟩ : ∃ e, d = e + 1 := ⟨d - 1, by omega⟩
  have key : Go l m_X3_seekGuard (d + 1) LAYC (.inl (some (.inl (b2i q.1)))) q.2 0 [some (.inr 37), some (.inl a1), some (.inl a2), none] [] σ := by
    unfold F_X3_seekGuard at h
    have hB_X3_seekGuard_37 : ∀ (x1 : Int) (x3 : Bool) (y0 : Bool) (σ : Sg), B_X3_seekGuard_37 x1 x3 y0 σ = q → Go l m_X3_seekGuard (d + 1) LAYC (.inl (some (.inl (b2i q.1)))) q.2 37 [none, some (.inl x1), none, some (.inl (b2i x3))] [.inl (b2i y0), .inr 37] σ := by
      intro x1 x3 y0 σ h
      unfold B_X3_seekGuard_37 at h
      refine go_ops ok_X3_seekGuard_37_2 (L' := [none, some (.inl x1), none, some (.inl (b2i x3))]) (st' := [.inl 0, .inl x1, .inl (b2i y0), .inr 37]) (σ1 := σ) rfl ?_
      obtain ⟨q1, e2, h⟩ := bnd_inv h
      refine go_V (M1 := m_X3_setNext) (as := [.inl (b2i y0), .inl x1, .inl 0]) (st := []) (k := 37) (ci := 3) dc_X3_seekGuard_39 ln_3_94 im_X3_setNext (by decide) rfl rfl mk_X3_setNext rfl (Nat.le_of_ble_eq_true rfl) (Nat.le_refl _) (v := none) (σ1 := q1) (lk_X3_setNext l d (by omega) (b2i y0) x1 0 σ q1 e2.symm) _ rfl ?_
      refine go_ops ok_X3_seekGuard_42_1 (L' := [none, some (.inl x1), none, some (.inl (b2i x3))]) (st' := [.inl (b2i x3)]) (σ1 := q1) rfl ?_
      subst h
      exact go_zret (x := x3) dc_X3_seekGuard_43 rfl
    have hB_X3_seekGuard_22 : ∀ (x1 : Int) (x2 : Int) (y0 : Bool) (σ : Sg), B_X3_seekGuard_22 x1 x2 y0 σ = q → Go l m_X3_seekGuard (d + 1) LAYC (.inl (some (.inl (b2i q.1)))) q.2 22 [some (.inr 37), some (.inl x1), some (.inl x2), none] [.inl (b2i y0)] σ := by
      intro x1 x2 y0 σ h
      unfold B_X3_seekGuard_22 at h
      refine go_ops ok_X3_seekGuard_22_2 (L' := [some (.inr 37), some (.inl x1), some (.inl x2), some (.inl (b2i y0))]) (st' := [.inl (b2i y0)]) (σ1 := σ) rfl ?_
      refine go_ifb_eq dc_X3_seekGuard_24 (by rfl) (fun hc => ?_) (fun hc => ?_)
      · replace h := (if_neg hc).symm.trans h
        refine go_ops ok_X3_seekGuard_42_1 (L' := [some (.inr 37), some (.inl x1), some (.inl x2), some (.inl (b2i y0))]) (st' := [.inl (b2i y0)]) (σ1 := σ) rfl ?_
        subst h
        exact go_zret (x := y0) dc_X3_seekGuard_43 rfl
      · replace h := (if_pos hc).symm.trans h
        refine go_ops ok_X3_seekGuard_27_2 (L' := [some (.inr 37), some (.inl x1), some (.inl x2), some (.inl (b2i y0))]) (st' := [.inl x2, .inr 37]) (σ1 := σ) rfl ?_
        refine go_if_ne dc_X3_seekGuard_29 (by rfl) (fun hc => ?_) (fun hc => ?_)
        · replace h := (if_neg hc).symm.trans h
          refine go_ops ok_X3_seekGuard_36_1 (L' := [some (.inr 37), some (.inl x1), some (.inl x2), some (.inl (b2i y0))]) (st' := [.inl 1, .inr 37]) (σ1 := σ) rfl ?_
          refine go_wk (L' := [none, some (.inl x1), none, some (.inl (b2i y0))]) ⟨rfl, rfl, trivial⟩ ?_
          exact hB_X3_seekGuard_37 x1 y0 true σ h
        · replace h := (if_pos hc).symm.trans h
          refine go_ops ok_X3_seekGuard_32_1 (L' := [some (.inr 37), some (.inl x1), some (.inl x2), some (.inl (b2i y0))]) (st' := [.inl 0, .inr 37]) (σ1 := σ) rfl ?_
          refine go_goto dc_X3_seekGuard_33 (by rfl) ?_
          refine go_wk (L' := [none, some (.inl x1), none, some (.inl (b2i y0))]) ⟨rfl, rfl, trivial⟩ ?_
          exact hB_X3_seekGuard_37 x1 y0 false σ h
    have hB_X3_seekGuard_17 : ∀ (x1 : Int) (x2 : Int) (σ : Sg), B_X3_seekGuard_17 x1 x2 σ = q → Go l m_X3_seekGuard (d + 1) LAYC (.inl (some (.inl (b2i q.1)))) q.2 17 [some (.inr 37), some (.inl x1), some (.inl x2), none] [] σ := by
      intro x1 x2 σ h
      unfold B_X3_seekGuard_17 at h
      refine go_ops ok_X3_seekGuard_17_1 (L' := [some (.inr 37), some (.inl x1), some (.inl x2), none]) (st' := [.inl 1]) (σ1 := σ) rfl ?_
      refine go_goto dc_X3_seekGuard_18 (by rfl) ?_
      exact hB_X3_seekGuard_22 x1 x2 true σ h
    refine go_ops ok_X3_seekGuard_0_1 (L' := [some (.inr 37), some (.inl a1), some (.inl a2), none]) (st' := [.inl a2]) (σ1 := σ) rfl ?_
    refine go_if_eq dc_X3_seekGuard_1 (by rfl) (fun hc => ?_) (fun hc => ?_)
    · replace h := (if_pos hc).symm.trans h
      exact hB_X3_seekGuard_17 a1 a2 σ h
    · replace h := (if_neg hc).symm.trans h
      refine go_ops ok_X3_seekGuard_4_4 (L' := [some (.inr 37), some (.inl a1), some (.inl a2), none]) (st' := [.inl 4, .inl a1, .inr 24]) (σ1 := σ) rfl ?_
      refine go_V (M1 := m_X4_get) (as := [.inl a1, .inl 4]) (st := []) (k := 24) (ci := 4) dc_X3_seekGuard_10 ln_3_90 im_X4_get (by decide) rfl rfl mk_X4_get rfl (Nat.le_of_ble_eq_true rfl) (Nat.le_refl _) (v := (some (.inl (F_X4_get a1 4 σ)))) (σ1 := σ) (lk_X4_get l d (by omega) a1 4 σ _ rfl) _ rfl ?_
      refine go_ops ok_X3_seekGuard_13_1 (L' := [some (.inr 37), some (.inl a1), some (.inl a2), none]) (st' := [.inl 3, .inl (F_X4_get a1 4 σ)]) (σ1 := σ) rfl ?_
      refine go_icmp_ne dc_X3_seekGuard_14 (by rfl) (fun hc => ?_) (fun hc => ?_)
      · replace h := (if_neg hc).symm.trans h
        refine go_ops ok_X3_seekGuard_21_1 (L' := [some (.inr 37), some (.inl a1), some (.inl a2), none]) (st' := [.inl 0]) (σ1 := σ) rfl ?_
        exact hB_X3_seekGuard_22 a1 a2 false σ h
      · replace h := (if_pos hc).symm.trans h
        exact hB_X3_seekGuard_17 a1 a2 σ h
  have hf := go_ct (as := [.inr 37, .inl a1, .inl a2]) mk_X3_seekGuard (by rfl) (Nat.le_of_ble_eq_true rfl) key
  exact hf
theorem dc_X3_hasFailed_9 : decode m_X3_hasFailed.2.2.1 9 = .ok (.if_icmp .ne 7, 3) := by decide +kernel
theorem dc_X3_hasFailed_13 : decode m_X3_hasFailed.2.2.1 13 = .ok (.goto 4, 3) := by decide +kernel
theorem dc_X3_hasFailed_17 : decode m_X3_hasFailed.2.2.1 17 = .ok (.ireturn, 1) := by decide +kernel
theorem ok_X3_hasFailed_0_7 : oks m_X3_hasFailed.1 m_X3_hasFailed.2.2.1 0 [(.aload_n 0, 1, (0, 0, 0)), (.getfield 9, 3, (3, 4, 0)), (.iload_n 1, 1, (0, 0, 0)), (.ishr, 1, (0, 0, 0)), (.iconst 1, 1, (0, 0, 0)), (.iand, 1, (0, 0, 0)), (.iconst 1, 1, (0, 0, 0))] = true ∧ plen 0 [(.aload_n 0, 1, (0, 0, 0)), (.getfield 9, 3, (3, 4, 0)), (.iload_n 1, 1, (0, 0, 0)), (.ishr, 1, (0, 0, 0)), (.iconst 1, 1, (0, 0, 0)), (.iand, 1, (0, 0, 0)), (.iconst 1, 1, (0, 0, 0))] = 9 := by decide +kernel
theorem ok_X3_hasFailed_12_1 : oks m_X3_hasFailed.1 m_X3_hasFailed.2.2.1 12 [(.iconst 1, 1, (0, 0, 0))] = true ∧ plen 12 [(.iconst 1, 1, (0, 0, 0))] = 13 := by decide +kernel
theorem ok_X3_hasFailed_16_1 : oks m_X3_hasFailed.1 m_X3_hasFailed.2.2.1 16 [(.iconst 0, 1, (0, 0, 0))] = true ∧ plen 16 [(.iconst 0, 1, (0, 0, 0))] = 17 := by decide +kernel
def F_X3_hasFailed (a1 : Int) (σ : Sg) : Bool :=
if (jand (jshr (σ 37 4) a1) 1) = 1 then
true
else
false
theorem lk_X3_hasFailed (l : Launch) (d : Nat) (hd : 0 ≤ d) (a1 : Int) (σ : Sg) (q : Bool) (h : F_X3_hasFailed a1 σ = q) : CT l d m_X3_hasFailed.2.1 m_X3_hasFailed.2.2.1 m_X3_hasFailed.2.2.2.1 m_X3_hasFailed.2.2.2.2 [.inr 37, .inl a1] (LAYC, σ) (some (.inl (b2i q))) (LAYC, σ) := by
  skip
  have key : Go l m_X3_hasFailed d LAYC (.inl (some (.inl (b2i q)))) σ 0 [some (.inr 37), some (.inl a1)] [] σ := by
    unfold F_X3_hasFailed at h
    refine go_ops ok_X3_hasFailed_0_7 (L' := [some (.inr 37), some (.inl a1)]) (st' := [.inl 1, .inl (jand (jshr (σ 37 4) a1) 1)]) (σ1 := σ) rfl ?_
    refine go_icmp_ne dc_X3_hasFailed_9 (by rfl) (fun hc => ?_) (fun hc => ?_)
    · replace h := (if_neg hc).symm.trans h
      refine go_ops ok_X3_hasFailed_16_1 (L' := [some (.inr 37), some (.inl a1)]) (st' := [.inl 0]) (σ1 := σ) rfl ?_
      subst h
      exact go_zret (x := false) dc_X3_hasFailed_17 rfl
    · replace h := (if_pos hc).symm.trans h
      refine go_ops ok_X3_hasFailed_12_1 (L' := [some (.inr 37), some (.inl a1)]) (st' := [.inl 1]) (σ1 := σ) rfl ?_
      refine go_goto dc_X3_hasFailed_13 (by rfl) ?_
      subst h
      exact go_zret (x := true) dc_X3_hasFailed_17 rfl
  have hf := go_ct (as := [.inr 37, .inl a1]) mk_X3_hasFailed (by rfl) (Nat.le_of_ble_eq_true rfl) key
  exact hf
theorem dc_X3_ask_4 : decode m_X3_ask.2.2.1 4 = .ok (.invokevirtual 94, 3) := by decide +kernel
theorem dc_X3_ask_8 : decode m_X3_ask.2.2.1 8 = .ok (.ireturn, 1) := by decide +kernel
theorem ok_X3_ask_0_4 : oks m_X3_ask.1 m_X3_ask.2.2.1 0 [(.aload_n 0, 1, (0, 0, 0)), (.iload_n 1, 1, (0, 0, 0)), (.iload_n 2, 1, (0, 0, 0)), (.iload_n 3, 1, (0, 0, 0))] = true ∧ plen 0 [(.aload_n 0, 1, (0, 0, 0)), (.iload_n 1, 1, (0, 0, 0)), (.iload_n 2, 1, (0, 0, 0)), (.iload_n 3, 1, (0, 0, 0))] = 4 := by decide +kernel
theorem ok_X3_ask_7_1 : oks m_X3_ask.1 m_X3_ask.2.2.1 7 [(.iconst 2, 1, (0, 0, 0))] = true ∧ plen 7 [(.iconst 2, 1, (0, 0, 0))] = 8 := by decide +kernel
def F_X3_ask (a1 : Int) (a2 : Int) (a3 : Int) (σ : Sg) : (Int × Sg) :=
bnd (F_X3_setNext a1 a2 a3 σ) fun q1 =>
(2, q1)
theorem lk_X3_ask (l : Launch) (d : Nat) (hd : 1 ≤ d) (a1 : Int) (a2 : Int) (a3 : Int) (σ : Sg) (q : (Int × Sg)) (h : F_X3_ask a1 a2 a3 σ = q) : CT l d m_X3_ask.2.1 m_X3_ask.2.2.1 m_X3_ask.2.2.2.1 m_X3_ask.2.2.2.2 [.inr 37, .inl a1, .inl a2, .inl a3] (LAYC, σ) (some (.inl q.1)) (LAYC, q.2) := by
  obtain ⟨d, rfl⟩ : ∃ e, d = e + 1 := ⟨d - 1, by omega⟩
  have key : Go l m_X3_ask (d + 1) LAYC (.inl (some (.inl q.1))) q.2 0 [some (.inr 37), some (.inl a1), some (.inl a2), some (.inl a3)] [] σ := by
    unfold F_X3_ask at h
    refine go_ops ok_X3_ask_0_4 (L' := [some (.inr 37), some (.inl a1), some (.inl a2), some (.inl a3)]) (st' := [.inl a3, .inl a2, .inl a1, .inr 37]) (σ1 := σ) rfl ?_
    obtain ⟨q1, e2, h⟩ := bnd_inv h
    refine go_V (M1 := m_X3_setNext) (as := [.inl a1, .inl a2, .inl a3]) (st := []) (k := 37) (ci := 3) dc_X3_ask_4 ln_3_94 im_X3_setNext (by decide) rfl rfl mk_X3_setNext rfl (Nat.le_of_ble_eq_true rfl) (Nat.le_refl _) (v := none) (σ1 := q1) (lk_X3_setNext l d (by omega) a1 a2 a3 σ q1 e2.symm) _ rfl ?_
    refine go_ops ok_X3_ask_7_1 (L' := [some (.inr 37), some (.inl a1), some (.inl a2), some (.inl a3)]) (st' := [.inl 2]) (σ1 := q1) rfl ?_
    subst h
    exact go_iret dc_X3_ask_8 rfl
  have hf := go_ct (as := [.inr 37, .inl a1, .inl a2, .inl a3]) mk_X3_ask (by rfl) (Nat.le_of_ble_eq_true rfl) key
  exact hf
theorem dc_X5_admits_1 : decode m_X5_admits.2.2.1 1 = .ok (.ifCond .lt 29, 3) := by decide +kernel
theorem dc_X5_admits_7 : decode m_X5_admits.2.2.1 7 = .ok (.if_icmp .ge 23, 3) := by decide +kernel
theorem dc_X5_admits_15 : decode m_X5_admits.2.2.1 15 = .ok (.invokestatic 57, 3) := by decide +kernel
theorem dc_X5_admits_23 : decode m_X5_admits.2.2.1 23 = .ok (.if_icmp .ne 7, 3) := by decide +kernel
theorem dc_X5_admits_27 : decode m_X5_admits.2.2.1 27 = .ok (.goto 4, 3) := by decide +kernel
theorem dc_X5_admits_31 : decode m_X5_admits.2.2.1 31 = .ok (.ireturn, 1) := by decide +kernel
theorem ok_X5_admits_0_1 : oks m_X5_admits.1 m_X5_admits.2.2.1 0 [(.iload_n 2, 1, (0, 0, 0))] = true ∧ plen 0 [(.iload_n 2, 1, (0, 0, 0))] = 1 := by decide +kernel
theorem ok_X5_admits_4_2 : oks m_X5_admits.1 m_X5_admits.2.2.1 4 [(.iload_n 2, 1, (0, 0, 0)), (.bipush 10, 2, (0, 0, 0))] = true ∧ plen 4 [(.iload_n 2, 1, (0, 0, 0)), (.bipush 10, 2, (0, 0, 0))] = 7 := by decide +kernel
theorem ok_X5_admits_10_3 : oks m_X5_admits.1 m_X5_admits.2.2.1 10 [(.aload_n 0, 1, (0, 0, 0)), (.getfield 46, 3, (5, 11, 0)), (.iload_n 1, 1, (0, 0, 0))] = true ∧ plen 10 [(.aload_n 0, 1, (0, 0, 0)), (.getfield 46, 3, (5, 11, 0)), (.iload_n 1, 1, (0, 0, 0))] = 15 := by decide +kernel
theorem ok_X5_admits_18_5 : oks m_X5_admits.1 m_X5_admits.2.2.1 18 [(.iload_n 2, 1, (0, 0, 0)), (.ishr, 1, (0, 0, 0)), (.iconst 1, 1, (0, 0, 0)), (.iand, 1, (0, 0, 0)), (.iconst 1, 1, (0, 0, 0))] = true ∧ plen 18 [(.iload_n 2, 1, (0, 0, 0)), (.ishr, 1, (0, 0, 0)), (.iconst 1, 1, (0, 0, 0)), (.iand, 1, (0, 0, 0)), (.iconst 1, 1, (0, 0, 0))] = 23 := by decide +kernel
theorem ok_X5_admits_26_1 : oks m_X5_admits.1 m_X5_admits.2.2.1 26 [(.iconst 1, 1, (0, 0, 0))] = true ∧ plen 26 [(.iconst 1, 1, (0, 0, 0))] = 27 := by decide +kernel
theorem ok_X5_admits_30_1 : oks m_X5_admits.1 m_X5_admits.2.2.1 30 [(.iconst 0, 1, (0, 0, 0))] = true ∧ plen 30 [(.iconst 0, 1, (0, 0, 0))] = 31 := by decide +kernel
def F_X5_admits (a1 : Int) (a2 : Int) (σ : Sg) : Bool :=
if a2 < 0 then
false
else
if 10 ≤ a2 then
false
else
if (jand (jshr (rdD 0 σ 21 60 a1) a2) 1) = 1 then
true
else
false
theorem lk_X5_admits (l : Launch) (d : Nat) (hd : 1 ≤ d) (a1 : Int) (a2 : Int) (σ : Sg) (q : Bool) (h : F_X5_admits a1 a2 σ = q) : CT l d m_X5_admits.2.1 m_X5_admits.2.2.1 m_X5_admits.2.2.2.1 m_X5_admits.2.2.2.2 [.inr 10, .inl a1, .inl a2] (LAYC, σ) (some (.inl (b2i q))) (LAYC, σ) := by
  obtain ⟨d, rfl⟩ : ∃ e, d = e + 1 := ⟨d - 1, by omega⟩
  have key : Go l m_X5_admits (d + 1) LAYC (.inl (some (.inl (b2i q)))) σ 0 [some (.inr 10), some (.inl a1), some (.inl a2)] [] σ := by
    unfold F_X5_admits at h
    refine go_ops ok_X5_admits_0_1 (L' := [some (.inr 10), some (.inl a1), some (.inl a2)]) (st' := [.inl a2]) (σ1 := σ) rfl ?_
    refine go_if_lt dc_X5_admits_1 (by rfl) (fun hc => ?_) (fun hc => ?_)
    · replace h := (if_pos hc).symm.trans h
      refine go_ops ok_X5_admits_30_1 (L' := [some (.inr 10), some (.inl a1), some (.inl a2)]) (st' := [.inl 0]) (σ1 := σ) rfl ?_
      subst h
      exact go_zret (x := false) dc_X5_admits_31 rfl
    · replace h := (if_neg hc).symm.trans h
      refine go_ops ok_X5_admits_4_2 (L' := [some (.inr 10), some (.inl a1), some (.inl a2)]) (st' := [.inl 10, .inl a2]) (σ1 := σ) rfl ?_
      refine go_icmp_ge dc_X5_admits_7 (by rfl) (fun hc => ?_) (fun hc => ?_)
      · replace h := (if_pos hc).symm.trans h
        refine go_ops ok_X5_admits_30_1 (L' := [some (.inr 10), some (.inl a1), some (.inl a2)]) (st' := [.inl 0]) (σ1 := σ) rfl ?_
        subst h
        exact go_zret (x := false) dc_X5_admits_31 rfl
      · replace h := (if_neg hc).symm.trans h
        refine go_ops ok_X5_admits_10_3 (L' := [some (.inr 10), some (.inl a1), some (.inl a2)]) (st' := [.inl a1, .inr 21]) (σ1 := σ) rfl ?_
        refine go_SN (M1 := m_X10_atOrZero) (as := [.inr 21, .inl a1]) (st := []) dc_X5_admits_15 ln_5_57 sm_X10_atOrZero mk_X10_atOrZero rfl (Nat.le_of_ble_eq_true rfl) (Nat.le_refl _) (v := some (.inl (rdD 0 σ 21 60 a1))) (σ1 := σ) (lk_X10_atOrZero l d LAYC 21 60 rfl σ _) _ rfl ?_
        refine go_ops ok_X5_admits_18_5 (L' := [some (.inr 10), some (.inl a1), some (.inl a2)]) (st' := [.inl 1, .inl (jand (jshr (rdD 0 σ 21 60 a1) a2) 1)]) (σ1 := σ) rfl ?_
        refine go_icmp_ne dc_X5_admits_23 (by rfl) (fun hc => ?_) (fun hc => ?_)
        · replace h := (if_neg hc).symm.trans h
          refine go_ops ok_X5_admits_30_1 (L' := [some (.inr 10), some (.inl a1), some (.inl a2)]) (st' := [.inl 0]) (σ1 := σ) rfl ?_
          subst h
          exact go_zret (x := false) dc_X5_admits_31 rfl
        · replace h := (if_pos hc).symm.trans h
          refine go_ops ok_X5_admits_26_1 (L' := [some (.inr 10), some (.inl a1), some (.inl a2)]) (st' := [.inl 1]) (σ1 := σ) rfl ?_
          refine go_goto dc_X5_admits_27 (by rfl) ?_
          subst h
          exact go_zret (x := true) dc_X5_admits_31 rfl
  have hf := go_ct (as := [.inr 10, .inl a1, .inl a2]) mk_X5_admits (by rfl) (Nat.le_of_ble_eq_true rfl) key
  exact hf
theorem dc_X5_kindOf_5 : decode m_X5_kindOf.2.2.1 5 = .ok (.invokestatic 53, 3) := by decide +kernel
theorem dc_X5_kindOf_8 : decode m_X5_kindOf.2.2.1 8 = .ok (.ireturn, 1) := by decide +kernel
theorem ok_X5_kindOf_0_3 : oks m_X5_kindOf.1 m_X5_kindOf.2.2.1 0 [(.aload_n 0, 1, (0, 0, 0)), (.getfield 19, 3, (5, 2, 0)), (.iload_n 1, 1, (0, 0, 0))] = true ∧ plen 0 [(.aload_n 0, 1, (0, 0, 0)), (.getfield 19, 3, (5, 2, 0)), (.iload_n 1, 1, (0, 0, 0))] = 5 := by decide +kernel
def F_X5_kindOf (a1 : Int) (σ : Sg) : Int :=
rdD (-1) σ 12 60 a1
theorem lk_X5_kindOf (l : Launch) (d : Nat) (hd : 1 ≤ d) (a1 : Int) (σ : Sg) (q : Int) (h : F_X5_kindOf a1 σ = q) : CT l d m_X5_kindOf.2.1 m_X5_kindOf.2.2.1 m_X5_kindOf.2.2.2.1 m_X5_kindOf.2.2.2.2 [.inr 10, .inl a1] (LAYC, σ) (some (.inl q)) (LAYC, σ) := by
  obtain ⟨d, rfl⟩ : ∃ e, d = e + 1 := ⟨d - 1, by omega⟩
  have key : Go l m_X5_kindOf (d + 1) LAYC (.inl (some (.inl q))) σ 0 [some (.inr 10), some (.inl a1)] [] σ := by
    unfold F_X5_kindOf at h
    refine go_ops ok_X5_kindOf_0_3 (L' := [some (.inr 10), some (.inl a1)]) (st' := [.inl a1, .inr 12]) (σ1 := σ) rfl ?_
    refine go_SN (M1 := m_X10_at) (as := [.inr 12, .inl a1]) (st := []) dc_X5_kindOf_5 ln_5_53 sm_X10_at mk_X10_at rfl (Nat.le_of_ble_eq_true rfl) (Nat.le_refl _) (v := some (.inl (rdD (-1) σ 12 60 a1))) (σ1 := σ) (lk_X10_at l d LAYC 12 60 rfl σ _) _ rfl ?_
    subst h
    exact go_iret dc_X5_kindOf_8 rfl
  have hf := go_ct (as := [.inr 10, .inl a1]) mk_X5_kindOf (by rfl) (Nat.le_of_ble_eq_true rfl) key
  exact hf
theorem dc_X5_accepts_5 : decode m_X5_accepts.2.2.1 5 = .ok (.invokestatic 53, 3) := by decide +kernel
theorem dc_X5_accepts_9 : decode m_X5_accepts.2.2.1 9 = .ok (.if_icmp .gt 19, 3) := by decide +kernel
theorem dc_X5_accepts_18 : decode m_X5_accepts.2.2.1 18 = .ok (.invokestatic 53, 3) := by decide +kernel
theorem dc_X5_accepts_21 : decode m_X5_accepts.2.2.1 21 = .ok (.if_icmp .gt 7, 3) := by decide +kernel
theorem dc_X5_accepts_25 : decode m_X5_accepts.2.2.1 25 = .ok (.goto 4, 3) := by decide +kernel
theorem dc_X5_accepts_29 : decode m_X5_accepts.2.2.1 29 = .ok (.ireturn, 1) := by decide +kernel
theorem ok_X5_accepts_0_3 : oks m_X5_accepts.1 m_X5_accepts.2.2.1 0 [(.aload_n 0, 1, (0, 0, 0)), (.getfield 22, 3, (5, 3, 0)), (.iload_n 1, 1, (0, 0, 0))] = true ∧ plen 0 [(.aload_n 0, 1, (0, 0, 0)), (.getfield 22, 3, (5, 3, 0)), (.iload_n 1, 1, (0, 0, 0))] = 5 := by decide +kernel
theorem ok_X5_accepts_8_1 : oks m_X5_accepts.1 m_X5_accepts.2.2.1 8 [(.iload_n 2, 1, (0, 0, 0))] = true ∧ plen 8 [(.iload_n 2, 1, (0, 0, 0))] = 9 := by decide +kernel
theorem ok_X5_accepts_12_4 : oks m_X5_accepts.1 m_X5_accepts.2.2.1 12 [(.iload_n 2, 1, (0, 0, 0)), (.aload_n 0, 1, (0, 0, 0)), (.getfield 25, 3, (5, 4, 0)), (.iload_n 1, 1, (0, 0, 0))] = true ∧ plen 12 [(.iload_n 2, 1, (0, 0, 0)), (.aload_n 0, 1, (0, 0, 0)), (.getfield 25, 3, (5, 4, 0)), (.iload_n 1, 1, (0, 0, 0))] = 18 := by decide +kernel
theorem ok_X5_accepts_24_1 : oks m_X5_accepts.1 m_X5_accepts.2.2.1 24 [(.iconst 1, 1, (0, 0, 0))] = true ∧ plen 24 [(.iconst 1, 1, (0, 0, 0))] = 25 := by decide +kernel
theorem ok_X5_accepts_28_1 : oks m_X5_accepts.1 m_X5_accepts.2.2.1 28 [(.iconst 0, 1, (0, 0, 0))] = true ∧ plen 28 [(.iconst 0, 1, (0, 0, 0))] = 29 := by decide +kernel
def F_X5_accepts (a1 : Int) (a2 : Int) (σ : Sg) : Bool :=
if a2 < (rdD (-1) σ 13 60 a1) then
false
else
if (rdD (-1) σ 14 60 a1) < a2 then
false
else
true
theorem lk_X5_accepts (l : Launch) (d : Nat) (hd : 1 ≤ d) (a1 : Int) (a2 : Int) (σ : Sg) (q : Bool) (h : F_X5_accepts a1 a2 σ = q) : CT l d m_X5_accepts.2.1 m_X5_accepts.2.2.1 m_X5_accepts.2.2.2.1 m_X5_accepts.2.2.2.2 [.inr 10, .inl a1, .inl a2] (LAYC, σ) (some (.inl (b2i q))) (LAYC, σ) := by
  obtain ⟨d, rfl⟩ : ∃ e, d = e + 1 := ⟨d - 1, by omega⟩
  have key : Go l m_X5_accepts (d + 1) LAYC (.inl (some (.inl (b2i q)))) σ 0 [some (.inr 10), some (.inl a1), some (.inl a2)] [] σ := by
    unfold F_X5_accepts at h
    refine go_ops ok_X5_accepts_0_3 (L' := [some (.inr 10), some (.inl a1), some (.inl a2)]) (st' := [.inl a1, .inr 13]) (σ1 := σ) rfl ?_
    refine go_SN (M1 := m_X10_at) (as := [.inr 13, .inl a1]) (st := []) dc_X5_accepts_5 ln_5_53 sm_X10_at mk_X10_at rfl (Nat.le_of_ble_eq_true rfl) (Nat.le_refl _) (v := some (.inl (rdD (-1) σ 13 60 a1))) (σ1 := σ) (lk_X10_at l d LAYC 13 60 rfl σ _) _ rfl ?_
    refine go_ops ok_X5_accepts_8_1 (L' := [some (.inr 10), some (.inl a1), some (.inl a2)]) (st' := [.inl a2, .inl (rdD (-1) σ 13 60 a1)]) (σ1 := σ) rfl ?_
    refine go_icmp_gt dc_X5_accepts_9 (by rfl) (fun hc => ?_) (fun hc => ?_)
    · replace h := (if_pos hc).symm.trans h
      refine go_ops ok_X5_accepts_28_1 (L' := [some (.inr 10), some (.inl a1), some (.inl a2)]) (st' := [.inl 0]) (σ1 := σ) rfl ?_
      subst h
      exact go_zret (x := false) dc_X5_accepts_29 rfl
    · replace h := (if_neg hc).symm.trans h
      refine go_ops ok_X5_accepts_12_4 (L' := [some (.inr 10), some (.inl a1), some (.inl a2)]) (st' := [.inl a1, .inr 14, .inl a2]) (σ1 := σ) rfl ?_
      refine go_SN (M1 := m_X10_at) (as := [.inr 14, .inl a1]) (st := [.inl a2]) dc_X5_accepts_18 ln_5_53 sm_X10_at mk_X10_at rfl (Nat.le_of_ble_eq_true rfl) (Nat.le_refl _) (v := some (.inl (rdD (-1) σ 14 60 a1))) (σ1 := σ) (lk_X10_at l d LAYC 14 60 rfl σ _) _ rfl ?_
      refine go_icmp_gt dc_X5_accepts_21 (by rfl) (fun hc => ?_) (fun hc => ?_)
      · replace h := (if_pos hc).symm.trans h
        refine go_ops ok_X5_accepts_28_1 (L' := [some (.inr 10), some (.inl a1), some (.inl a2)]) (st' := [.inl 0]) (σ1 := σ) rfl ?_
        subst h
        exact go_zret (x := false) dc_X5_accepts_29 rfl
      · replace h := (if_neg hc).symm.trans h
        refine go_ops ok_X5_accepts_24_1 (L' := [some (.inr 10), some (.inl a1), some (.inl a2)]) (st' := [.inl 1]) (σ1 := σ) rfl ?_
        refine go_goto dc_X5_accepts_25 (by rfl) ?_
        subst h
        exact go_zret (x := true) dc_X5_accepts_29 rfl
  have hf := go_ct (as := [.inr 10, .inl a1, .inl a2]) mk_X5_accepts (by rfl) (Nat.le_of_ble_eq_true rfl) key
  exact hf
theorem dc_X5_offset_5 : decode m_X5_offset.2.2.1 5 = .ok (.invokestatic 53, 3) := by decide +kernel
theorem dc_X5_offset_10 : decode m_X5_offset.2.2.1 10 = .ok (.if_icmp .ne 16, 3) := by decide +kernel
theorem dc_X5_offset_19 : decode m_X5_offset.2.2.1 19 = .ok (.invokestatic 53, 3) := by decide +kernel
theorem dc_X5_offset_23 : decode m_X5_offset.2.2.1 23 = .ok (.goto 4, 3) := by decide +kernel
theorem dc_X5_offset_27 : decode m_X5_offset.2.2.1 27 = .ok (.ireturn, 1) := by decide +kernel
theorem ok_X5_offset_0_3 : oks m_X5_offset.1 m_X5_offset.2.2.1 0 [(.aload_n 0, 1, (0, 0, 0)), (.getfield 15, 3, (5, 1, 0)), (.iload_n 1, 1, (0, 0, 0))] = true ∧ plen 0 [(.aload_n 0, 1, (0, 0, 0)), (.getfield 15, 3, (5, 1, 0)), (.iload_n 1, 1, (0, 0, 0))] = 5 := by decide +kernel
theorem ok_X5_offset_8_1 : oks m_X5_offset.1 m_X5_offset.2.2.1 8 [(.bipush 7, 2, (0, 0, 0))] = true ∧ plen 8 [(.bipush 7, 2, (0, 0, 0))] = 10 := by decide +kernel
theorem ok_X5_offset_13_4 : oks m_X5_offset.1 m_X5_offset.2.2.1 13 [(.iload_n 2, 1, (0, 0, 0)), (.aload_n 0, 1, (0, 0, 0)), (.getfield 22, 3, (5, 3, 0)), (.iload_n 1, 1, (0, 0, 0))] = true ∧ plen 13 [(.iload_n 2, 1, (0, 0, 0)), (.aload_n 0, 1, (0, 0, 0)), (.getfield 22, 3, (5, 3, 0)), (.iload_n 1, 1, (0, 0, 0))] = 19 := by decide +kernel
theorem ok_X5_offset_22_1 : oks m_X5_offset.1 m_X5_offset.2.2.1 22 [(.isub, 1, (0, 0, 0))] = true ∧ plen 22 [(.isub, 1, (0, 0, 0))] = 23 := by decide +kernel
theorem ok_X5_offset_26_1 : oks m_X5_offset.1 m_X5_offset.2.2.1 26 [(.iconst 0, 1, (0, 0, 0))] = true ∧ plen 26 [(.iconst 0, 1, (0, 0, 0))] = 27 := by decide +kernel
def F_X5_offset (a1 : Int) (a2 : Int) (σ : Sg) : Int :=
if (rdD (-1) σ 11 60 a1) = 7 then
wrap (a2 - (rdD (-1) σ 13 60 a1))
else
0
theorem lk_X5_offset (l : Launch) (d : Nat) (hd : 1 ≤ d) (a1 : Int) (a2 : Int) (σ : Sg) (q : Int) (h : F_X5_offset a1 a2 σ = q) : CT l d m_X5_offset.2.1 m_X5_offset.2.2.1 m_X5_offset.2.2.2.1 m_X5_offset.2.2.2.2 [.inr 10, .inl a1, .inl a2] (LAYC, σ) (some (.inl q)) (LAYC, σ) := by
  obtain ⟨d, rfl⟩ : ∃ e, d = e + 1 := ⟨d - 1, by omega⟩
  have key : Go l m_X5_offset (d + 1) LAYC (.inl (some (.inl q))) σ 0 [some (.inr 10), some (.inl a1), some (.inl a2)] [] σ := by
    unfold F_X5_offset at h
    refine go_ops ok_X5_offset_0_3 (L' := [some (.inr 10), some (.inl a1), some (.inl a2)]) (st' := [.inl a1, .inr 11]) (σ1 := σ) rfl ?_
    refine go_SN (M1 := m_X10_at) (as := [.inr 11, .inl a1]) (st := []) dc_X5_offset_5 ln_5_53 sm_X10_at mk_X10_at rfl (Nat.le_of_ble_eq_true rfl) (Nat.le_refl _) (v := some (.inl (rdD (-1) σ 11 60 a1))) (σ1 := σ) (lk_X10_at l d LAYC 11 60 rfl σ _) _ rfl ?_
    refine go_ops ok_X5_offset_8_1 (L' := [some (.inr 10), some (.inl a1), some (.inl a2)]) (st' := [.inl 7, .inl (rdD (-1) σ 11 60 a1)]) (σ1 := σ) rfl ?_
    refine go_icmp_ne dc_X5_offset_10 (by rfl) (fun hc => ?_) (fun hc => ?_)
    · replace h := (if_neg hc).symm.trans h
      refine go_ops ok_X5_offset_26_1 (L' := [some (.inr 10), some (.inl a1), some (.inl a2)]) (st' := [.inl 0]) (σ1 := σ) rfl ?_
      subst h
      exact go_iret dc_X5_offset_27 rfl
    · replace h := (if_pos hc).symm.trans h
      refine go_ops ok_X5_offset_13_4 (L' := [some (.inr 10), some (.inl a1), some (.inl a2)]) (st' := [.inl a1, .inr 13, .inl a2]) (σ1 := σ) rfl ?_
      refine go_SN (M1 := m_X10_at) (as := [.inr 13, .inl a1]) (st := [.inl a2]) dc_X5_offset_19 ln_5_53 sm_X10_at mk_X10_at rfl (Nat.le_of_ble_eq_true rfl) (Nat.le_refl _) (v := some (.inl (rdD (-1) σ 13 60 a1))) (σ1 := σ) (lk_X10_at l d LAYC 13 60 rfl σ _) _ rfl ?_
      refine go_ops ok_X5_offset_22_1 (L' := [some (.inr 10), some (.inl a1), some (.inl a2)]) (st' := [.inl (wrap (a2 - (rdD (-1) σ 13 60 a1)))]) (σ1 := σ) rfl ?_
      refine go_goto dc_X5_offset_23 (by rfl) ?_
      subst h
      exact go_iret dc_X5_offset_27 rfl
  have hf := go_ct (as := [.inr 10, .inl a1, .inl a2]) mk_X5_offset (by rfl) (Nat.le_of_ble_eq_true rfl) key
  exact hf
theorem dc_X3_tryHead_5 : decode m_X3_tryHead.2.2.1 5 = .ok (.invokestatic 73, 3) := by decide +kernel
theorem dc_X3_tryHead_13 : decode m_X3_tryHead.2.2.1 13 = .ok (.if_icmp .ne 18, 3) := by decide +kernel
theorem dc_X3_tryHead_24 : decode m_X3_tryHead.2.2.1 24 = .ok (.invokevirtual 141, 3) := by decide +kernel
theorem dc_X3_tryHead_27 : decode m_X3_tryHead.2.2.1 27 = .ok (.invokevirtual 131, 3) := by decide +kernel
theorem dc_X3_tryHead_30 : decode m_X3_tryHead.2.2.1 30 = .ok (.ireturn, 1) := by decide +kernel
theorem dc_X3_tryHead_38 : decode m_X3_tryHead.2.2.1 38 = .ok (.invokevirtual 144, 3) := by decide +kernel
theorem dc_X3_tryHead_41 : decode m_X3_tryHead.2.2.1 41 = .ok (.ifCond .ne 5, 3) := by decide +kernel
theorem dc_X3_tryHead_45 : decode m_X3_tryHead.2.2.1 45 = .ok (.ireturn, 1) := by decide +kernel
theorem dc_X3_tryHead_53 : decode m_X3_tryHead.2.2.1 53 = .ok (.invokevirtual 147, 3) := by decide +kernel
theorem dc_X3_tryHead_68 : decode m_X3_tryHead.2.2.1 68 = .ok (.invokevirtual 150, 3) := by decide +kernel
theorem dc_X3_tryHead_71 : decode m_X3_tryHead.2.2.1 71 = .ok (.if_icmp .ge 46, 3) := by decide +kernel
theorem dc_X3_tryHead_82 : decode m_X3_tryHead.2.2.1 82 = .ok (.invokevirtual 124, 3) := by decide +kernel
theorem dc_X3_tryHead_91 : decode m_X3_tryHead.2.2.1 91 = .ok (.invokestatic 153, 3) := by decide +kernel
theorem dc_X3_tryHead_97 : decode m_X3_tryHead.2.2.1 97 = .ok (.invokevirtual 112, 3) := by decide +kernel
theorem dc_X3_tryHead_105 : decode m_X3_tryHead.2.2.1 105 = .ok (.if_icmp .eq 6, 3) := by decide +kernel
theorem dc_X3_tryHead_110 : decode m_X3_tryHead.2.2.1 110 = .ok (.ireturn, 1) := by decide +kernel
theorem dc_X3_tryHead_114 : decode m_X3_tryHead.2.2.1 114 = .ok (.goto (-53), 3) := by decide +kernel
theorem dc_X3_tryHead_118 : decode m_X3_tryHead.2.2.1 118 = .ok (.ireturn, 1) := by decide +kernel
theorem ok_X3_tryHead_0_3 : oks m_X3_tryHead.1 m_X3_tryHead.2.2.1 0 [(.aload_n 0, 1, (0, 0, 0)), (.getfield 27, 3, (3, 9, 0)), (.iload_n 2, 1, (0, 0, 0))] = true ∧ plen 0 [(.aload_n 0, 1, (0, 0, 0)), (.getfield 27, 3, (3, 9, 0)), (.iload_n 2, 1, (0, 0, 0))] = 5 := by decide +kernel
theorem ok_X3_tryHead_8_3 : oks m_X3_tryHead.1 m_X3_tryHead.2.2.1 8 [(.istore 4, 2, (0, 0, 0)), (.iload 4, 2, (0, 0, 0)), (.iconst (-1), 1, (0, 0, 0))] = true ∧ plen 8 [(.istore 4, 2, (0, 0, 0)), (.iload 4, 2, (0, 0, 0)), (.iconst (-1), 1, (0, 0, 0))] = 13 := by decide +kernel
theorem ok_X3_tryHead_16_6 : oks m_X3_tryHead.1 m_X3_tryHead.2.2.1 16 [(.aload_n 0, 1, (0, 0, 0)), (.iconst 3, 1, (0, 0, 0)), (.iload_n 2, 1, (0, 0, 0)), (.aload_n 0, 1, (0, 0, 0)), (.getfield 47, 3, (3, 1, 0)), (.iload_n 1, 1, (0, 0, 0))] = true ∧ plen 16 [(.aload_n 0, 1, (0, 0, 0)), (.iconst 3, 1, (0, 0, 0)), (.iload_n 2, 1, (0, 0, 0)), (.aload_n 0, 1, (0, 0, 0)), (.getfield 47, 3, (3, 1, 0)), (.iload_n 1, 1, (0, 0, 0))] = 24 := by decide +kernel
theorem ok_X3_tryHead_31_4 : oks m_X3_tryHead.1 m_X3_tryHead.2.2.1 31 [(.aload_n 0, 1, (0, 0, 0)), (.getfield 47, 3, (3, 1, 0)), (.iload_n 1, 1, (0, 0, 0)), (.iload 4, 2, (0, 0, 0))] = true ∧ plen 31 [(.aload_n 0, 1, (0, 0, 0)), (.getfield 47, 3, (3, 1, 0)), (.iload_n 1, 1, (0, 0, 0)), (.iload 4, 2, (0, 0, 0))] = 38 := by decide +kernel
theorem ok_X3_tryHead_44_1 : oks m_X3_tryHead.1 m_X3_tryHead.2.2.1 44 [(.iconst 0, 1, (0, 0, 0))] = true ∧ plen 44 [(.iconst 0, 1, (0, 0, 0))] = 45 := by decide +kernel
theorem ok_X3_tryHead_46_4 : oks m_X3_tryHead.1 m_X3_tryHead.2.2.1 46 [(.aload_n 0, 1, (0, 0, 0)), (.getfield 47, 3, (3, 1, 0)), (.iload_n 1, 1, (0, 0, 0)), (.iload 4, 2, (0, 0, 0))] = true ∧ plen 46 [(.aload_n 0, 1, (0, 0, 0)), (.getfield 47, 3, (3, 1, 0)), (.iload_n 1, 1, (0, 0, 0)), (.iload 4, 2, (0, 0, 0))] = 53 := by decide +kernel
theorem ok_X3_tryHead_56_3 : oks m_X3_tryHead.1 m_X3_tryHead.2.2.1 56 [(.istore 5, 2, (0, 0, 0)), (.iconst 0, 1, (0, 0, 0)), (.istore 6, 2, (0, 0, 0))] = true ∧ plen 56 [(.istore 5, 2, (0, 0, 0)), (.iconst 0, 1, (0, 0, 0)), (.istore 6, 2, (0, 0, 0))] = 61 := by decide +kernel
theorem ok_X3_tryHead_61_4 : oks m_X3_tryHead.1 m_X3_tryHead.2.2.1 61 [(.iload 6, 2, (0, 0, 0)), (.aload_n 0, 1, (0, 0, 0)), (.getfield 47, 3, (3, 1, 0)), (.iload_n 1, 1, (0, 0, 0))] = true ∧ plen 61 [(.iload 6, 2, (0, 0, 0)), (.aload_n 0, 1, (0, 0, 0)), (.getfield 47, 3, (3, 1, 0)), (.iload_n 1, 1, (0, 0, 0))] = 68 := by decide +kernel
theorem ok_X3_tryHead_74_5 : oks m_X3_tryHead.1 m_X3_tryHead.2.2.1 74 [(.aload_n 0, 1, (0, 0, 0)), (.aload_n 0, 1, (0, 0, 0)), (.getfield 47, 3, (3, 1, 0)), (.iload_n 1, 1, (0, 0, 0)), (.iload 6, 2, (0, 0, 0))] = true ∧ plen 74 [(.aload_n 0, 1, (0, 0, 0)), (.aload_n 0, 1, (0, 0, 0)), (.getfield 47, 3, (3, 1, 0)), (.iload_n 1, 1, (0, 0, 0)), (.iload 6, 2, (0, 0, 0))] = 82 := by decide +kernel
theorem ok_X3_tryHead_85_4 : oks m_X3_tryHead.1 m_X3_tryHead.2.2.1 85 [(.iload_n 2, 1, (0, 0, 0)), (.iload 5, 2, (0, 0, 0)), (.iload 6, 2, (0, 0, 0)), (.iadd, 1, (0, 0, 0))] = true ∧ plen 85 [(.iload_n 2, 1, (0, 0, 0)), (.iload 5, 2, (0, 0, 0)), (.iload 6, 2, (0, 0, 0)), (.iadd, 1, (0, 0, 0))] = 91 := by decide +kernel
theorem ok_X3_tryHead_94_3 : oks m_X3_tryHead.1 m_X3_tryHead.2.2.1 94 [(.iload_n 3, 1, (0, 0, 0)), (.iconst 1, 1, (0, 0, 0)), (.iadd, 1, (0, 0, 0))] = true ∧ plen 94 [(.iload_n 3, 1, (0, 0, 0)), (.iconst 1, 1, (0, 0, 0)), (.iadd, 1, (0, 0, 0))] = 97 := by decide +kernel
theorem ok_X3_tryHead_100_3 : oks m_X3_tryHead.1 m_X3_tryHead.2.2.1 100 [(.istore 7, 2, (0, 0, 0)), (.iload 7, 2, (0, 0, 0)), (.iconst 1, 1, (0, 0, 0))] = true ∧ plen 100 [(.istore 7, 2, (0, 0, 0)), (.iload 7, 2, (0, 0, 0)), (.iconst 1, 1, (0, 0, 0))] = 105 := by decide +kernel
theorem ok_X3_tryHead_108_1 : oks m_X3_tryHead.1 m_X3_tryHead.2.2.1 108 [(.iload 7, 2, (0, 0, 0))] = true ∧ plen 108 [(.iload 7, 2, (0, 0, 0))] = 110 := by decide +kernel
theorem ok_X3_tryHead_111_1 : oks m_X3_tryHead.1 m_X3_tryHead.2.2.1 111 [(.iinc 6 1, 3, (0, 0, 0))] = true ∧ plen 111 [(.iinc 6 1, 3, (0, 0, 0))] = 114 := by decide +kernel
theorem ok_X3_tryHead_117_1 : oks m_X3_tryHead.1 m_X3_tryHead.2.2.1 117 [(.iconst 1, 1, (0, 0, 0))] = true ∧ plen 117 [(.iconst 1, 1, (0, 0, 0))] = 118 := by decide +kernel
def L_X3_tryHead_61 (rec : Int → Int → Int → Sg → Option (Int × Sg)) (x1 : Int) (x2 : Int) (x3 : Int) (x5 : Int) (x6 : Int) (σ : Sg) : Option ((Int × Sg) ⊕ (Sg ⊕ (Int × Sg))) :=
if (F_X5_partCount x1 σ) ≤ x6 then
some (.inr (.inl σ))
else
(rec (F_X5_partOf x1 x6 σ) (F_X10_inner x2 (wrap (x5 + x6))) (wrap (x3 + 1)) σ).bind fun q5 =>
if q5.1 = 1 then
some (.inl (wrap (x6 + 1), q5.2))
else
some (.inr (.inr (q5.1, q5.2)))
def G_X3_tryHead (rec : Int → Int → Int → Sg → Option (Int × Sg)) (a1 : Int) (a2 : Int) (a3 : Int) (σ : Sg) : Option (Int × Sg) :=
bnd (rdD (-1) σ 38 469 a2) fun v1 =>
if v1 = (-1) then
bnd (F_X3_ask 3 a2 (F_X5_kindOf a1 σ) σ) fun q11 =>
some (q11.1, q11.2)
else
if (F_X5_accepts a1 v1 σ) = true then
bnd (F_X5_offset a1 v1 σ) fun v3 =>
(iter (fun a : (Int × Sg) => L_X3_tryHead_61 rec a1 a2 a3 v3 a.1 a.2) 3000 (0, σ)).bind fun y7 => Sum.elim (fun z9 =>
some (1, z9)) (fun r10 => some r10) y7
else
some (0, σ)
theorem lk_X3_tryHead (l : Launch) (Dr : Nat) (rec : Int → Int → Int → Sg → Option (Int × Sg)) (hrec : ∀ d, Dr ≤ d → ∀ (a1 : Int) (a2 : Int) (a3 : Int) (σ : Sg) (q : (Int × Sg)), rec a1 a2 a3 σ = some q → CT l d m_X3_tryAt.2.1 m_X3_tryAt.2.2.1 m_X3_tryAt.2.2.2.1 m_X3_tryAt.2.2.2.2 [.inr 37, .inl a1, .inl a2, .inl a3] (LAYC, σ) (some (.inl q.1)) (LAYC, q.2)) (d : Nat) (hd : Dr + 1 ≤ d) (hdB : 3 ≤ d) (a1 : Int) (a2 : Int) (a3 : Int) (σ : Sg) (q : (Int × Sg)) (h : G_X3_tryHead rec a1 a2 a3 σ = some q) : CT l d m_X3_tryHead.2.1 m_X3_tryHead.2.2.1 m_X3_tryHead.2.2.2.1 m_X3_tryHead.2.2.2.2 [.inr 37, .inl a1, .inl a2, .inl a3] (LAYC, σ) (some (.inl q.1)) (LAYC, q.2) := by
  obtain ⟨d, rfl⟩ : ∃ e, d = e + 1 := ⟨d - 1, by omega⟩
  have key : Go l m_X3_tryHead (d + 1) LAYC (.inl (some (.inl q.1))) q.2 0 [some (.inr 37), some (.inl a1), some (.inl a2), some (.inl a3), none, none, none, none] [] σ := by
    unfold G_X3_tryHead at h
    have hL_X3_tryHead_61 : ∀ (x1 : Int) (x2 : Int) (x3 : Int) (x5 : Int) (n : Nat) (a : (Int × Sg)) (y : (Sg ⊕ (Int × Sg))), iter (fun a : (Int × Sg) => L_X3_tryHead_61 rec x1 x2 x3 x5 a.1 a.2) n a = some y → (Sum.elim (fun y : Sg => Go l m_X3_tryHead (d + 1) LAYC (.inl (some (.inl q.1))) q.2 117 [none, none, none, none, none, none, none, none] [] y) (fun r : (Int × Sg) => r = q)) y → (fun a : (Int × Sg) => Go l m_X3_tryHead (d + 1) LAYC (.inl (some (.inl q.1))) q.2 61 [some (.inr 37), some (.inl x1), some (.inl x2), some (.inl x3), none, some (.inl x5), some (.inl a.1), none] [] a.2) a := by
      intro x1 x2 x3 x5
      refine go_iter (G := fun a : (Int × Sg) => Go l m_X3_tryHead (d + 1) LAYC (.inl (some (.inl q.1))) q.2 61 [some (.inr 37), some (.inl x1), some (.inl x2), some (.inl x3), none, some (.inl x5), some (.inl a.1), none] [] a.2) (K := Sum.elim (fun y : Sg => Go l m_X3_tryHead (d + 1) LAYC (.inl (some (.inl q.1))) q.2 117 [none, none, none, none, none, none, none, none] [] y) (fun r : (Int × Sg) => r = q)) ?_
      rintro ⟨x6, σ⟩ w h hK
      replace h : L_X3_tryHead_61 rec x1 x2 x3 x5 x6 σ = some w := h
      show Go l m_X3_tryHead (d + 1) LAYC (.inl (some (.inl q.1))) q.2 61 [some (.inr 37), some (.inl x1), some (.inl x2), some (.inl x3), none, some (.inl x5), some (.inl x6), none] [] σ
      unfold L_X3_tryHead_61 at h
      refine go_ops ok_X3_tryHead_61_4 (L' := [some (.inr 37), some (.inl x1), some (.inl x2), some (.inl x3), none, some (.inl x5), some (.inl x6), none]) (st' := [.inl x1, .inr 10, .inl x6]) (σ1 := σ) rfl ?_
      refine go_V (M1 := m_X5_partCount) (as := [.inl x1]) (st := [.inl x6]) (k := 10) (ci := 5) dc_X3_tryHead_68 ln_3_150 im_X5_partCount (by decide) rfl rfl mk_X5_partCount rfl (Nat.le_of_ble_eq_true rfl) (Nat.le_refl _) (v := (some (.inl (F_X5_partCount x1 σ)))) (σ1 := σ) (lk_X5_partCount l d (by omega) x1 σ _ rfl) _ rfl ?_
      refine go_icmp_ge dc_X3_tryHead_71 (by rfl) (fun hc => ?_) (fun hc => ?_)
      · replace h := (if_pos hc).symm.trans h
        cases h
        refine go_wk (L' := [none, none, none, none, none, none, none, none]) trivial ?_
        exact hK
      · replace h := (if_neg hc).symm.trans h
        refine go_ops ok_X3_tryHead_74_5 (L' := [some (.inr 37), some (.inl x1), some (.inl x2), some (.inl x3), none, some (.inl x5), some (.inl x6), none]) (st' := [.inl x6, .inl x1, .inr 10, .inr 37]) (σ1 := σ) rfl ?_
        refine go_V (M1 := m_X5_partOf) (as := [.inl x1, .inl x6]) (st := [.inr 37]) (k := 10) (ci := 5) dc_X3_tryHead_82 ln_3_124 im_X5_partOf (by decide) rfl rfl mk_X5_partOf rfl (Nat.le_of_ble_eq_true rfl) (Nat.le_refl _) (v := (some (.inl (F_X5_partOf x1 x6 σ)))) (σ1 := σ) (lk_X5_partOf l d (by omega) x1 x6 σ _ rfl) _ rfl ?_
        refine go_ops ok_X3_tryHead_85_4 (L' := [some (.inr 37), some (.inl x1), some (.inl x2), some (.inl x3), none, some (.inl x5), some (.inl x6), none]) (st' := [.inl (wrap (x5 + x6)), .inl x2, .inl (F_X5_partOf x1 x6 σ), .inr 37]) (σ1 := σ) rfl ?_
        refine go_SN (M1 := m_X10_inner) (as := [.inl x2, .inl (wrap (x5 + x6))]) (st := [.inl (F_X5_partOf x1 x6 σ), .inr 37]) dc_X3_tryHead_91 ln_3_153 sm_X10_inner mk_X10_inner rfl (Nat.le_of_ble_eq_true rfl) (Nat.le_refl _) (v := (some (.inl (F_X10_inner x2 (wrap (x5 + x6)))))) (σ1 := σ) (lk_X10_inner l d (by omega) x2 (wrap (x5 + x6)) σ _ rfl) _ rfl ?_
        refine go_ops ok_X3_tryHead_94_3 (L' := [some (.inr 37), some (.inl x1), some (.inl x2), some (.inl x3), none, some (.inl x5), some (.inl x6), none]) (st' := [.inl (wrap (x3 + 1)), .inl (F_X10_inner x2 (wrap (x5 + x6))), .inl (F_X5_partOf x1 x6 σ), .inr 37]) (σ1 := σ) rfl ?_
        obtain ⟨q5, e6, h⟩ := bind_inv h
        refine go_V (M1 := m_X3_tryAt) (as := [.inl (F_X5_partOf x1 x6 σ), .inl (F_X10_inner x2 (wrap (x5 + x6))), .inl (wrap (x3 + 1))]) (st := []) (k := 37) (ci := 3) dc_X3_tryHead_97 ln_3_112 im_X3_tryAt (by decide) rfl rfl mk_X3_tryAt rfl (Nat.le_of_ble_eq_true rfl) (Nat.le_refl _) (v := (some (.inl q5.1))) (σ1 := q5.2) (hrec d (by omega) (F_X5_partOf x1 x6 σ) (F_X10_inner x2 (wrap (x5 + x6))) (wrap (x3 + 1)) σ q5 e6) _ rfl ?_
        refine go_ops ok_X3_tryHead_100_3 (L' := [some (.inr 37), some (.inl x1), some (.inl x2), some (.inl x3), none, some (.inl x5), some (.inl x6), some (.inl q5.1)]) (st' := [.inl 1, .inl q5.1]) (σ1 := q5.2) rfl ?_
        refine go_icmp_eq dc_X3_tryHead_105 (by rfl) (fun hc => ?_) (fun hc => ?_)
        · replace h := (if_pos hc).symm.trans h
          refine go_ops ok_X3_tryHead_111_1 (L' := [some (.inr 37), some (.inl x1), some (.inl x2), some (.inl x3), none, some (.inl x5), some (.inl (wrap (x6 + 1))), some (.inl q5.1)]) (st' := []) (σ1 := q5.2) rfl ?_
          refine go_goto dc_X3_tryHead_114 (by rfl) ?_
          cases h
          refine go_wk (L' := [some (.inr 37), some (.inl x1), some (.inl x2), some (.inl x3), none, some (.inl x5), some (.inl (wrap (x6 + 1))), none]) ⟨rfl, rfl, rfl, rfl, rfl, rfl, trivial⟩ ?_
          exact hK
        · replace h := (if_neg hc).symm.trans h
          refine go_ops ok_X3_tryHead_108_1 (L' := [some (.inr 37), some (.inl x1), some (.inl x2), some (.inl x3), none, some (.inl x5), some (.inl x6), some (.inl q5.1)]) (st' := [.inl q5.1]) (σ1 := q5.2) rfl ?_
          cases h
          have hK2 : _ = q := hK
          subst hK2
          exact go_iret dc_X3_tryHead_110 rfl
    refine go_ops ok_X3_tryHead_0_3 (L' := [some (.inr 37), some (.inl a1), some (.inl a2), some (.inl a3), none, none, none, none]) (st' := [.inl a2, .inr 38]) (σ1 := σ) rfl ?_
    refine go_SN (M1 := m_X10_at) (as := [.inr 38, .inl a2]) (st := []) dc_X3_tryHead_5 ln_3_73 sm_X10_at mk_X10_at rfl (Nat.le_of_ble_eq_true rfl) (Nat.le_refl _) (v := some (.inl (rdD (-1) σ 38 469 a2))) (σ1 := σ) (lk_X10_at l d LAYC 38 469 rfl σ _) _ rfl ?_
    obtain ⟨v1, e2, h⟩ := bnd_inv h
    refine go_ops ok_X3_tryHead_8_3 (L' := [some (.inr 37), some (.inl a1), some (.inl a2), some (.inl a3), some (.inl v1), none, none, none]) (st' := [.inl (-1), .inl v1]) (σ1 := σ) (by subst e2; rfl) ?_
    refine go_icmp_ne dc_X3_tryHead_13 (by rfl) (fun hc => ?_) (fun hc => ?_)
    · replace h := (if_neg hc).symm.trans h
      refine go_ops ok_X3_tryHead_31_4 (L' := [some (.inr 37), some (.inl a1), some (.inl a2), some (.inl a3), some (.inl v1), none, none, none]) (st' := [.inl v1, .inl a1, .inr 10]) (σ1 := σ) rfl ?_
      refine go_V (M1 := m_X5_accepts) (as := [.inl a1, .inl v1]) (st := []) (k := 10) (ci := 5) dc_X3_tryHead_38 ln_3_144 im_X5_accepts (by decide) rfl rfl mk_X5_accepts rfl (Nat.le_of_ble_eq_true rfl) (Nat.le_refl _) (v := (some (.inl (b2i (F_X5_accepts a1 v1 σ))))) (σ1 := σ) (lk_X5_accepts l d (by omega) a1 v1 σ _ rfl) _ rfl ?_
      refine go_ifb_ne dc_X3_tryHead_41 (by rfl) (fun hc => ?_) (fun hc => ?_)
      · replace h := (if_pos hc).symm.trans h
        refine go_ops ok_X3_tryHead_46_4 (L' := [some (.inr 37), some (.inl a1), some (.inl a2), some (.inl a3), some (.inl v1), none, none, none]) (st' := [.inl v1, .inl a1, .inr 10]) (σ1 := σ) rfl ?_
        refine go_V (M1 := m_X5_offset) (as := [.inl a1, .inl v1]) (st := []) (k := 10) (ci := 5) dc_X3_tryHead_53 ln_3_147 im_X5_offset (by decide) rfl rfl mk_X5_offset rfl (Nat.le_of_ble_eq_true rfl) (Nat.le_refl _) (v := (some (.inl (F_X5_offset a1 v1 σ)))) (σ1 := σ) (lk_X5_offset l d (by omega) a1 v1 σ _ rfl) _ rfl ?_
        obtain ⟨v3, e4, h⟩ := bnd_inv h
        refine go_ops ok_X3_tryHead_56_3 (L' := [some (.inr 37), some (.inl a1), some (.inl a2), some (.inl a3), some (.inl v1), some (.inl v3), some (.inl 0), none]) (st' := []) (σ1 := σ) (by subst e4; rfl) ?_
        refine go_wk (L' := [some (.inr 37), some (.inl a1), some (.inl a2), some (.inl a3), none, some (.inl v3), some (.inl 0), none]) ⟨rfl, rfl, rfl, rfl, rfl, rfl, trivial⟩ ?_
        obtain ⟨y7, e8, h⟩ := bind_inv h
        refine hL_X3_tryHead_61 a1 a2 a3 v3 3000 (0, σ) y7 e8 ?_
        rcases y7 with z9 | r10
        rotate_left
        · show r10 = q
          cases h; rfl
        show Go l m_X3_tryHead (d + 1) LAYC (.inl (some (.inl q.1))) q.2 117 [none, none, none, none, none, none, none, none] [] z9
        rw [Sum.elim_inl] at h
        refine go_ops ok_X3_tryHead_117_1 (L' := [none, none, none, none, none, none, none, none]) (st' := [.inl 1]) (σ1 := z9) rfl ?_
        have h9 := Option.some.inj h
        subst h9
        exact go_iret dc_X3_tryHead_118 rfl
      · replace h := (if_neg hc).symm.trans h
        refine go_ops ok_X3_tryHead_44_1 (L' := [some (.inr 37), some (.inl a1), some (.inl a2), some (.inl a3), some (.inl v1), none, none, none]) (st' := [.inl 0]) (σ1 := σ) rfl ?_
        have h9 := Option.some.inj h
        subst h9
        exact go_iret dc_X3_tryHead_45 rfl
    · replace h := (if_pos hc).symm.trans h
      refine go_ops ok_X3_tryHead_16_6 (L' := [some (.inr 37), some (.inl a1), some (.inl a2), some (.inl a3), some (.inl v1), none, none, none]) (st' := [.inl a1, .inr 10, .inl a2, .inl 3, .inr 37]) (σ1 := σ) rfl ?_
      refine go_V (M1 := m_X5_kindOf) (as := [.inl a1]) (st := [.inl a2, .inl 3, .inr 37]) (k := 10) (ci := 5) dc_X3_tryHead_24 ln_3_141 im_X5_kindOf (by decide) rfl rfl mk_X5_kindOf rfl (Nat.le_of_ble_eq_true rfl) (Nat.le_refl _) (v := (some (.inl (F_X5_kindOf a1 σ)))) (σ1 := σ) (lk_X5_kindOf l d (by omega) a1 σ _ rfl) _ rfl ?_
      obtain ⟨q11, e12, h⟩ := bnd_inv h
      refine go_V (M1 := m_X3_ask) (as := [.inl 3, .inl a2, .inl (F_X5_kindOf a1 σ)]) (st := []) (k := 37) (ci := 3) dc_X3_tryHead_27 ln_3_131 im_X3_ask (by decide) rfl rfl mk_X3_ask rfl (Nat.le_of_ble_eq_true rfl) (Nat.le_refl _) (v := (some (.inl q11.1))) (σ1 := q11.2) (lk_X3_ask l d (by omega) 3 a2 (F_X5_kindOf a1 σ) σ q11 e12.symm) _ rfl ?_
      have h9 := Option.some.inj h
      subst h9
      exact go_iret dc_X3_tryHead_30 rfl
  have hf := go_ct (as := [.inr 37, .inl a1, .inl a2, .inl a3]) mk_X3_tryHead (by rfl) (Nat.le_of_ble_eq_true rfl) key
  exact hf
theorem dc_X3_tryAt_3 : decode m_X3_tryAt.2.2.1 3 = .ok (.if_icmp .le 5, 3) := by decide +kernel
theorem dc_X3_tryAt_7 : decode m_X3_tryAt.2.2.1 7 = .ok (.ireturn, 1) := by decide +kernel
theorem dc_X3_tryAt_13 : decode m_X3_tryAt.2.2.1 13 = .ok (.invokevirtual 116, 3) := by decide +kernel
theorem dc_X3_tryAt_16 : decode m_X3_tryAt.2.2.1 16 = .ok (.tableswitch 187 0 5 #[40, 42, 187, 187, 76, 123], 40) := by decide +kernel
theorem dc_X3_tryAt_57 : decode m_X3_tryAt.2.2.1 57 = .ok (.ireturn, 1) := by decide +kernel
theorem dc_X3_tryAt_67 : decode m_X3_tryAt.2.2.1 67 = .ok (.invokevirtual 121, 3) := by decide +kernel
theorem dc_X3_tryAt_71 : decode m_X3_tryAt.2.2.1 71 = .ok (.invokestatic 65, 3) := by decide +kernel
theorem dc_X3_tryAt_81 : decode m_X3_tryAt.2.2.1 81 = .ok (.invokevirtual 124, 3) := by decide +kernel
theorem dc_X3_tryAt_88 : decode m_X3_tryAt.2.2.1 88 = .ok (.invokevirtual 112, 3) := by decide +kernel
theorem dc_X3_tryAt_91 : decode m_X3_tryAt.2.2.1 91 = .ok (.ireturn, 1) := by decide +kernel
theorem dc_X3_tryAt_99 : decode m_X3_tryAt.2.2.1 99 = .ok (.invokevirtual 124, 3) := by decide +kernel
theorem dc_X3_tryAt_106 : decode m_X3_tryAt.2.2.1 106 = .ok (.invokevirtual 112, 3) := by decide +kernel
theorem dc_X3_tryAt_113 : decode m_X3_tryAt.2.2.1 113 = .ok (.ifCond .ne 23, 3) := by decide +kernel
theorem dc_X3_tryAt_123 : decode m_X3_tryAt.2.2.1 123 = .ok (.invokevirtual 124, 3) := by decide +kernel
theorem dc_X3_tryAt_130 : decode m_X3_tryAt.2.2.1 130 = .ok (.invokevirtual 112, 3) := by decide +kernel
theorem dc_X3_tryAt_133 : decode m_X3_tryAt.2.2.1 133 = .ok (.goto 5, 3) := by decide +kernel
theorem dc_X3_tryAt_138 : decode m_X3_tryAt.2.2.1 138 = .ok (.ireturn, 1) := by decide +kernel
theorem dc_X3_tryAt_144 : decode m_X3_tryAt.2.2.1 144 = .ok (.invokevirtual 121, 3) := by decide +kernel
theorem dc_X3_tryAt_156 : decode m_X3_tryAt.2.2.1 156 = .ok (.invokestatic 127, 3) := by decide +kernel
theorem dc_X3_tryAt_164 : decode m_X3_tryAt.2.2.1 164 = .ok (.if_icmp .ne 12, 3) := by decide +kernel
theorem dc_X3_tryAt_172 : decode m_X3_tryAt.2.2.1 172 = .ok (.invokevirtual 131, 3) := by decide +kernel
theorem dc_X3_tryAt_175 : decode m_X3_tryAt.2.2.1 175 = .ok (.ireturn, 1) := by decide +kernel
theorem dc_X3_tryAt_186 : decode m_X3_tryAt.2.2.1 186 = .ok (.invokevirtual 124, 3) := by decide +kernel
theorem dc_X3_tryAt_191 : decode m_X3_tryAt.2.2.1 191 = .ok (.invokevirtual 134, 3) := by decide +kernel
theorem dc_X3_tryAt_194 : decode m_X3_tryAt.2.2.1 194 = .ok (.ifCond .eq 7, 3) := by decide +kernel
theorem dc_X3_tryAt_198 : decode m_X3_tryAt.2.2.1 198 = .ok (.goto 4, 3) := by decide +kernel
theorem dc_X3_tryAt_202 : decode m_X3_tryAt.2.2.1 202 = .ok (.ireturn, 1) := by decide +kernel
theorem dc_X3_tryAt_207 : decode m_X3_tryAt.2.2.1 207 = .ok (.invokevirtual 138, 3) := by decide +kernel
theorem dc_X3_tryAt_210 : decode m_X3_tryAt.2.2.1 210 = .ok (.ireturn, 1) := by decide +kernel
theorem ok_X3_tryAt_0_2 : oks m_X3_tryAt.1 m_X3_tryAt.2.2.1 0 [(.iload_n 3, 1, (0, 0, 0)), (.bipush 40, 2, (0, 0, 0))] = true ∧ plen 0 [(.iload_n 3, 1, (0, 0, 0)), (.bipush 40, 2, (0, 0, 0))] = 3 := by decide +kernel
theorem ok_X3_tryAt_6_1 : oks m_X3_tryAt.1 m_X3_tryAt.2.2.1 6 [(.iconst 0, 1, (0, 0, 0))] = true ∧ plen 6 [(.iconst 0, 1, (0, 0, 0))] = 7 := by decide +kernel
theorem ok_X3_tryAt_8_3 : oks m_X3_tryAt.1 m_X3_tryAt.2.2.1 8 [(.aload_n 0, 1, (0, 0, 0)), (.getfield 47, 3, (3, 1, 0)), (.iload_n 1, 1, (0, 0, 0))] = true ∧ plen 8 [(.aload_n 0, 1, (0, 0, 0)), (.getfield 47, 3, (3, 1, 0)), (.iload_n 1, 1, (0, 0, 0))] = 13 := by decide +kernel
theorem ok_X3_tryAt_56_1 : oks m_X3_tryAt.1 m_X3_tryAt.2.2.1 56 [(.iconst 1, 1, (0, 0, 0))] = true ∧ plen 56 [(.iconst 1, 1, (0, 0, 0))] = 57 := by decide +kernel
theorem ok_X3_tryAt_58_5 : oks m_X3_tryAt.1 m_X3_tryAt.2.2.1 58 [(.aload_n 0, 1, (0, 0, 0)), (.getfield 34, 3, (3, 11, 0)), (.aload_n 0, 1, (0, 0, 0)), (.getfield 47, 3, (3, 1, 0)), (.iload_n 1, 1, (0, 0, 0))] = true ∧ plen 58 [(.aload_n 0, 1, (0, 0, 0)), (.getfield 34, 3, (3, 11, 0)), (.aload_n 0, 1, (0, 0, 0)), (.getfield 47, 3, (3, 1, 0)), (.iload_n 1, 1, (0, 0, 0))] = 67 := by decide +kernel
theorem ok_X3_tryAt_70_1 : oks m_X3_tryAt.1 m_X3_tryAt.2.2.1 70 [(.iload_n 2, 1, (0, 0, 0))] = true ∧ plen 70 [(.iload_n 2, 1, (0, 0, 0))] = 71 := by decide +kernel
theorem ok_X3_tryAt_74_5 : oks m_X3_tryAt.1 m_X3_tryAt.2.2.1 74 [(.aload_n 0, 1, (0, 0, 0)), (.aload_n 0, 1, (0, 0, 0)), (.getfield 47, 3, (3, 1, 0)), (.iload_n 1, 1, (0, 0, 0)), (.iconst 0, 1, (0, 0, 0))] = true ∧ plen 74 [(.aload_n 0, 1, (0, 0, 0)), (.aload_n 0, 1, (0, 0, 0)), (.getfield 47, 3, (3, 1, 0)), (.iload_n 1, 1, (0, 0, 0)), (.iconst 0, 1, (0, 0, 0))] = 81 := by decide +kernel
theorem ok_X3_tryAt_84_4 : oks m_X3_tryAt.1 m_X3_tryAt.2.2.1 84 [(.iload_n 2, 1, (0, 0, 0)), (.iload_n 3, 1, (0, 0, 0)), (.iconst 1, 1, (0, 0, 0)), (.iadd, 1, (0, 0, 0))] = true ∧ plen 84 [(.iload_n 2, 1, (0, 0, 0)), (.iload_n 3, 1, (0, 0, 0)), (.iconst 1, 1, (0, 0, 0)), (.iadd, 1, (0, 0, 0))] = 88 := by decide +kernel
theorem ok_X3_tryAt_92_5 : oks m_X3_tryAt.1 m_X3_tryAt.2.2.1 92 [(.aload_n 0, 1, (0, 0, 0)), (.aload_n 0, 1, (0, 0, 0)), (.getfield 47, 3, (3, 1, 0)), (.iload_n 1, 1, (0, 0, 0)), (.iconst 0, 1, (0, 0, 0))] = true ∧ plen 92 [(.aload_n 0, 1, (0, 0, 0)), (.aload_n 0, 1, (0, 0, 0)), (.getfield 47, 3, (3, 1, 0)), (.iload_n 1, 1, (0, 0, 0)), (.iconst 0, 1, (0, 0, 0))] = 99 := by decide +kernel
theorem ok_X3_tryAt_102_4 : oks m_X3_tryAt.1 m_X3_tryAt.2.2.1 102 [(.iload_n 2, 1, (0, 0, 0)), (.iload_n 3, 1, (0, 0, 0)), (.iconst 1, 1, (0, 0, 0)), (.iadd, 1, (0, 0, 0))] = true ∧ plen 102 [(.iload_n 2, 1, (0, 0, 0)), (.iload_n 3, 1, (0, 0, 0)), (.iconst 1, 1, (0, 0, 0)), (.iadd, 1, (0, 0, 0))] = 106 := by decide +kernel
theorem ok_X3_tryAt_109_2 : oks m_X3_tryAt.1 m_X3_tryAt.2.2.1 109 [(.istore 4, 2, (0, 0, 0)), (.iload 4, 2, (0, 0, 0))] = true ∧ plen 109 [(.istore 4, 2, (0, 0, 0)), (.iload 4, 2, (0, 0, 0))] = 113 := by decide +kernel
theorem ok_X3_tryAt_116_5 : oks m_X3_tryAt.1 m_X3_tryAt.2.2.1 116 [(.aload_n 0, 1, (0, 0, 0)), (.aload_n 0, 1, (0, 0, 0)), (.getfield 47, 3, (3, 1, 0)), (.iload_n 1, 1, (0, 0, 0)), (.iconst 1, 1, (0, 0, 0))] = true ∧ plen 116 [(.aload_n 0, 1, (0, 0, 0)), (.aload_n 0, 1, (0, 0, 0)), (.getfield 47, 3, (3, 1, 0)), (.iload_n 1, 1, (0, 0, 0)), (.iconst 1, 1, (0, 0, 0))] = 123 := by decide +kernel
theorem ok_X3_tryAt_126_4 : oks m_X3_tryAt.1 m_X3_tryAt.2.2.1 126 [(.iload_n 2, 1, (0, 0, 0)), (.iload_n 3, 1, (0, 0, 0)), (.iconst 1, 1, (0, 0, 0)), (.iadd, 1, (0, 0, 0))] = true ∧ plen 126 [(.iload_n 2, 1, (0, 0, 0)), (.iload_n 3, 1, (0, 0, 0)), (.iconst 1, 1, (0, 0, 0)), (.iadd, 1, (0, 0, 0))] = 130 := by decide +kernel
theorem ok_X3_tryAt_136_1 : oks m_X3_tryAt.1 m_X3_tryAt.2.2.1 136 [(.iload 4, 2, (0, 0, 0))] = true ∧ plen 136 [(.iload 4, 2, (0, 0, 0))] = 138 := by decide +kernel
theorem ok_X3_tryAt_139_3 : oks m_X3_tryAt.1 m_X3_tryAt.2.2.1 139 [(.aload_n 0, 1, (0, 0, 0)), (.getfield 47, 3, (3, 1, 0)), (.iload_n 1, 1, (0, 0, 0))] = true ∧ plen 139 [(.aload_n 0, 1, (0, 0, 0)), (.getfield 47, 3, (3, 1, 0)), (.iload_n 1, 1, (0, 0, 0))] = 144 := by decide +kernel
theorem ok_X3_tryAt_147_5 : oks m_X3_tryAt.1 m_X3_tryAt.2.2.1 147 [(.istore 5, 2, (0, 0, 0)), (.aload_n 0, 1, (0, 0, 0)), (.getfield 31, 3, (3, 10, 0)), (.iload 5, 2, (0, 0, 0)), (.iload_n 2, 1, (0, 0, 0))] = true ∧ plen 147 [(.istore 5, 2, (0, 0, 0)), (.aload_n 0, 1, (0, 0, 0)), (.getfield 31, 3, (3, 10, 0)), (.iload 5, 2, (0, 0, 0)), (.iload_n 2, 1, (0, 0, 0))] = 156 := by decide +kernel
theorem ok_X3_tryAt_159_3 : oks m_X3_tryAt.1 m_X3_tryAt.2.2.1 159 [(.istore 6, 2, (0, 0, 0)), (.iload 6, 2, (0, 0, 0)), (.iconst (-1), 1, (0, 0, 0))] = true ∧ plen 159 [(.istore 6, 2, (0, 0, 0)), (.iload 6, 2, (0, 0, 0)), (.iconst (-1), 1, (0, 0, 0))] = 164 := by decide +kernel
theorem ok_X3_tryAt_167_4 : oks m_X3_tryAt.1 m_X3_tryAt.2.2.1 167 [(.aload_n 0, 1, (0, 0, 0)), (.iconst 4, 1, (0, 0, 0)), (.iload_n 2, 1, (0, 0, 0)), (.iload 5, 2, (0, 0, 0))] = true ∧ plen 167 [(.aload_n 0, 1, (0, 0, 0)), (.iconst 4, 1, (0, 0, 0)), (.iload_n 2, 1, (0, 0, 0)), (.iload 5, 2, (0, 0, 0))] = 172 := by decide +kernel
theorem ok_X3_tryAt_176_6 : oks m_X3_tryAt.1 m_X3_tryAt.2.2.1 176 [(.aload_n 0, 1, (0, 0, 0)), (.getfield 47, 3, (3, 1, 0)), (.aload_n 0, 1, (0, 0, 0)), (.getfield 47, 3, (3, 1, 0)), (.iload_n 1, 1, (0, 0, 0)), (.iconst 0, 1, (0, 0, 0))] = true ∧ plen 176 [(.aload_n 0, 1, (0, 0, 0)), (.getfield 47, 3, (3, 1, 0)), (.aload_n 0, 1, (0, 0, 0)), (.getfield 47, 3, (3, 1, 0)), (.iload_n 1, 1, (0, 0, 0)), (.iconst 0, 1, (0, 0, 0))] = 186 := by decide +kernel
theorem ok_X3_tryAt_189_1 : oks m_X3_tryAt.1 m_X3_tryAt.2.2.1 189 [(.iload 6, 2, (0, 0, 0))] = true ∧ plen 189 [(.iload 6, 2, (0, 0, 0))] = 191 := by decide +kernel
theorem ok_X3_tryAt_197_1 : oks m_X3_tryAt.1 m_X3_tryAt.2.2.1 197 [(.iconst 1, 1, (0, 0, 0))] = true ∧ plen 197 [(.iconst 1, 1, (0, 0, 0))] = 198 := by decide +kernel
theorem ok_X3_tryAt_201_1 : oks m_X3_tryAt.1 m_X3_tryAt.2.2.1 201 [(.iconst 0, 1, (0, 0, 0))] = true ∧ plen 201 [(.iconst 0, 1, (0, 0, 0))] = 202 := by decide +kernel
theorem ok_X3_tryAt_203_4 : oks m_X3_tryAt.1 m_X3_tryAt.2.2.1 203 [(.aload_n 0, 1, (0, 0, 0)), (.iload_n 1, 1, (0, 0, 0)), (.iload_n 2, 1, (0, 0, 0)), (.iload_n 3, 1, (0, 0, 0))] = true ∧ plen 203 [(.aload_n 0, 1, (0, 0, 0)), (.iload_n 1, 1, (0, 0, 0)), (.iload_n 2, 1, (0, 0, 0)), (.iload_n 3, 1, (0, 0, 0))] = 207 := by decide +kernel
def B_X3_tryAt_203 (rec : Int → Int → Int → Sg → Option (Int × Sg)) (x1 : Int) (x2 : Int) (x3 : Int) (σ : Sg) : Option (Int × Sg) :=
(G_X3_tryHead rec x1 x2 x3 σ).bind fun q19 =>
some (q19.1, q19.2)
def G_X3_tryAt (rec : Int → Int → Int → Sg → Option (Int × Sg)) (a1 : Int) (a2 : Int) (a3 : Int) (σ : Sg) : Option (Int × Sg) :=
if a3 ≤ 40 then
if (F_X5_sortOf a1 σ) = 0 then
some (1, σ)
else if (F_X5_sortOf a1 σ) = 1 then
bnd (wrD σ 40 6 (F_X5_lowOf a1 σ) a2) fun s2 =>
(rec (F_X5_partOf a1 0 s2) a2 (wrap (a3 + 1)) s2).bind fun q4 =>
some (q4.1, q4.2)
else if (F_X5_sortOf a1 σ) = 4 then
(rec (F_X5_partOf a1 0 σ) a2 (wrap (a3 + 1)) σ).bind fun q7 =>
if q7.1 = 0 then
(rec (F_X5_partOf a1 1 q7.2) a2 (wrap (a3 + 1)) q7.2).bind fun q9 =>
some (q9.1, q9.2)
else
some (q7.1, q7.2)
else if (F_X5_sortOf a1 σ) = 5 then
bnd (F_X5_lowOf a1 σ) fun v12 =>
bnd (F_X10_givenAt 39 v12 a2 σ) fun v14 =>
if v14 = (-1) then
bnd (F_X3_ask 4 a2 v12 σ) fun q16 =>
some (q16.1, q16.2)
else
if (F_X5_admits (F_X5_partOf a1 0 σ) v14 σ) = true then
some (1, σ)
else
some (0, σ)
else B_X3_tryAt_203 rec a1 a2 a3 σ
else
some (0, σ)
theorem lk_X3_tryAt (l : Launch) (Dr : Nat) (rec : Int → Int → Int → Sg → Option (Int × Sg)) (hrec : ∀ d, Dr ≤ d → ∀ (a1 : Int) (a2 : Int) (a3 : Int) (σ : Sg) (q : (Int × Sg)), rec a1 a2 a3 σ = some q → CT l d m_X3_tryAt.2.1 m_X3_tryAt.2.2.1 m_X3_tryAt.2.2.2.1 m_X3_tryAt.2.2.2.2 [.inr 37, .inl a1, .inl a2, .inl a3] (LAYC, σ) (some (.inl q.1)) (LAYC, q.2)) (d : Nat) (hd : Dr + 2 ≤ d) (hdB : 4 ≤ d) (a1 : Int) (a2 : Int) (a3 : Int) (σ : Sg) (q : (Int × Sg)) (h : G_X3_tryAt rec a1 a2 a3 σ = some q) : CT l d m_X3_tryAt.2.1 m_X3_tryAt.2.2.1 m_X3_tryAt.2.2.2.1 m_X3_tryAt.2.2.2.2 [.inr 37, .inl a1, .inl a2, .inl a3] (LAYC, σ) (some (.inl q.1)) (LAYC, q.2) := by
  obtain ⟨d, rfl⟩ : ∃ e, d = e + 1 := ⟨d - 1, by omega⟩
  have key : Go l m_X3_tryAt (d + 1) LAYC (.inl (some (.inl q.1))) q.2 0 [some (.inr 37), some (.inl a1), some (.inl a2), some (.inl a3), none, none, none] [] σ := by
    unfold G_X3_tryAt at h
    have hB_X3_tryAt_203 : ∀ (x1 : Int) (x2 : Int) (x3 : Int) (σ : Sg), B_X3_tryAt_203 rec x1 x2 x3 σ = some q → Go l m_X3_tryAt (d + 1) LAYC (.inl (some (.inl q.1))) q.2 203 [some (.inr 37), some (.inl x1), some (.inl x2), some (.inl x3), none, none, none] [] σ := by
      intro x1 x2 x3 σ h
      unfold B_X3_tryAt_203 at h
      refine go_ops ok_X3_tryAt_203_4 (L' := [some (.inr 37), some (.inl x1), some (.inl x2), some (.inl x3), none, none, none]) (st' := [.inl x3, .inl x2, .inl x1, .inr 37]) (σ1 := σ) rfl ?_
      obtain ⟨q19, e20, h⟩ := bind_inv h
      refine go_V (M1 := m_X3_tryHead) (as := [.inl x1, .inl x2, .inl x3]) (st := []) (k := 37) (ci := 3) dc_X3_tryAt_207 ln_3_138 im_X3_tryHead (by decide) rfl rfl mk_X3_tryHead rfl (Nat.le_of_ble_eq_true rfl) (Nat.le_refl _) (v := (some (.inl q19.1))) (σ1 := q19.2) (lk_X3_tryHead l Dr rec hrec d (by omega) (by omega) x1 x2 x3 σ q19 e20) _ rfl ?_
      have h9 := Option.some.inj h
      subst h9
      exact go_iret dc_X3_tryAt_210 rfl
    refine go_ops ok_X3_tryAt_0_2 (L' := [some (.inr 37), some (.inl a1), some (.inl a2), some (.inl a3), none, none, none]) (st' := [.inl 40, .inl a3]) (σ1 := σ) rfl ?_
    refine go_icmp_le dc_X3_tryAt_3 (by rfl) (fun hc => ?_) (fun hc => ?_)
    · replace h := (if_pos hc).symm.trans h
      refine go_ops ok_X3_tryAt_8_3 (L' := [some (.inr 37), some (.inl a1), some (.inl a2), some (.inl a3), none, none, none]) (st' := [.inl a1, .inr 10]) (σ1 := σ) rfl ?_
      refine go_V (M1 := m_X5_sortOf) (as := [.inl a1]) (st := []) (k := 10) (ci := 5) dc_X3_tryAt_13 ln_3_116 im_X5_sortOf (by decide) rfl rfl mk_X5_sortOf rfl (Nat.le_of_ble_eq_true rfl) (Nat.le_refl _) (v := (some (.inl (F_X5_sortOf a1 σ)))) (σ1 := σ) (lk_X5_sortOf l d (by omega) a1 σ _ rfl) _ rfl ?_
      rcases Decidable.em ((F_X5_sortOf a1 σ) = 0) with hs1 | hs1
      · replace h := (if_pos hs1).symm.trans h
        refine go_tsw (off := 40) dc_X3_tryAt_16 (by decide) (by decide) (tsk hs1 (by decide +kernel)) (by rfl) ?_
        refine go_ops ok_X3_tryAt_56_1 (L' := [some (.inr 37), some (.inl a1), some (.inl a2), some (.inl a3), none, none, none]) (st' := [.inl 1]) (σ1 := σ) rfl ?_
        have h9 := Option.some.inj h
        subst h9
        exact go_iret dc_X3_tryAt_57 rfl
      replace h := (if_neg hs1).symm.trans h
      rcases Decidable.em ((F_X5_sortOf a1 σ) = 1) with hs6 | hs6
      · replace h := (if_pos hs6).symm.trans h
        refine go_tsw (off := 42) dc_X3_tryAt_16 (by decide) (by decide) (tsk hs6 (by decide +kernel)) (by rfl) ?_
        refine go_ops ok_X3_tryAt_58_5 (L' := [some (.inr 37), some (.inl a1), some (.inl a2), some (.inl a3), none, none, none]) (st' := [.inl a1, .inr 10, .inr 40]) (σ1 := σ) rfl ?_
        refine go_V (M1 := m_X5_lowOf) (as := [.inl a1]) (st := [.inr 40]) (k := 10) (ci := 5) dc_X3_tryAt_67 ln_3_121 im_X5_lowOf (by decide) rfl rfl mk_X5_lowOf rfl (Nat.le_of_ble_eq_true rfl) (Nat.le_refl _) (v := (some (.inl (F_X5_lowOf a1 σ)))) (σ1 := σ) (lk_X5_lowOf l d (by omega) a1 σ _ rfl) _ rfl ?_
        refine go_ops ok_X3_tryAt_70_1 (L' := [some (.inr 37), some (.inl a1), some (.inl a2), some (.inl a3), none, none, none]) (st' := [.inl a2, .inl (F_X5_lowOf a1 σ), .inr 40]) (σ1 := σ) rfl ?_
        obtain ⟨s2, e3, h⟩ := bnd_inv h
        refine go_SN (M1 := m_X10_put) (as := [.inr 40, .inl (F_X5_lowOf a1 σ), .inl a2]) (st := []) dc_X3_tryAt_71 ln_3_65 sm_X10_put mk_X10_put rfl (Nat.le_of_ble_eq_true rfl) (Nat.le_refl _) (v := none) (σ1 := s2) (lk_X10_put l d LAYC 40 6 rfl _ _ s2 e3) _ rfl ?_
        refine go_ops ok_X3_tryAt_74_5 (L' := [some (.inr 37), some (.inl a1), some (.inl a2), some (.inl a3), none, none, none]) (st' := [.inl 0, .inl a1, .inr 10, .inr 37]) (σ1 := s2) rfl ?_
        refine go_V (M1 := m_X5_partOf) (as := [.inl a1, .inl 0]) (st := [.inr 37]) (k := 10) (ci := 5) dc_X3_tryAt_81 ln_3_124 im_X5_partOf (by decide) rfl rfl mk_X5_partOf rfl (Nat.le_of_ble_eq_true rfl) (Nat.le_refl _) (v := (some (.inl (F_X5_partOf a1 0 s2)))) (σ1 := s2) (lk_X5_partOf l d (by omega) a1 0 s2 _ rfl) _ rfl ?_
        refine go_ops ok_X3_tryAt_84_4 (L' := [some (.inr 37), some (.inl a1), some (.inl a2), some (.inl a3), none, none, none]) (st' := [.inl (wrap (a3 + 1)), .inl a2, .inl (F_X5_partOf a1 0 s2), .inr 37]) (σ1 := s2) rfl ?_
        obtain ⟨q4, e5, h⟩ := bind_inv h
        refine go_V (M1 := m_X3_tryAt) (as := [.inl (F_X5_partOf a1 0 s2), .inl a2, .inl (wrap (a3 + 1))]) (st := []) (k := 37) (ci := 3) dc_X3_tryAt_88 ln_3_112 im_X3_tryAt (by decide) rfl rfl mk_X3_tryAt rfl (Nat.le_of_ble_eq_true rfl) (Nat.le_refl _) (v := (some (.inl q4.1))) (σ1 := q4.2) (hrec d (by omega) (F_X5_partOf a1 0 s2) a2 (wrap (a3 + 1)) s2 q4 e5) _ rfl ?_
        have h9 := Option.some.inj h
        subst h9
        exact go_iret dc_X3_tryAt_91 rfl
      replace h := (if_neg hs6).symm.trans h
      rcases Decidable.em ((F_X5_sortOf a1 σ) = 4) with hs11 | hs11
      · replace h := (if_pos hs11).symm.trans h
        refine go_tsw (off := 76) dc_X3_tryAt_16 (by decide) (by decide) (tsk hs11 (by decide +kernel)) (by rfl) ?_
        refine go_ops ok_X3_tryAt_92_5 (L' := [some (.inr 37), some (.inl a1), some (.inl a2), some (.inl a3), none, none, none]) (st' := [.inl 0, .inl a1, .inr 10, .inr 37]) (σ1 := σ) rfl ?_
        refine go_V (M1 := m_X5_partOf) (as := [.inl a1, .inl 0]) (st := [.inr 37]) (k := 10) (ci := 5) dc_X3_tryAt_99 ln_3_124 im_X5_partOf (by decide) rfl rfl mk_X5_partOf rfl (Nat.le_of_ble_eq_true rfl) (Nat.le_refl _) (v := (some (.inl (F_X5_partOf a1 0 σ)))) (σ1 := σ) (lk_X5_partOf l d (by omega) a1 0 σ _ rfl) _ rfl ?_
        refine go_ops ok_X3_tryAt_102_4 (L' := [some (.inr 37), some (.inl a1), some (.inl a2), some (.inl a3), none, none, none]) (st' := [.inl (wrap (a3 + 1)), .inl a2, .inl (F_X5_partOf a1 0 σ), .inr 37]) (σ1 := σ) rfl ?_
        obtain ⟨q7, e8, h⟩ := bind_inv h
        refine go_V (M1 := m_X3_tryAt) (as := [.inl (F_X5_partOf a1 0 σ), .inl a2, .inl (wrap (a3 + 1))]) (st := []) (k := 37) (ci := 3) dc_X3_tryAt_106 ln_3_112 im_X3_tryAt (by decide) rfl rfl mk_X3_tryAt rfl (Nat.le_of_ble_eq_true rfl) (Nat.le_refl _) (v := (some (.inl q7.1))) (σ1 := q7.2) (hrec d (by omega) (F_X5_partOf a1 0 σ) a2 (wrap (a3 + 1)) σ q7 e8) _ rfl ?_
        refine go_ops ok_X3_tryAt_109_2 (L' := [some (.inr 37), some (.inl a1), some (.inl a2), some (.inl a3), some (.inl q7.1), none, none]) (st' := [.inl q7.1]) (σ1 := q7.2) rfl ?_
        refine go_if_ne dc_X3_tryAt_113 (by rfl) (fun hc => ?_) (fun hc => ?_)
        · replace h := (if_neg hc).symm.trans h
          refine go_ops ok_X3_tryAt_136_1 (L' := [some (.inr 37), some (.inl a1), some (.inl a2), some (.inl a3), some (.inl q7.1), none, none]) (st' := [.inl q7.1]) (σ1 := q7.2) rfl ?_
          have h9 := Option.some.inj h
          subst h9
          exact go_iret dc_X3_tryAt_138 rfl
        · replace h := (if_pos hc).symm.trans h
          refine go_ops ok_X3_tryAt_116_5 (L' := [some (.inr 37), some (.inl a1), some (.inl a2), some (.inl a3), some (.inl q7.1), none, none]) (st' := [.inl 1, .inl a1, .inr 10, .inr 37]) (σ1 := q7.2) rfl ?_
          refine go_V (M1 := m_X5_partOf) (as := [.inl a1, .inl 1]) (st := [.inr 37]) (k := 10) (ci := 5) dc_X3_tryAt_123 ln_3_124 im_X5_partOf (by decide) rfl rfl mk_X5_partOf rfl (Nat.le_of_ble_eq_true rfl) (Nat.le_refl _) (v := (some (.inl (F_X5_partOf a1 1 q7.2)))) (σ1 := q7.2) (lk_X5_partOf l d (by omega) a1 1 q7.2 _ rfl) _ rfl ?_
          refine go_ops ok_X3_tryAt_126_4 (L' := [some (.inr 37), some (.inl a1), some (.inl a2), some (.inl a3), some (.inl q7.1), none, none]) (st' := [.inl (wrap (a3 + 1)), .inl a2, .inl (F_X5_partOf a1 1 q7.2), .inr 37]) (σ1 := q7.2) rfl ?_
          obtain ⟨q9, e10, h⟩ := bind_inv h
          refine go_V (M1 := m_X3_tryAt) (as := [.inl (F_X5_partOf a1 1 q7.2), .inl a2, .inl (wrap (a3 + 1))]) (st := []) (k := 37) (ci := 3) dc_X3_tryAt_130 ln_3_112 im_X3_tryAt (by decide) rfl rfl mk_X3_tryAt rfl (Nat.le_of_ble_eq_true rfl) (Nat.le_refl _) (v := (some (.inl q9.1))) (σ1 := q9.2) (hrec d (by omega) (F_X5_partOf a1 1 q7.2) a2 (wrap (a3 + 1)) q7.2 q9 e10) _ rfl ?_
          refine go_goto dc_X3_tryAt_133 (by rfl) ?_
          have h9 := Option.some.inj h
          subst h9
          exact go_iret dc_X3_tryAt_138 rfl
      replace h := (if_neg hs11).symm.trans h
      rcases Decidable.em ((F_X5_sortOf a1 σ) = 5) with hs18 | hs18
      · replace h := (if_pos hs18).symm.trans h
        refine go_tsw (off := 123) dc_X3_tryAt_16 (by decide) (by decide) (tsk hs18 (by decide +kernel)) (by rfl) ?_
        refine go_ops ok_X3_tryAt_139_3 (L' := [some (.inr 37), some (.inl a1), some (.inl a2), some (.inl a3), none, none, none]) (st' := [.inl a1, .inr 10]) (σ1 := σ) rfl ?_
        refine go_V (M1 := m_X5_lowOf) (as := [.inl a1]) (st := []) (k := 10) (ci := 5) dc_X3_tryAt_144 ln_3_121 im_X5_lowOf (by decide) rfl rfl mk_X5_lowOf rfl (Nat.le_of_ble_eq_true rfl) (Nat.le_refl _) (v := (some (.inl (F_X5_lowOf a1 σ)))) (σ1 := σ) (lk_X5_lowOf l d (by omega) a1 σ _ rfl) _ rfl ?_
        obtain ⟨v12, e13, h⟩ := bnd_inv h
        refine go_ops ok_X3_tryAt_147_5 (L' := [some (.inr 37), some (.inl a1), some (.inl a2), some (.inl a3), none, some (.inl v12), none]) (st' := [.inl a2, .inl v12, .inr 39]) (σ1 := σ) (by subst e13; rfl) ?_
        refine go_SN (M1 := m_X10_givenAt) (as := [.inr 39, .inl v12, .inl a2]) (st := []) dc_X3_tryAt_156 ln_3_127 sm_X10_givenAt mk_X10_givenAt rfl (Nat.le_of_ble_eq_true rfl) (Nat.le_refl _) (v := (some (.inl (F_X10_givenAt 39 v12 a2 σ)))) (σ1 := σ) (lk_X10_givenAt_39 l d (by omega) v12 a2 σ _ rfl) _ rfl ?_
        obtain ⟨v14, e15, h⟩ := bnd_inv h
        refine go_ops ok_X3_tryAt_159_3 (L' := [some (.inr 37), some (.inl a1), some (.inl a2), some (.inl a3), none, some (.inl v12), some (.inl v14)]) (st' := [.inl (-1), .inl v14]) (σ1 := σ) (by subst e15; rfl) ?_
        refine go_icmp_ne dc_X3_tryAt_164 (by rfl) (fun hc => ?_) (fun hc => ?_)
        · replace h := (if_neg hc).symm.trans h
          refine go_ops ok_X3_tryAt_176_6 (L' := [some (.inr 37), some (.inl a1), some (.inl a2), some (.inl a3), none, some (.inl v12), some (.inl v14)]) (st' := [.inl 0, .inl a1, .inr 10, .inr 10]) (σ1 := σ) rfl ?_
          refine go_V (M1 := m_X5_partOf) (as := [.inl a1, .inl 0]) (st := [.inr 10]) (k := 10) (ci := 5) dc_X3_tryAt_186 ln_3_124 im_X5_partOf (by decide) rfl rfl mk_X5_partOf rfl (Nat.le_of_ble_eq_true rfl) (Nat.le_refl _) (v := (some (.inl (F_X5_partOf a1 0 σ)))) (σ1 := σ) (lk_X5_partOf l d (by omega) a1 0 σ _ rfl) _ rfl ?_
          refine go_ops ok_X3_tryAt_189_1 (L' := [some (.inr 37), some (.inl a1), some (.inl a2), some (.inl a3), none, some (.inl v12), some (.inl v14)]) (st' := [.inl v14, .inl (F_X5_partOf a1 0 σ), .inr 10]) (σ1 := σ) rfl ?_
          refine go_V (M1 := m_X5_admits) (as := [.inl (F_X5_partOf a1 0 σ), .inl v14]) (st := []) (k := 10) (ci := 5) dc_X3_tryAt_191 ln_3_134 im_X5_admits (by decide) rfl rfl mk_X5_admits rfl (Nat.le_of_ble_eq_true rfl) (Nat.le_refl _) (v := (some (.inl (b2i (F_X5_admits (F_X5_partOf a1 0 σ) v14 σ))))) (σ1 := σ) (lk_X5_admits l d (by omega) (F_X5_partOf a1 0 σ) v14 σ _ rfl) _ rfl ?_
          refine go_ifb_eq dc_X3_tryAt_194 (by rfl) (fun hc => ?_) (fun hc => ?_)
          · replace h := (if_neg hc).symm.trans h
            refine go_ops ok_X3_tryAt_201_1 (L' := [some (.inr 37), some (.inl a1), some (.inl a2), some (.inl a3), none, some (.inl v12), some (.inl v14)]) (st' := [.inl 0]) (σ1 := σ) rfl ?_
            have h9 := Option.some.inj h
            subst h9
            exact go_iret dc_X3_tryAt_202 rfl
          · replace h := (if_pos hc).symm.trans h
            refine go_ops ok_X3_tryAt_197_1 (L' := [some (.inr 37), some (.inl a1), some (.inl a2), some (.inl a3), none, some (.inl v12), some (.inl v14)]) (st' := [.inl 1]) (σ1 := σ) rfl ?_
            refine go_goto dc_X3_tryAt_198 (by rfl) ?_
            have h9 := Option.some.inj h
            subst h9
            exact go_iret dc_X3_tryAt_202 rfl
        · replace h := (if_pos hc).symm.trans h
          refine go_ops ok_X3_tryAt_167_4 (L' := [some (.inr 37), some (.inl a1), some (.inl a2), some (.inl a3), none, some (.inl v12), some (.inl v14)]) (st' := [.inl v12, .inl a2, .inl 4, .inr 37]) (σ1 := σ) rfl ?_
          obtain ⟨q16, e17, h⟩ := bnd_inv h
          refine go_V (M1 := m_X3_ask) (as := [.inl 4, .inl a2, .inl v12]) (st := []) (k := 37) (ci := 3) dc_X3_tryAt_172 ln_3_131 im_X3_ask (by decide) rfl rfl mk_X3_ask rfl (Nat.le_of_ble_eq_true rfl) (Nat.le_refl _) (v := (some (.inl q16.1))) (σ1 := q16.2) (lk_X3_ask l d (by omega) 4 a2 v12 σ q16 e17.symm) _ rfl ?_
          have h9 := Option.some.inj h
          subst h9
          exact go_iret dc_X3_tryAt_175 rfl
      replace h := (if_neg hs18).symm.trans h
      refine go_tsw (off := 187) dc_X3_tryAt_16 (by decide) (by decide) (ts_d [0, 1, 4, 5] (nn1 hs1 (nn1 hs6 (nn1 hs11 (nn1 hs18 nn0)))) (by decide +kernel)) (by rfl) ?_
      exact hB_X3_tryAt_203 a1 a2 a3 σ h
    · replace h := (if_neg hc).symm.trans h
      refine go_ops ok_X3_tryAt_6_1 (L' := [some (.inr 37), some (.inl a1), some (.inl a2), some (.inl a3), none, none, none]) (st' := [.inl 0]) (σ1 := σ) rfl ?_
      have h9 := Option.some.inj h
      subst h9
      exact go_iret dc_X3_tryAt_7 rfl
  have hf := go_ct (as := [.inr 37, .inl a1, .inl a2, .inl a3]) mk_X3_tryAt (by rfl) (Nat.le_of_ble_eq_true rfl) key
  exact hf
def F_X3_tryAt : Nat → Int → Int → Int → Sg → Option (Int × Sg)
  | 0 => fun _ _ _ _ => none
  | n + 1 => G_X3_tryAt (F_X3_tryAt n)
theorem lkr_X3_tryAt (l : Launch) : ∀ (n d : Nat), 2 * n + 4 ≤ d → ∀ (a1 : Int) (a2 : Int) (a3 : Int) (σ : Sg) (q : (Int × Sg)), F_X3_tryAt n a1 a2 a3 σ = some q → CT l d m_X3_tryAt.2.1 m_X3_tryAt.2.2.1 m_X3_tryAt.2.2.2.1 m_X3_tryAt.2.2.2.2 [.inr 37, .inl a1, .inl a2, .inl a3] (LAYC, σ) (some (.inl q.1)) (LAYC, q.2)
  | 0, d, hd, a1, a2, a3, σ, q, h => by cases h
  | n + 1, d, hd, a1, a2, a3, σ, q, h => lk_X3_tryAt l (2 * n + 4) (F_X3_tryAt n) (fun d hd => lkr_X3_tryAt l n d hd) d (by omega) (by omega) a1 a2 a3 σ q h
theorem dc_X3_tryCase_5 : decode m_X3_tryCase.2.2.1 5 = .ok (.invokestatic 59, 3) := by decide +kernel
theorem dc_X3_tryCase_15 : decode m_X3_tryCase.2.2.1 15 = .ok (.invokevirtual 109, 3) := by decide +kernel
theorem dc_X3_tryCase_18 : decode m_X3_tryCase.2.2.1 18 = .ok (.if_icmp .ge 34, 3) := by decide +kernel
theorem dc_X3_tryCase_28 : decode m_X3_tryCase.2.2.1 28 = .ok (.invokevirtual 90, 3) := by decide +kernel
theorem dc_X3_tryCase_35 : decode m_X3_tryCase.2.2.1 35 = .ok (.invokevirtual 112, 3) := by decide +kernel
theorem dc_X3_tryCase_41 : decode m_X3_tryCase.2.2.1 41 = .ok (.if_icmp .eq 5, 3) := by decide +kernel
theorem dc_X3_tryCase_45 : decode m_X3_tryCase.2.2.1 45 = .ok (.ireturn, 1) := by decide +kernel
theorem dc_X3_tryCase_49 : decode m_X3_tryCase.2.2.1 49 = .ok (.goto (-39), 3) := by decide +kernel
theorem dc_X3_tryCase_53 : decode m_X3_tryCase.2.2.1 53 = .ok (.ireturn, 1) := by decide +kernel
theorem ok_X3_tryCase_0_3 : oks m_X3_tryCase.1 m_X3_tryCase.2.2.1 0 [(.aload_n 0, 1, (0, 0, 0)), (.getfield 34, 3, (3, 11, 0)), (.iconst (-1), 1, (0, 0, 0))] = true ∧ plen 0 [(.aload_n 0, 1, (0, 0, 0)), (.getfield 34, 3, (3, 11, 0)), (.iconst (-1), 1, (0, 0, 0))] = 5 := by decide +kernel
theorem ok_X3_tryCase_8_2 : oks m_X3_tryCase.1 m_X3_tryCase.2.2.1 8 [(.iconst 0, 1, (0, 0, 0)), (.istore_n 2, 1, (0, 0, 0))] = true ∧ plen 8 [(.iconst 0, 1, (0, 0, 0)), (.istore_n 2, 1, (0, 0, 0))] = 10 := by decide +kernel
theorem ok_X3_tryCase_10_3 : oks m_X3_tryCase.1 m_X3_tryCase.2.2.1 10 [(.iload_n 2, 1, (0, 0, 0)), (.aload_n 0, 1, (0, 0, 0)), (.getfield 55, 3, (3, 3, 0))] = true ∧ plen 10 [(.iload_n 2, 1, (0, 0, 0)), (.aload_n 0, 1, (0, 0, 0)), (.getfield 55, 3, (3, 3, 0))] = 15 := by decide +kernel
theorem ok_X3_tryCase_21_5 : oks m_X3_tryCase.1 m_X3_tryCase.2.2.1 21 [(.aload_n 0, 1, (0, 0, 0)), (.aload_n 0, 1, (0, 0, 0)), (.getfield 55, 3, (3, 3, 0)), (.iload_n 1, 1, (0, 0, 0)), (.iload_n 2, 1, (0, 0, 0))] = true ∧ plen 21 [(.aload_n 0, 1, (0, 0, 0)), (.aload_n 0, 1, (0, 0, 0)), (.getfield 55, 3, (3, 3, 0)), (.iload_n 1, 1, (0, 0, 0)), (.iload_n 2, 1, (0, 0, 0))] = 28 := by decide +kernel
theorem ok_X3_tryCase_31_4 : oks m_X3_tryCase.1 m_X3_tryCase.2.2.1 31 [(.iload_n 2, 1, (0, 0, 0)), (.iconst 1, 1, (0, 0, 0)), (.iadd, 1, (0, 0, 0)), (.iconst 0, 1, (0, 0, 0))] = true ∧ plen 31 [(.iload_n 2, 1, (0, 0, 0)), (.iconst 1, 1, (0, 0, 0)), (.iadd, 1, (0, 0, 0)), (.iconst 0, 1, (0, 0, 0))] = 35 := by decide +kernel
theorem ok_X3_tryCase_38_3 : oks m_X3_tryCase.1 m_X3_tryCase.2.2.1 38 [(.istore_n 3, 1, (0, 0, 0)), (.iload_n 3, 1, (0, 0, 0)), (.iconst 1, 1, (0, 0, 0))] = true ∧ plen 38 [(.istore_n 3, 1, (0, 0, 0)), (.iload_n 3, 1, (0, 0, 0)), (.iconst 1, 1, (0, 0, 0))] = 41 := by decide +kernel
theorem ok_X3_tryCase_44_1 : oks m_X3_tryCase.1 m_X3_tryCase.2.2.1 44 [(.iload_n 3, 1, (0, 0, 0))] = true ∧ plen 44 [(.iload_n 3, 1, (0, 0, 0))] = 45 := by decide +kernel
theorem ok_X3_tryCase_46_1 : oks m_X3_tryCase.1 m_X3_tryCase.2.2.1 46 [(.iinc 2 1, 3, (0, 0, 0))] = true ∧ plen 46 [(.iinc 2 1, 3, (0, 0, 0))] = 49 := by decide +kernel
theorem ok_X3_tryCase_52_1 : oks m_X3_tryCase.1 m_X3_tryCase.2.2.1 52 [(.iconst 1, 1, (0, 0, 0))] = true ∧ plen 52 [(.iconst 1, 1, (0, 0, 0))] = 53 := by decide +kernel
def L_X3_tryCase_10 (x1 : Int) (x2 : Int) (σ : Sg) : Option ((Int × Sg) ⊕ (Sg ⊕ (Int × Sg))) :=
if (F_X4_columns σ) ≤ x2 then
some (.inr (.inl σ))
else
(F_X3_tryAt 50 (F_X4_get x1 x2 σ) (wrap (x2 + 1)) 0 σ).bind fun q3 =>
if q3.1 = 1 then
some (.inl (wrap (x2 + 1), q3.2))
else
some (.inr (.inr (q3.1, q3.2)))
def F_X3_tryCase (a1 : Int) (σ : Sg) : Option (Int × Sg) :=
bnd (fillF σ 40 6 (-1)) fun s1 =>
(iter (fun a : (Int × Sg) => L_X3_tryCase_10 a1 a.1 a.2) 3000 (0, s1)).bind fun y5 => Sum.elim (fun z7 =>
some (1, z7)) (fun r8 => some r8) y5
theorem lk_X3_tryCase (l : Launch) (d : Nat) (hd : 105 ≤ d) (a1 : Int) (σ : Sg) (q : (Int × Sg)) (h : F_X3_tryCase a1 σ = some q) : CT l d m_X3_tryCase.2.1 m_X3_tryCase.2.2.1 m_X3_tryCase.2.2.2.1 m_X3_tryCase.2.2.2.2 [.inr 37, .inl a1] (LAYC, σ) (some (.inl q.1)) (LAYC, q.2) := by
  obtain ⟨d, rfl⟩ : ∃ e, d = e + 1 := ⟨d - 1, by omega⟩
  have key : Go l m_X3_tryCase (d + 1) LAYC (.inl (some (.inl q.1))) q.2 0 [some (.inr 37), some (.inl a1), none, none] [] σ := by
    unfold F_X3_tryCase at h
    have hL_X3_tryCase_10 : ∀ (x1 : Int) (n : Nat) (a : (Int × Sg)) (y : (Sg ⊕ (Int × Sg))), iter (fun a : (Int × Sg) => L_X3_tryCase_10 x1 a.1 a.2) n a = some y → (Sum.elim (fun y : Sg => Go l m_X3_tryCase (d + 1) LAYC (.inl (some (.inl q.1))) q.2 52 [none, none, none, none] [] y) (fun r : (Int × Sg) => r = q)) y → (fun a : (Int × Sg) => Go l m_X3_tryCase (d + 1) LAYC (.inl (some (.inl q.1))) q.2 10 [some (.inr 37), some (.inl x1), some (.inl a.1), none] [] a.2) a := by
      intro x1
      refine go_iter (G := fun a : (Int × Sg) => Go l m_X3_tryCase (d + 1) LAYC (.inl (some (.inl q.1))) q.2 10 [some (.inr 37), some (.inl x1), some (.inl a.1), none] [] a.2) (K := Sum.elim (fun y : Sg => Go l m_X3_tryCase (d + 1) LAYC (.inl (some (.inl q.1))) q.2 52 [none, none, none, none] [] y) (fun r : (Int × Sg) => r = q)) ?_
      rintro ⟨x2, σ⟩ w h hK
      replace h : L_X3_tryCase_10 x1 x2 σ = some w := h
      show Go l m_X3_tryCase (d + 1) LAYC (.inl (some (.inl q.1))) q.2 10 [some (.inr 37), some (.inl x1), some (.inl x2), none] [] σ
      unfold L_X3_tryCase_10 at h
      refine go_ops ok_X3_tryCase_10_3 (L' := [some (.inr 37), some (.inl x1), some (.inl x2), none]) (st' := [.inr 24, .inl x2]) (σ1 := σ) rfl ?_
      refine go_V (M1 := m_X4_columns) (as := []) (st := [.inl x2]) (k := 24) (ci := 4) dc_X3_tryCase_15 ln_3_109 im_X4_columns (by decide) rfl rfl mk_X4_columns rfl (Nat.le_of_ble_eq_true rfl) (Nat.le_refl _) (v := (some (.inl (F_X4_columns σ)))) (σ1 := σ) (lk_X4_columns l d (by omega) σ _ rfl) _ rfl ?_
      refine go_icmp_ge dc_X3_tryCase_18 (by rfl) (fun hc => ?_) (fun hc => ?_)
      · replace h := (if_pos hc).symm.trans h
        cases h
        refine go_wk (L' := [none, none, none, none]) trivial ?_
        exact hK
      · replace h := (if_neg hc).symm.trans h
        refine go_ops ok_X3_tryCase_21_5 (L' := [some (.inr 37), some (.inl x1), some (.inl x2), none]) (st' := [.inl x2, .inl x1, .inr 24, .inr 37]) (σ1 := σ) rfl ?_
        refine go_V (M1 := m_X4_get) (as := [.inl x1, .inl x2]) (st := [.inr 37]) (k := 24) (ci := 4) dc_X3_tryCase_28 ln_3_90 im_X4_get (by decide) rfl rfl mk_X4_get rfl (Nat.le_of_ble_eq_true rfl) (Nat.le_refl _) (v := (some (.inl (F_X4_get x1 x2 σ)))) (σ1 := σ) (lk_X4_get l d (by omega) x1 x2 σ _ rfl) _ rfl ?_
        refine go_ops ok_X3_tryCase_31_4 (L' := [some (.inr 37), some (.inl x1), some (.inl x2), none]) (st' := [.inl 0, .inl (wrap (x2 + 1)), .inl (F_X4_get x1 x2 σ), .inr 37]) (σ1 := σ) rfl ?_
        obtain ⟨q3, e4, h⟩ := bind_inv h
        refine go_V (M1 := m_X3_tryAt) (as := [.inl (F_X4_get x1 x2 σ), .inl (wrap (x2 + 1)), .inl 0]) (st := []) (k := 37) (ci := 3) dc_X3_tryCase_35 ln_3_112 im_X3_tryAt (by decide) rfl rfl mk_X3_tryAt rfl (Nat.le_of_ble_eq_true rfl) (Nat.le_refl _) (v := (some (.inl q3.1))) (σ1 := q3.2) (lkr_X3_tryAt l 50 d (by omega) (F_X4_get x1 x2 σ) (wrap (x2 + 1)) 0 σ q3 e4) _ rfl ?_
        refine go_ops ok_X3_tryCase_38_3 (L' := [some (.inr 37), some (.inl x1), some (.inl x2), some (.inl q3.1)]) (st' := [.inl 1, .inl q3.1]) (σ1 := q3.2) rfl ?_
        refine go_icmp_eq dc_X3_tryCase_41 (by rfl) (fun hc => ?_) (fun hc => ?_)
        · replace h := (if_pos hc).symm.trans h
          refine go_ops ok_X3_tryCase_46_1 (L' := [some (.inr 37), some (.inl x1), some (.inl (wrap (x2 + 1))), some (.inl q3.1)]) (st' := []) (σ1 := q3.2) rfl ?_
          refine go_goto dc_X3_tryCase_49 (by rfl) ?_
          cases h
          refine go_wk (L' := [some (.inr 37), some (.inl x1), some (.inl (wrap (x2 + 1))), none]) ⟨rfl, rfl, rfl, trivial⟩ ?_
          exact hK
        · replace h := (if_neg hc).symm.trans h
          refine go_ops ok_X3_tryCase_44_1 (L' := [some (.inr 37), some (.inl x1), some (.inl x2), some (.inl q3.1)]) (st' := [.inl q3.1]) (σ1 := q3.2) rfl ?_
          cases h
          have hK2 : _ = q := hK
          subst hK2
          exact go_iret dc_X3_tryCase_45 rfl
    refine go_ops ok_X3_tryCase_0_3 (L' := [some (.inr 37), some (.inl a1), none, none]) (st' := [.inl (-1), .inr 40]) (σ1 := σ) rfl ?_
    obtain ⟨s1, e2, h⟩ := bnd_inv h
    refine go_S (M1 := m_J7_fill_53178) (as := [.inr 40, .inl (-1)]) (st := []) dc_X3_tryCase_5 ln_3_59 sm_J7_fill_53178 mk_J7_fill_53178 rfl (Nat.le_of_ble_eq_true rfl) (Nat.le_refl _) (v := none) (σ1 := s1) (lk_J7_fill_53178 l d LAYC 40 6 rfl _ s1 e2) _ rfl ?_
    refine go_ops ok_X3_tryCase_8_2 (L' := [some (.inr 37), some (.inl a1), some (.inl 0), none]) (st' := []) (σ1 := s1) rfl ?_
    obtain ⟨y5, e6, h⟩ := bind_inv h
    refine hL_X3_tryCase_10 a1 3000 (0, s1) y5 e6 ?_
    rcases y5 with z7 | r8
    rotate_left
    · show r8 = q
      cases h; rfl
    show Go l m_X3_tryCase (d + 1) LAYC (.inl (some (.inl q.1))) q.2 52 [none, none, none, none] [] z7
    rw [Sum.elim_inl] at h
    refine go_ops ok_X3_tryCase_52_1 (L' := [none, none, none, none]) (st' := [.inl 1]) (σ1 := z7) rfl ?_
    have h9 := Option.some.inj h
    subst h9
    exact go_iret dc_X3_tryCase_53 rfl
  have hf := go_ct (as := [.inr 37, .inl a1]) mk_X3_tryCase (by rfl) (Nat.le_of_ble_eq_true rfl) key
  exact hf
theorem dc_X3_seek_7 : decode m_X3_seek.2.2.1 7 = .ok (.invokevirtual 98, 3) := by decide +kernel
theorem dc_X3_seek_10 : decode m_X3_seek.2.2.1 10 = .ok (.if_icmp .ge 63, 3) := by decide +kernel
theorem dc_X3_seek_15 : decode m_X3_seek.2.2.1 15 = .ok (.invokevirtual 102, 3) := by decide +kernel
theorem dc_X3_seek_18 : decode m_X3_seek.2.2.1 18 = .ok (.ifCond .eq 7, 3) := by decide +kernel
theorem dc_X3_seek_22 : decode m_X3_seek.2.2.1 22 = .ok (.goto 8, 3) := by decide +kernel
theorem dc_X3_seek_27 : decode m_X3_seek.2.2.1 27 = .ok (.invokevirtual 106, 3) := by decide +kernel
theorem dc_X3_seek_33 : decode m_X3_seek.2.2.1 33 = .ok (.if_icmp .ne 28, 3) := by decide +kernel
theorem dc_X3_seek_43 : decode m_X3_seek.2.2.1 43 = .ok (.invokevirtual 90, 3) := by decide +kernel
theorem dc_X3_seek_47 : decode m_X3_seek.2.2.1 47 = .ok (.if_icmp .ne 7, 3) := by decide +kernel
theorem dc_X3_seek_51 : decode m_X3_seek.2.2.1 51 = .ok (.goto 4, 3) := by decide +kernel
theorem dc_X3_seek_57 : decode m_X3_seek.2.2.1 57 = .ok (.invokevirtual 94, 3) := by decide +kernel
theorem dc_X3_seek_60 : decode m_X3_seek.2.2.1 60 = .ok (.return_, 1) := by decide +kernel
theorem dc_X3_seek_63 : decode m_X3_seek.2.2.1 63 = .ok (.if_icmp .ne 4, 3) := by decide +kernel
theorem dc_X3_seek_66 : decode m_X3_seek.2.2.1 66 = .ok (.return_, 1) := by decide +kernel
theorem dc_X3_seek_70 : decode m_X3_seek.2.2.1 70 = .ok (.goto (-68), 3) := by decide +kernel
theorem dc_X3_seek_77 : decode m_X3_seek.2.2.1 77 = .ok (.invokevirtual 94, 3) := by decide +kernel
theorem dc_X3_seek_80 : decode m_X3_seek.2.2.1 80 = .ok (.return_, 1) := by decide +kernel
theorem ok_X3_seek_0_2 : oks m_X3_seek.1 m_X3_seek.2.2.1 0 [(.iconst 0, 1, (0, 0, 0)), (.istore_n 1, 1, (0, 0, 0))] = true ∧ plen 0 [(.iconst 0, 1, (0, 0, 0)), (.istore_n 1, 1, (0, 0, 0))] = 2 := by decide +kernel
theorem ok_X3_seek_2_3 : oks m_X3_seek.1 m_X3_seek.2.2.1 2 [(.iload_n 1, 1, (0, 0, 0)), (.aload_n 0, 1, (0, 0, 0)), (.getfield 55, 3, (3, 3, 0))] = true ∧ plen 2 [(.iload_n 1, 1, (0, 0, 0)), (.aload_n 0, 1, (0, 0, 0)), (.getfield 55, 3, (3, 3, 0))] = 7 := by decide +kernel
theorem ok_X3_seek_13_2 : oks m_X3_seek.1 m_X3_seek.2.2.1 13 [(.aload_n 0, 1, (0, 0, 0)), (.iload_n 1, 1, (0, 0, 0))] = true ∧ plen 13 [(.aload_n 0, 1, (0, 0, 0)), (.iload_n 1, 1, (0, 0, 0))] = 15 := by decide +kernel
theorem ok_X3_seek_21_1 : oks m_X3_seek.1 m_X3_seek.2.2.1 21 [(.iconst 0, 1, (0, 0, 0))] = true ∧ plen 21 [(.iconst 0, 1, (0, 0, 0))] = 22 := by decide +kernel
theorem ok_X3_seek_25_2 : oks m_X3_seek.1 m_X3_seek.2.2.1 25 [(.aload_n 0, 1, (0, 0, 0)), (.iload_n 1, 1, (0, 0, 0))] = true ∧ plen 25 [(.aload_n 0, 1, (0, 0, 0)), (.iload_n 1, 1, (0, 0, 0))] = 27 := by decide +kernel
theorem ok_X3_seek_30_3 : oks m_X3_seek.1 m_X3_seek.2.2.1 30 [(.istore_n 2, 1, (0, 0, 0)), (.iload_n 2, 1, (0, 0, 0)), (.iconst 1, 1, (0, 0, 0))] = true ∧ plen 30 [(.istore_n 2, 1, (0, 0, 0)), (.iload_n 2, 1, (0, 0, 0)), (.iconst 1, 1, (0, 0, 0))] = 33 := by decide +kernel
theorem ok_X3_seek_36_5 : oks m_X3_seek.1 m_X3_seek.2.2.1 36 [(.aload_n 0, 1, (0, 0, 0)), (.aload_n 0, 1, (0, 0, 0)), (.getfield 55, 3, (3, 3, 0)), (.iload_n 1, 1, (0, 0, 0)), (.iconst 4, 1, (0, 0, 0))] = true ∧ plen 36 [(.aload_n 0, 1, (0, 0, 0)), (.aload_n 0, 1, (0, 0, 0)), (.getfield 55, 3, (3, 3, 0)), (.iload_n 1, 1, (0, 0, 0)), (.iconst 4, 1, (0, 0, 0))] = 43 := by decide +kernel
theorem ok_X3_seek_46_1 : oks m_X3_seek.1 m_X3_seek.2.2.1 46 [(.iconst (-1), 1, (0, 0, 0))] = true ∧ plen 46 [(.iconst (-1), 1, (0, 0, 0))] = 47 := by decide +kernel
theorem ok_X3_seek_50_1 : oks m_X3_seek.1 m_X3_seek.2.2.1 50 [(.iconst 0, 1, (0, 0, 0))] = true ∧ plen 50 [(.iconst 0, 1, (0, 0, 0))] = 51 := by decide +kernel
theorem ok_X3_seek_54_1 : oks m_X3_seek.1 m_X3_seek.2.2.1 54 [(.iconst 5, 1, (0, 0, 0))] = true ∧ plen 54 [(.iconst 5, 1, (0, 0, 0))] = 55 := by decide +kernel
theorem ok_X3_seek_55_2 : oks m_X3_seek.1 m_X3_seek.2.2.1 55 [(.iload_n 1, 1, (0, 0, 0)), (.iconst 0, 1, (0, 0, 0))] = true ∧ plen 55 [(.iload_n 1, 1, (0, 0, 0)), (.iconst 0, 1, (0, 0, 0))] = 57 := by decide +kernel
theorem ok_X3_seek_61_2 : oks m_X3_seek.1 m_X3_seek.2.2.1 61 [(.iload_n 2, 1, (0, 0, 0)), (.iconst 2, 1, (0, 0, 0))] = true ∧ plen 61 [(.iload_n 2, 1, (0, 0, 0)), (.iconst 2, 1, (0, 0, 0))] = 63 := by decide +kernel
theorem ok_X3_seek_67_1 : oks m_X3_seek.1 m_X3_seek.2.2.1 67 [(.iinc 1 1, 3, (0, 0, 0))] = true ∧ plen 67 [(.iinc 1 1, 3, (0, 0, 0))] = 70 := by decide +kernel
theorem ok_X3_seek_73_4 : oks m_X3_seek.1 m_X3_seek.2.2.1 73 [(.aload_n 0, 1, (0, 0, 0)), (.iconst 2, 1, (0, 0, 0)), (.iconst 0, 1, (0, 0, 0)), (.iconst 0, 1, (0, 0, 0))] = true ∧ plen 73 [(.aload_n 0, 1, (0, 0, 0)), (.iconst 2, 1, (0, 0, 0)), (.iconst 0, 1, (0, 0, 0)), (.iconst 0, 1, (0, 0, 0))] = 77 := by decide +kernel
def B_X3_seek_55 (x1 : Int) (y0 : Int) (σ : Sg) : Option ((Int × Sg) ⊕ (Sg ⊕ Sg)) :=
bnd (F_X3_setNext y0 x1 0 σ) fun q3 =>
some (.inr (.inr q3))
def B_X3_seek_30 (x1 : Int) (y0 : Int) (σ : Sg) : Option ((Int × Sg) ⊕ (Sg ⊕ Sg)) :=
if y0 = 1 then
if (F_X4_get x1 4 σ) = (-1) then
B_X3_seek_55 x1 0 σ
else
B_X3_seek_55 x1 5 σ
else
if y0 = 2 then
some (.inr (.inr σ))
else
some (.inl (wrap (x1 + 1), σ))
def L_X3_seek_2 (x1 : Int) (σ : Sg) : Option ((Int × Sg) ⊕ (Sg ⊕ Sg)) :=
if (F_X4_count σ) ≤ x1 then
some (.inr (.inl σ))
else
if (F_X3_hasFailed x1 σ) = true then
B_X3_seek_30 x1 0 σ
else
(F_X3_tryCase x1 σ).bind fun q1 =>
B_X3_seek_30 x1 q1.1 q1.2
def F_X3_seek (σ : Sg) : Option Sg :=
(iter (fun a : (Int × Sg) => L_X3_seek_2 a.1 a.2) 3000 (0, σ)).bind fun y5 => Sum.elim (fun z7 =>
bnd (F_X3_setNext 2 0 0 z7) fun q9 =>
some q9) (fun r8 => some r8) y5
theorem lk_X3_seek (l : Launch) (d : Nat) (hd : 106 ≤ d) (σ : Sg) (q : Sg) (h : F_X3_seek σ = some q) : CT l d m_X3_seek.2.1 m_X3_seek.2.2.1 m_X3_seek.2.2.2.1 m_X3_seek.2.2.2.2 [.inr 37] (LAYC, σ) none (LAYC, q) := by
  obtain ⟨d, rfl⟩ : ∃ e, d = e + 1 := ⟨d - 1, by omega⟩
  have key : Go l m_X3_seek (d + 1) LAYC (.inl none) q 0 [some (.inr 37), none, none] [] σ := by
    unfold F_X3_seek at h
    have hL_X3_seek_2 : ∀ (n : Nat) (a : (Int × Sg)) (y : (Sg ⊕ Sg)), iter (fun a : (Int × Sg) => L_X3_seek_2 a.1 a.2) n a = some y → (Sum.elim (fun y : Sg => Go l m_X3_seek (d + 1) LAYC (.inl none) q 73 [some (.inr 37), none, none] [] y) (fun r : Sg => r = q)) y → (fun a : (Int × Sg) => Go l m_X3_seek (d + 1) LAYC (.inl none) q 2 [some (.inr 37), some (.inl a.1), none] [] a.2) a := by
      skip
      refine go_iter (G := fun a : (Int × Sg) => Go l m_X3_seek (d + 1) LAYC (.inl none) q 2 [some (.inr 37), some (.inl a.1), none] [] a.2) (K := Sum.elim (fun y : Sg => Go l m_X3_seek (d + 1) LAYC (.inl none) q 73 [some (.inr 37), none, none] [] y) (fun r : Sg => r = q)) ?_
      rintro ⟨x1, σ⟩ w h hK
      replace h : L_X3_seek_2 x1 σ = some w := h
      show Go l m_X3_seek (d + 1) LAYC (.inl none) q 2 [some (.inr 37), some (.inl x1), none] [] σ
      unfold L_X3_seek_2 at h
      have hB_X3_seek_55 : ∀ (x1 : Int) (y0 : Int) (σ : Sg), B_X3_seek_55 x1 y0 σ = some w → Go l m_X3_seek (d + 1) LAYC (.inl none) q 55 [none, some (.inl x1), none] [.inl y0, .inr 37] σ := by
        intro x1 y0 σ h
        unfold B_X3_seek_55 at h
        refine go_ops ok_X3_seek_55_2 (L' := [none, some (.inl x1), none]) (st' := [.inl 0, .inl x1, .inl y0, .inr 37]) (σ1 := σ) rfl ?_
        obtain ⟨q3, e4, h⟩ := bnd_inv h
        refine go_V (M1 := m_X3_setNext) (as := [.inl y0, .inl x1, .inl 0]) (st := []) (k := 37) (ci := 3) dc_X3_seek_57 ln_3_94 im_X3_setNext (by decide) rfl rfl mk_X3_setNext rfl (Nat.le_of_ble_eq_true rfl) (Nat.le_refl _) (v := none) (σ1 := q3) (lk_X3_setNext l d (by omega) y0 x1 0 σ q3 e4.symm) _ rfl ?_
        cases h
        have hK2 : _ = q := hK
        subst hK2
        exact go_vret dc_X3_seek_60 rfl
      have hB_X3_seek_30 : ∀ (x1 : Int) (y0 : Int) (σ : Sg), B_X3_seek_30 x1 y0 σ = some w → Go l m_X3_seek (d + 1) LAYC (.inl none) q 30 [some (.inr 37), some (.inl x1), none] [.inl y0] σ := by
        intro x1 y0 σ h
        unfold B_X3_seek_30 at h
        refine go_ops ok_X3_seek_30_3 (L' := [some (.inr 37), some (.inl x1), some (.inl y0)]) (st' := [.inl 1, .inl y0]) (σ1 := σ) rfl ?_
        refine go_icmp_ne dc_X3_seek_33 (by rfl) (fun hc => ?_) (fun hc => ?_)
        · replace h := (if_neg hc).symm.trans h
          refine go_ops ok_X3_seek_61_2 (L' := [some (.inr 37), some (.inl x1), some (.inl y0)]) (st' := [.inl 2, .inl y0]) (σ1 := σ) rfl ?_
          refine go_icmp_ne dc_X3_seek_63 (by rfl) (fun hc => ?_) (fun hc => ?_)
          · replace h := (if_neg hc).symm.trans h
            refine go_ops ok_X3_seek_67_1 (L' := [some (.inr 37), some (.inl (wrap (x1 + 1))), some (.inl y0)]) (st' := []) (σ1 := σ) rfl ?_
            refine go_goto dc_X3_seek_70 (by rfl) ?_
            cases h
            refine go_wk (L' := [some (.inr 37), some (.inl (wrap (x1 + 1))), none]) ⟨rfl, rfl, trivial⟩ ?_
            exact hK
          · replace h := (if_pos hc).symm.trans h
            cases h
            have hK2 : _ = q := hK
            subst hK2
            exact go_vret dc_X3_seek_66 rfl
        · replace h := (if_pos hc).symm.trans h
          refine go_ops ok_X3_seek_36_5 (L' := [some (.inr 37), some (.inl x1), some (.inl y0)]) (st' := [.inl 4, .inl x1, .inr 24, .inr 37]) (σ1 := σ) rfl ?_
          refine go_V (M1 := m_X4_get) (as := [.inl x1, .inl 4]) (st := [.inr 37]) (k := 24) (ci := 4) dc_X3_seek_43 ln_3_90 im_X4_get (by decide) rfl rfl mk_X4_get rfl (Nat.le_of_ble_eq_true rfl) (Nat.le_refl _) (v := (some (.inl (F_X4_get x1 4 σ)))) (σ1 := σ) (lk_X4_get l d (by omega) x1 4 σ _ rfl) _ rfl ?_
          refine go_ops ok_X3_seek_46_1 (L' := [some (.inr 37), some (.inl x1), some (.inl y0)]) (st' := [.inl (-1), .inl (F_X4_get x1 4 σ), .inr 37]) (σ1 := σ) rfl ?_
          refine go_icmp_ne dc_X3_seek_47 (by rfl) (fun hc => ?_) (fun hc => ?_)
          · replace h := (if_neg hc).symm.trans h
            refine go_ops ok_X3_seek_54_1 (L' := [some (.inr 37), some (.inl x1), some (.inl y0)]) (st' := [.inl 5, .inr 37]) (σ1 := σ) rfl ?_
            refine go_wk (L' := [none, some (.inl x1), none]) ⟨rfl, trivial⟩ ?_
            exact hB_X3_seek_55 x1 5 σ h
          · replace h := (if_pos hc).symm.trans h
            refine go_ops ok_X3_seek_50_1 (L' := [some (.inr 37), some (.inl x1), some (.inl y0)]) (st' := [.inl 0, .inr 37]) (σ1 := σ) rfl ?_
            refine go_goto dc_X3_seek_51 (by rfl) ?_
            refine go_wk (L' := [none, some (.inl x1), none]) ⟨rfl, trivial⟩ ?_
            exact hB_X3_seek_55 x1 0 σ h
      refine go_ops ok_X3_seek_2_3 (L' := [some (.inr 37), some (.inl x1), none]) (st' := [.inr 24, .inl x1]) (σ1 := σ) rfl ?_
      refine go_V (M1 := m_X4_count) (as := []) (st := [.inl x1]) (k := 24) (ci := 4) dc_X3_seek_7 ln_3_98 im_X4_count (by decide) rfl rfl mk_X4_count rfl (Nat.le_of_ble_eq_true rfl) (Nat.le_refl _) (v := (some (.inl (F_X4_count σ)))) (σ1 := σ) (lk_X4_count l d (by omega) σ _ rfl) _ rfl ?_
      refine go_icmp_ge dc_X3_seek_10 (by rfl) (fun hc => ?_) (fun hc => ?_)
      · replace h := (if_pos hc).symm.trans h
        cases h
        refine go_wk (L' := [some (.inr 37), none, none]) ⟨rfl, trivial⟩ ?_
        exact hK
      · replace h := (if_neg hc).symm.trans h
        refine go_ops ok_X3_seek_13_2 (L' := [some (.inr 37), some (.inl x1), none]) (st' := [.inl x1, .inr 37]) (σ1 := σ) rfl ?_
        refine go_V (M1 := m_X3_hasFailed) (as := [.inl x1]) (st := []) (k := 37) (ci := 3) dc_X3_seek_15 ln_3_102 im_X3_hasFailed (by decide) rfl rfl mk_X3_hasFailed rfl (Nat.le_of_ble_eq_true rfl) (Nat.le_refl _) (v := (some (.inl (b2i (F_X3_hasFailed x1 σ))))) (σ1 := σ) (lk_X3_hasFailed l d (by omega) x1 σ _ rfl) _ rfl ?_
        refine go_ifb_eq dc_X3_seek_18 (by rfl) (fun hc => ?_) (fun hc => ?_)
        · replace h := (if_neg hc).symm.trans h
          refine go_ops ok_X3_seek_25_2 (L' := [some (.inr 37), some (.inl x1), none]) (st' := [.inl x1, .inr 37]) (σ1 := σ) rfl ?_
          obtain ⟨q1, e2, h⟩ := bind_inv h
          refine go_V (M1 := m_X3_tryCase) (as := [.inl x1]) (st := []) (k := 37) (ci := 3) dc_X3_seek_27 ln_3_106 im_X3_tryCase (by decide) rfl rfl mk_X3_tryCase rfl (Nat.le_of_ble_eq_true rfl) (Nat.le_refl _) (v := (some (.inl q1.1))) (σ1 := q1.2) (lk_X3_tryCase l d (by omega) x1 σ q1 e2) _ rfl ?_
          exact hB_X3_seek_30 x1 q1.1 q1.2 h
        · replace h := (if_pos hc).symm.trans h
          refine go_ops ok_X3_seek_21_1 (L' := [some (.inr 37), some (.inl x1), none]) (st' := [.inl 0]) (σ1 := σ) rfl ?_
          refine go_goto dc_X3_seek_22 (by rfl) ?_
          exact hB_X3_seek_30 x1 0 σ h
    refine go_ops ok_X3_seek_0_2 (L' := [some (.inr 37), some (.inl 0), none]) (st' := []) (σ1 := σ) rfl ?_
    obtain ⟨y5, e6, h⟩ := bind_inv h
    refine hL_X3_seek_2  3000 (0, σ) y5 e6 ?_
    rcases y5 with z7 | r8
    rotate_left
    · show r8 = q
      cases h; rfl
    show Go l m_X3_seek (d + 1) LAYC (.inl none) q 73 [some (.inr 37), none, none] [] z7
    rw [Sum.elim_inl] at h
    refine go_ops ok_X3_seek_73_4 (L' := [some (.inr 37), none, none]) (st' := [.inl 0, .inl 0, .inl 2, .inr 37]) (σ1 := z7) rfl ?_
    obtain ⟨q9, e10, h⟩ := bnd_inv h
    refine go_V (M1 := m_X3_setNext) (as := [.inl 2, .inl 0, .inl 0]) (st := []) (k := 37) (ci := 3) dc_X3_seek_77 ln_3_94 im_X3_setNext (by decide) rfl rfl mk_X3_setNext rfl (Nat.le_of_ble_eq_true rfl) (Nat.le_refl _) (v := none) (σ1 := q9) (lk_X3_setNext l d (by omega) 2 0 0 z7 q9 e10.symm) _ rfl ?_
    have h9 := Option.some.inj h
    subst h9
    exact go_vret dc_X3_seek_80 rfl
  have hf := go_ct (as := [.inr 37]) mk_X3_seek (by rfl) (Nat.le_of_ble_eq_true rfl) key
  exact hf
theorem dc_X3_markNeed_5 : decode m_X3_markNeed.2.2.1 5 = .ok (.invokestatic 73, 3) := by decide +kernel
theorem dc_X3_markNeed_12 : decode m_X3_markNeed.2.2.1 12 = .ok (.ifCond .ne 22, 3) := by decide +kernel
theorem dc_X3_markNeed_31 : decode m_X3_markNeed.2.2.1 31 = .ok (.invokestatic 65, 3) := by decide +kernel
theorem dc_X3_markNeed_48 : decode m_X3_markNeed.2.2.1 48 = .ok (.invokestatic 65, 3) := by decide +kernel
theorem dc_X3_markNeed_51 : decode m_X3_markNeed.2.2.1 51 = .ok (.return_, 1) := by decide +kernel
theorem ok_X3_markNeed_0_3 : oks m_X3_markNeed.1 m_X3_markNeed.2.2.1 0 [(.aload_n 0, 1, (0, 0, 0)), (.getfield 40, 3, (3, 13, 0)), (.iload_n 1, 1, (0, 0, 0))] = true ∧ plen 0 [(.aload_n 0, 1, (0, 0, 0)), (.getfield 40, 3, (3, 13, 0)), (.iload_n 1, 1, (0, 0, 0))] = 5 := by decide +kernel
theorem ok_X3_markNeed_8_2 : oks m_X3_markNeed.1 m_X3_markNeed.2.2.1 8 [(.istore 4, 2, (0, 0, 0)), (.iload 4, 2, (0, 0, 0))] = true ∧ plen 8 [(.istore 4, 2, (0, 0, 0)), (.iload 4, 2, (0, 0, 0))] = 12 := by decide +kernel
theorem ok_X3_markNeed_15_10 : oks m_X3_markNeed.1 m_X3_markNeed.2.2.1 15 [(.aload_n 0, 1, (0, 0, 0)), (.getfield 37, 3, (3, 12, 0)), (.aload_n 0, 1, (0, 0, 0)), (.dup, 1, (0, 0, 0)), (.getfield 24, 3, (3, 8, 0)), (.dup_x1, 1, (0, 0, 0)), (.iconst 1, 1, (0, 0, 0)), (.iadd, 1, (0, 0, 0)), (.putfield 24, 3, (3, 8, 0)), (.iload_n 1, 1, (0, 0, 0))] = true ∧ plen 15 [(.aload_n 0, 1, (0, 0, 0)), (.getfield 37, 3, (3, 12, 0)), (.aload_n 0, 1, (0, 0, 0)), (.dup, 1, (0, 0, 0)), (.getfield 24, 3, (3, 8, 0)), (.dup_x1, 1, (0, 0, 0)), (.iconst 1, 1, (0, 0, 0)), (.iadd, 1, (0, 0, 0)), (.putfield 24, 3, (3, 8, 0)), (.iload_n 1, 1, (0, 0, 0))] = 31 := by decide +kernel
theorem ok_X3_markNeed_34_10 : oks m_X3_markNeed.1 m_X3_markNeed.2.2.1 34 [(.aload_n 0, 1, (0, 0, 0)), (.getfield 40, 3, (3, 13, 0)), (.iload_n 1, 1, (0, 0, 0)), (.iload 4, 2, (0, 0, 0)), (.iload_n 3, 1, (0, 0, 0)), (.ior, 1, (0, 0, 0)), (.iload_n 2, 1, (0, 0, 0)), (.bipush 8, 2, (0, 0, 0)), (.ishl, 1, (0, 0, 0)), (.ior, 1, (0, 0, 0))] = true ∧ plen 34 [(.aload_n 0, 1, (0, 0, 0)), (.getfield 40, 3, (3, 13, 0)), (.iload_n 1, 1, (0, 0, 0)), (.iload 4, 2, (0, 0, 0)), (.iload_n 3, 1, (0, 0, 0)), (.ior, 1, (0, 0, 0)), (.iload_n 2, 1, (0, 0, 0)), (.bipush 8, 2, (0, 0, 0)), (.ishl, 1, (0, 0, 0)), (.ior, 1, (0, 0, 0))] = 48 := by decide +kernel
def B_X3_markNeed_34 (x1 : Int) (x2 : Int) (x3 : Int) (x4 : Int) (σ : Sg) : Sg :=
bnd (wrD σ 42 469 x1 (jor (jor x4 x3) (jshl x2 8))) fun s3 =>
s3
def F_X3_markNeed (a1 : Int) (a2 : Int) (a3 : Int) (σ : Sg) : Sg :=
bnd (rdD (-1) σ 42 469 a1) fun v1 =>
if v1 = 0 then
bnd (up2 σ 37 8 (wrap ((σ 37 8) + 1))) fun s5 =>
bnd (wrD s5 41 120 (σ 37 8) a1) fun s7 =>
B_X3_markNeed_34 a1 a2 a3 v1 s7
else
B_X3_markNeed_34 a1 a2 a3 v1 σ
theorem lk_X3_markNeed (l : Launch) (d : Nat) (hd : 1 ≤ d) (a1 : Int) (a2 : Int) (a3 : Int) (σ : Sg) (q : Sg) (h : F_X3_markNeed a1 a2 a3 σ = q) : CT l d m_X3_markNeed.2.1 m_X3_markNeed.2.2.1 m_X3_markNeed.2.2.2.1 m_X3_markNeed.2.2.2.2 [.inr 37, .inl a1, .inl a2, .inl a3] (LAYC, σ) none (LAYC, q) := by
  obtain ⟨d, rfl⟩ : ∃ e, d = e + 1 := ⟨d - 1, by omega⟩
  have key : Go l m_X3_markNeed (d + 1) LAYC (.inl none) q 0 [some (.inr 37), some (.inl a1), some (.inl a2), some (.inl a3), none] [] σ := by
    unfold F_X3_markNeed at h
    have hB_X3_markNeed_34 : ∀ (x1 : Int) (x2 : Int) (x3 : Int) (x4 : Int) (σ : Sg), B_X3_markNeed_34 x1 x2 x3 x4 σ = q → Go l m_X3_markNeed (d + 1) LAYC (.inl none) q 34 [some (.inr 37), some (.inl x1), some (.inl x2), some (.inl x3), some (.inl x4)] [] σ := by
      intro x1 x2 x3 x4 σ h
      unfold B_X3_markNeed_34 at h
      refine go_ops ok_X3_markNeed_34_10 (L' := [some (.inr 37), some (.inl x1), some (.inl x2), some (.inl x3), some (.inl x4)]) (st' := [.inl (jor (jor x4 x3) (jshl x2 8)), .inl x1, .inr 42]) (σ1 := σ) rfl ?_
      obtain ⟨s3, e4, h⟩ := bnd_inv h
      refine go_SN (M1 := m_X10_put) (as := [.inr 42, .inl x1, .inl (jor (jor x4 x3) (jshl x2 8))]) (st := []) dc_X3_markNeed_48 ln_3_65 sm_X10_put mk_X10_put rfl (Nat.le_of_ble_eq_true rfl) (Nat.le_refl _) (v := none) (σ1 := s3) (lk_X10_put l d LAYC 42 469 rfl _ _ s3 e4) _ rfl ?_
      subst h
      exact go_vret dc_X3_markNeed_51 rfl
    refine go_ops ok_X3_markNeed_0_3 (L' := [some (.inr 37), some (.inl a1), some (.inl a2), some (.inl a3), none]) (st' := [.inl a1, .inr 42]) (σ1 := σ) rfl ?_
    refine go_SN (M1 := m_X10_at) (as := [.inr 42, .inl a1]) (st := []) dc_X3_markNeed_5 ln_3_73 sm_X10_at mk_X10_at rfl (Nat.le_of_ble_eq_true rfl) (Nat.le_refl _) (v := some (.inl (rdD (-1) σ 42 469 a1))) (σ1 := σ) (lk_X10_at l d LAYC 42 469 rfl σ _) _ rfl ?_
    obtain ⟨v1, e2, h⟩ := bnd_inv h
    refine go_ops ok_X3_markNeed_8_2 (L' := [some (.inr 37), some (.inl a1), some (.inl a2), some (.inl a3), some (.inl v1)]) (st' := [.inl v1]) (σ1 := σ) (by subst e2; rfl) ?_
    refine go_if_ne dc_X3_markNeed_12 (by rfl) (fun hc => ?_) (fun hc => ?_)
    · replace h := (if_neg hc).symm.trans h
      exact hB_X3_markNeed_34 a1 a2 a3 v1 σ h
    · replace h := (if_pos hc).symm.trans h
      obtain ⟨s5, e6, h⟩ := bnd_inv h
      refine go_ops ok_X3_markNeed_15_10 (L' := [some (.inr 37), some (.inl a1), some (.inl a2), some (.inl a3), some (.inl v1)]) (st' := [.inl a1, .inl (σ 37 8), .inr 41]) (σ1 := s5) (by subst e6; rfl) ?_
      obtain ⟨s7, e8, h⟩ := bnd_inv h
      refine go_SN (M1 := m_X10_put) (as := [.inr 41, .inl (σ 37 8), .inl a1]) (st := []) dc_X3_markNeed_31 ln_3_65 sm_X10_put mk_X10_put rfl (Nat.le_of_ble_eq_true rfl) (Nat.le_refl _) (v := none) (σ1 := s7) (lk_X10_put l d LAYC 41 120 rfl _ _ s7 e8) _ rfl ?_
      exact hB_X3_markNeed_34 a1 a2 a3 v1 s7 h
  have hf := go_ct (as := [.inr 37, .inl a1, .inl a2, .inl a3]) mk_X3_markNeed (by rfl) (Nat.le_of_ble_eq_true rfl) key
  exact hf
theorem dc_X3_needHead_5 : decode m_X3_needHead.2.2.1 5 = .ok (.invokestatic 73, 3) := by decide +kernel
theorem dc_X3_needHead_13 : decode m_X3_needHead.2.2.1 13 = .ok (.if_icmp .ne 20, 3) := by decide +kernel
theorem dc_X3_needHead_23 : decode m_X3_needHead.2.2.1 23 = .ok (.invokevirtual 141, 3) := by decide +kernel
theorem dc_X3_needHead_27 : decode m_X3_needHead.2.2.1 27 = .ok (.invokevirtual 168, 3) := by decide +kernel
theorem dc_X3_needHead_30 : decode m_X3_needHead.2.2.1 30 = .ok (.goto 78, 3) := by decide +kernel
theorem dc_X3_needHead_40 : decode m_X3_needHead.2.2.1 40 = .ok (.invokevirtual 144, 3) := by decide +kernel
theorem dc_X3_needHead_43 : decode m_X3_needHead.2.2.1 43 = .ok (.ifCond .eq 65, 3) := by decide +kernel
theorem dc_X3_needHead_53 : decode m_X3_needHead.2.2.1 53 = .ok (.invokevirtual 147, 3) := by decide +kernel
theorem dc_X3_needHead_68 : decode m_X3_needHead.2.2.1 68 = .ok (.invokevirtual 150, 3) := by decide +kernel
theorem dc_X3_needHead_71 : decode m_X3_needHead.2.2.1 71 = .ok (.if_icmp .ge 37, 3) := by decide +kernel
theorem dc_X3_needHead_82 : decode m_X3_needHead.2.2.1 82 = .ok (.invokevirtual 124, 3) := by decide +kernel
theorem dc_X3_needHead_91 : decode m_X3_needHead.2.2.1 91 = .ok (.invokestatic 153, 3) := by decide +kernel
theorem dc_X3_needHead_99 : decode m_X3_needHead.2.2.1 99 = .ok (.invokevirtual 156, 3) := by decide +kernel
theorem dc_X3_needHead_105 : decode m_X3_needHead.2.2.1 105 = .ok (.goto (-44), 3) := by decide +kernel
theorem dc_X3_needHead_108 : decode m_X3_needHead.2.2.1 108 = .ok (.return_, 1) := by decide +kernel
theorem ok_X3_needHead_0_3 : oks m_X3_needHead.1 m_X3_needHead.2.2.1 0 [(.aload_n 0, 1, (0, 0, 0)), (.getfield 27, 3, (3, 9, 0)), (.iload_n 2, 1, (0, 0, 0))] = true ∧ plen 0 [(.aload_n 0, 1, (0, 0, 0)), (.getfield 27, 3, (3, 9, 0)), (.iload_n 2, 1, (0, 0, 0))] = 5 := by decide +kernel
theorem ok_X3_needHead_8_3 : oks m_X3_needHead.1 m_X3_needHead.2.2.1 8 [(.istore 5, 2, (0, 0, 0)), (.iload 5, 2, (0, 0, 0)), (.iconst (-1), 1, (0, 0, 0))] = true ∧ plen 8 [(.istore 5, 2, (0, 0, 0)), (.iload 5, 2, (0, 0, 0)), (.iconst (-1), 1, (0, 0, 0))] = 13 := by decide +kernel
theorem ok_X3_needHead_16_5 : oks m_X3_needHead.1 m_X3_needHead.2.2.1 16 [(.aload_n 0, 1, (0, 0, 0)), (.iload_n 2, 1, (0, 0, 0)), (.aload_n 0, 1, (0, 0, 0)), (.getfield 47, 3, (3, 1, 0)), (.iload_n 1, 1, (0, 0, 0))] = true ∧ plen 16 [(.aload_n 0, 1, (0, 0, 0)), (.iload_n 2, 1, (0, 0, 0)), (.aload_n 0, 1, (0, 0, 0)), (.getfield 47, 3, (3, 1, 0)), (.iload_n 1, 1, (0, 0, 0))] = 23 := by decide +kernel
theorem ok_X3_needHead_26_1 : oks m_X3_needHead.1 m_X3_needHead.2.2.1 26 [(.iload_n 3, 1, (0, 0, 0))] = true ∧ plen 26 [(.iload_n 3, 1, (0, 0, 0))] = 27 := by decide +kernel
theorem ok_X3_needHead_33_4 : oks m_X3_needHead.1 m_X3_needHead.2.2.1 33 [(.aload_n 0, 1, (0, 0, 0)), (.getfield 47, 3, (3, 1, 0)), (.iload_n 1, 1, (0, 0, 0)), (.iload 5, 2, (0, 0, 0))] = true ∧ plen 33 [(.aload_n 0, 1, (0, 0, 0)), (.getfield 47, 3, (3, 1, 0)), (.iload_n 1, 1, (0, 0, 0)), (.iload 5, 2, (0, 0, 0))] = 40 := by decide +kernel
theorem ok_X3_needHead_46_4 : oks m_X3_needHead.1 m_X3_needHead.2.2.1 46 [(.aload_n 0, 1, (0, 0, 0)), (.getfield 47, 3, (3, 1, 0)), (.iload_n 1, 1, (0, 0, 0)), (.iload 5, 2, (0, 0, 0))] = true ∧ plen 46 [(.aload_n 0, 1, (0, 0, 0)), (.getfield 47, 3, (3, 1, 0)), (.iload_n 1, 1, (0, 0, 0)), (.iload 5, 2, (0, 0, 0))] = 53 := by decide +kernel
theorem ok_X3_needHead_56_3 : oks m_X3_needHead.1 m_X3_needHead.2.2.1 56 [(.istore 6, 2, (0, 0, 0)), (.iconst 0, 1, (0, 0, 0)), (.istore 7, 2, (0, 0, 0))] = true ∧ plen 56 [(.istore 6, 2, (0, 0, 0)), (.iconst 0, 1, (0, 0, 0)), (.istore 7, 2, (0, 0, 0))] = 61 := by decide +kernel
theorem ok_X3_needHead_61_4 : oks m_X3_needHead.1 m_X3_needHead.2.2.1 61 [(.iload 7, 2, (0, 0, 0)), (.aload_n 0, 1, (0, 0, 0)), (.getfield 47, 3, (3, 1, 0)), (.iload_n 1, 1, (0, 0, 0))] = true ∧ plen 61 [(.iload 7, 2, (0, 0, 0)), (.aload_n 0, 1, (0, 0, 0)), (.getfield 47, 3, (3, 1, 0)), (.iload_n 1, 1, (0, 0, 0))] = 68 := by decide +kernel
theorem ok_X3_needHead_74_5 : oks m_X3_needHead.1 m_X3_needHead.2.2.1 74 [(.aload_n 0, 1, (0, 0, 0)), (.aload_n 0, 1, (0, 0, 0)), (.getfield 47, 3, (3, 1, 0)), (.iload_n 1, 1, (0, 0, 0)), (.iload 7, 2, (0, 0, 0))] = true ∧ plen 74 [(.aload_n 0, 1, (0, 0, 0)), (.aload_n 0, 1, (0, 0, 0)), (.getfield 47, 3, (3, 1, 0)), (.iload_n 1, 1, (0, 0, 0)), (.iload 7, 2, (0, 0, 0))] = 82 := by decide +kernel
theorem ok_X3_needHead_85_4 : oks m_X3_needHead.1 m_X3_needHead.2.2.1 85 [(.iload_n 2, 1, (0, 0, 0)), (.iload 6, 2, (0, 0, 0)), (.iload 7, 2, (0, 0, 0)), (.iadd, 1, (0, 0, 0))] = true ∧ plen 85 [(.iload_n 2, 1, (0, 0, 0)), (.iload 6, 2, (0, 0, 0)), (.iload 7, 2, (0, 0, 0)), (.iadd, 1, (0, 0, 0))] = 91 := by decide +kernel
theorem ok_X3_needHead_94_4 : oks m_X3_needHead.1 m_X3_needHead.2.2.1 94 [(.iload_n 3, 1, (0, 0, 0)), (.iload 4, 2, (0, 0, 0)), (.iconst 1, 1, (0, 0, 0)), (.iadd, 1, (0, 0, 0))] = true ∧ plen 94 [(.iload_n 3, 1, (0, 0, 0)), (.iload 4, 2, (0, 0, 0)), (.iconst 1, 1, (0, 0, 0)), (.iadd, 1, (0, 0, 0))] = 99 := by decide +kernel
theorem ok_X3_needHead_102_1 : oks m_X3_needHead.1 m_X3_needHead.2.2.1 102 [(.iinc 7 1, 3, (0, 0, 0))] = true ∧ plen 102 [(.iinc 7 1, 3, (0, 0, 0))] = 105 := by decide +kernel
def L_X3_needHead_61 (rec : Int → Int → Int → Int → Sg → Option Sg) (x1 : Int) (x2 : Int) (x3 : Int) (x4 : Int) (x6 : Int) (x7 : Int) (σ : Sg) : Option ((Int × Sg) ⊕ Sg) :=
if (F_X5_partCount x1 σ) ≤ x7 then
some (.inr σ)
else
(rec (F_X5_partOf x1 x7 σ) (F_X10_inner x2 (wrap (x6 + x7))) x3 (wrap (x4 + 1)) σ).bind fun q5 =>
some (.inl (wrap (x7 + 1), q5))
def G_X3_needHead (rec : Int → Int → Int → Int → Sg → Option Sg) (a1 : Int) (a2 : Int) (a3 : Int) (a4 : Int) (σ : Sg) : Option Sg :=
bnd (rdD (-1) σ 38 469 a2) fun v1 =>
if v1 = (-1) then
bnd (F_X3_markNeed a2 (F_X5_kindOf a1 σ) a3 σ) fun q9 =>
some q9
else
if (F_X5_accepts a1 v1 σ) = true then
bnd (F_X5_offset a1 v1 σ) fun v3 =>
(iter (fun a : (Int × Sg) => L_X3_needHead_61 rec a1 a2 a3 a4 v3 a.1 a.2) 3000 (0, σ)).bind fun y7 =>
some y7
else
some σ
theorem lk_X3_needHead (l : Launch) (Dr : Nat) (rec : Int → Int → Int → Int → Sg → Option Sg) (hrec : ∀ d, Dr ≤ d → ∀ (a1 : Int) (a2 : Int) (a3 : Int) (a4 : Int) (σ : Sg) (q : Sg), rec a1 a2 a3 a4 σ = some q → CT l d m_X3_need.2.1 m_X3_need.2.2.1 m_X3_need.2.2.2.1 m_X3_need.2.2.2.2 [.inr 37, .inl a1, .inl a2, .inl a3, .inl a4] (LAYC, σ) none (LAYC, q)) (d : Nat) (hd : Dr + 1 ≤ d) (hdB : 3 ≤ d) (a1 : Int) (a2 : Int) (a3 : Int) (a4 : Int) (σ : Sg) (q : Sg) (h : G_X3_needHead rec a1 a2 a3 a4 σ = some q) : CT l d m_X3_needHead.2.1 m_X3_needHead.2.2.1 m_X3_needHead.2.2.2.1 m_X3_needHead.2.2.2.2 [.inr 37, .inl a1, .inl a2, .inl a3, .inl a4] (LAYC, σ) none (LAYC, q) := by
  obtain ⟨d, rfl⟩ : ∃ e, d = e + 1 := ⟨d - 1, by omega⟩
  have key : Go l m_X3_needHead (d + 1) LAYC (.inl none) q 0 [some (.inr 37), some (.inl a1), some (.inl a2), some (.inl a3), some (.inl a4), none, none, none] [] σ := by
    unfold G_X3_needHead at h
    have hL_X3_needHead_61 : ∀ (x1 : Int) (x2 : Int) (x3 : Int) (x4 : Int) (x6 : Int) (n : Nat) (a : (Int × Sg)) (y : Sg), iter (fun a : (Int × Sg) => L_X3_needHead_61 rec x1 x2 x3 x4 x6 a.1 a.2) n a = some y → (fun y : Sg => Go l m_X3_needHead (d + 1) LAYC (.inl none) q 108 [none, none, none, none, none, none, none, none] [] y) y → (fun a : (Int × Sg) => Go l m_X3_needHead (d + 1) LAYC (.inl none) q 61 [some (.inr 37), some (.inl x1), some (.inl x2), some (.inl x3), some (.inl x4), none, some (.inl x6), some (.inl a.1)] [] a.2) a := by
      intro x1 x2 x3 x4 x6
      refine go_iter (G := fun a : (Int × Sg) => Go l m_X3_needHead (d + 1) LAYC (.inl none) q 61 [some (.inr 37), some (.inl x1), some (.inl x2), some (.inl x3), some (.inl x4), none, some (.inl x6), some (.inl a.1)] [] a.2) (K := fun y : Sg => Go l m_X3_needHead (d + 1) LAYC (.inl none) q 108 [none, none, none, none, none, none, none, none] [] y) ?_
      rintro ⟨x7, σ⟩ w h hK
      replace h : L_X3_needHead_61 rec x1 x2 x3 x4 x6 x7 σ = some w := h
      show Go l m_X3_needHead (d + 1) LAYC (.inl none) q 61 [some (.inr 37), some (.inl x1), some (.inl x2), some (.inl x3), some (.inl x4), none, some (.inl x6), some (.inl x7)] [] σ
      unfold L_X3_needHead_61 at h
      refine go_ops ok_X3_needHead_61_4 (L' := [some (.inr 37), some (.inl x1), some (.inl x2), some (.inl x3), some (.inl x4), none, some (.inl x6), some (.inl x7)]) (st' := [.inl x1, .inr 10, .inl x7]) (σ1 := σ) rfl ?_
      refine go_V (M1 := m_X5_partCount) (as := [.inl x1]) (st := [.inl x7]) (k := 10) (ci := 5) dc_X3_needHead_68 ln_3_150 im_X5_partCount (by decide) rfl rfl mk_X5_partCount rfl (Nat.le_of_ble_eq_true rfl) (Nat.le_refl _) (v := (some (.inl (F_X5_partCount x1 σ)))) (σ1 := σ) (lk_X5_partCount l d (by omega) x1 σ _ rfl) _ rfl ?_
      refine go_icmp_ge dc_X3_needHead_71 (by rfl) (fun hc => ?_) (fun hc => ?_)
      · replace h := (if_pos hc).symm.trans h
        cases h
        refine go_wk (L' := [none, none, none, none, none, none, none, none]) trivial ?_
        exact hK
      · replace h := (if_neg hc).symm.trans h
        refine go_ops ok_X3_needHead_74_5 (L' := [some (.inr 37), some (.inl x1), some (.inl x2), some (.inl x3), some (.inl x4), none, some (.inl x6), some (.inl x7)]) (st' := [.inl x7, .inl x1, .inr 10, .inr 37]) (σ1 := σ) rfl ?_
        refine go_V (M1 := m_X5_partOf) (as := [.inl x1, .inl x7]) (st := [.inr 37]) (k := 10) (ci := 5) dc_X3_needHead_82 ln_3_124 im_X5_partOf (by decide) rfl rfl mk_X5_partOf rfl (Nat.le_of_ble_eq_true rfl) (Nat.le_refl _) (v := (some (.inl (F_X5_partOf x1 x7 σ)))) (σ1 := σ) (lk_X5_partOf l d (by omega) x1 x7 σ _ rfl) _ rfl ?_
        refine go_ops ok_X3_needHead_85_4 (L' := [some (.inr 37), some (.inl x1), some (.inl x2), some (.inl x3), some (.inl x4), none, some (.inl x6), some (.inl x7)]) (st' := [.inl (wrap (x6 + x7)), .inl x2, .inl (F_X5_partOf x1 x7 σ), .inr 37]) (σ1 := σ) rfl ?_
        refine go_SN (M1 := m_X10_inner) (as := [.inl x2, .inl (wrap (x6 + x7))]) (st := [.inl (F_X5_partOf x1 x7 σ), .inr 37]) dc_X3_needHead_91 ln_3_153 sm_X10_inner mk_X10_inner rfl (Nat.le_of_ble_eq_true rfl) (Nat.le_refl _) (v := (some (.inl (F_X10_inner x2 (wrap (x6 + x7)))))) (σ1 := σ) (lk_X10_inner l d (by omega) x2 (wrap (x6 + x7)) σ _ rfl) _ rfl ?_
        refine go_ops ok_X3_needHead_94_4 (L' := [some (.inr 37), some (.inl x1), some (.inl x2), some (.inl x3), some (.inl x4), none, some (.inl x6), some (.inl x7)]) (st' := [.inl (wrap (x4 + 1)), .inl x3, .inl (F_X10_inner x2 (wrap (x6 + x7))), .inl (F_X5_partOf x1 x7 σ), .inr 37]) (σ1 := σ) rfl ?_
        obtain ⟨q5, e6, h⟩ := bind_inv h
        refine go_V (M1 := m_X3_need) (as := [.inl (F_X5_partOf x1 x7 σ), .inl (F_X10_inner x2 (wrap (x6 + x7))), .inl x3, .inl (wrap (x4 + 1))]) (st := []) (k := 37) (ci := 3) dc_X3_needHead_99 ln_3_156 im_X3_need (by decide) rfl rfl mk_X3_need rfl (Nat.le_of_ble_eq_true rfl) (Nat.le_refl _) (v := none) (σ1 := q5) (hrec d (by omega) (F_X5_partOf x1 x7 σ) (F_X10_inner x2 (wrap (x6 + x7))) x3 (wrap (x4 + 1)) σ q5 e6) _ rfl ?_
        refine go_ops ok_X3_needHead_102_1 (L' := [some (.inr 37), some (.inl x1), some (.inl x2), some (.inl x3), some (.inl x4), none, some (.inl x6), some (.inl (wrap (x7 + 1)))]) (st' := []) (σ1 := q5) rfl ?_
        refine go_goto dc_X3_needHead_105 (by rfl) ?_
        cases h
        exact hK
    refine go_ops ok_X3_needHead_0_3 (L' := [some (.inr 37), some (.inl a1), some (.inl a2), some (.inl a3), some (.inl a4), none, none, none]) (st' := [.inl a2, .inr 38]) (σ1 := σ) rfl ?_
    refine go_SN (M1 := m_X10_at) (as := [.inr 38, .inl a2]) (st := []) dc_X3_needHead_5 ln_3_73 sm_X10_at mk_X10_at rfl (Nat.le_of_ble_eq_true rfl) (Nat.le_refl _) (v := some (.inl (rdD (-1) σ 38 469 a2))) (σ1 := σ) (lk_X10_at l d LAYC 38 469 rfl σ _) _ rfl ?_
    obtain ⟨v1, e2, h⟩ := bnd_inv h
    refine go_ops ok_X3_needHead_8_3 (L' := [some (.inr 37), some (.inl a1), some (.inl a2), some (.inl a3), some (.inl a4), some (.inl v1), none, none]) (st' := [.inl (-1), .inl v1]) (σ1 := σ) (by subst e2; rfl) ?_
    refine go_icmp_ne dc_X3_needHead_13 (by rfl) (fun hc => ?_) (fun hc => ?_)
    · replace h := (if_neg hc).symm.trans h
      refine go_ops ok_X3_needHead_33_4 (L' := [some (.inr 37), some (.inl a1), some (.inl a2), some (.inl a3), some (.inl a4), some (.inl v1), none, none]) (st' := [.inl v1, .inl a1, .inr 10]) (σ1 := σ) rfl ?_
      refine go_V (M1 := m_X5_accepts) (as := [.inl a1, .inl v1]) (st := []) (k := 10) (ci := 5) dc_X3_needHead_40 ln_3_144 im_X5_accepts (by decide) rfl rfl mk_X5_accepts rfl (Nat.le_of_ble_eq_true rfl) (Nat.le_refl _) (v := (some (.inl (b2i (F_X5_accepts a1 v1 σ))))) (σ1 := σ) (lk_X5_accepts l d (by omega) a1 v1 σ _ rfl) _ rfl ?_
      refine go_ifb_eq dc_X3_needHead_43 (by rfl) (fun hc => ?_) (fun hc => ?_)
      · replace h := (if_neg hc).symm.trans h
        have h9 := Option.some.inj h
        subst h9
        exact go_vret dc_X3_needHead_108 rfl
      · replace h := (if_pos hc).symm.trans h
        refine go_ops ok_X3_needHead_46_4 (L' := [some (.inr 37), some (.inl a1), some (.inl a2), some (.inl a3), some (.inl a4), some (.inl v1), none, none]) (st' := [.inl v1, .inl a1, .inr 10]) (σ1 := σ) rfl ?_
        refine go_V (M1 := m_X5_offset) (as := [.inl a1, .inl v1]) (st := []) (k := 10) (ci := 5) dc_X3_needHead_53 ln_3_147 im_X5_offset (by decide) rfl rfl mk_X5_offset rfl (Nat.le_of_ble_eq_true rfl) (Nat.le_refl _) (v := (some (.inl (F_X5_offset a1 v1 σ)))) (σ1 := σ) (lk_X5_offset l d (by omega) a1 v1 σ _ rfl) _ rfl ?_
        obtain ⟨v3, e4, h⟩ := bnd_inv h
        refine go_ops ok_X3_needHead_56_3 (L' := [some (.inr 37), some (.inl a1), some (.inl a2), some (.inl a3), some (.inl a4), some (.inl v1), some (.inl v3), some (.inl 0)]) (st' := []) (σ1 := σ) (by subst e4; rfl) ?_
        refine go_wk (L' := [some (.inr 37), some (.inl a1), some (.inl a2), some (.inl a3), some (.inl a4), none, some (.inl v3), some (.inl 0)]) ⟨rfl, rfl, rfl, rfl, rfl, rfl, rfl, trivial⟩ ?_
        obtain ⟨y7, e8, h⟩ := bind_inv h
        refine hL_X3_needHead_61 a1 a2 a3 a4 v3 3000 (0, σ) y7 e8 ?_
        show Go l m_X3_needHead (d + 1) LAYC (.inl none) q 108 [none, none, none, none, none, none, none, none] [] y7
        have h9 := Option.some.inj h
        subst h9
        exact go_vret dc_X3_needHead_108 rfl
    · replace h := (if_pos hc).symm.trans h
      refine go_ops ok_X3_needHead_16_5 (L' := [some (.inr 37), some (.inl a1), some (.inl a2), some (.inl a3), some (.inl a4), some (.inl v1), none, none]) (st' := [.inl a1, .inr 10, .inl a2, .inr 37]) (σ1 := σ) rfl ?_
      refine go_V (M1 := m_X5_kindOf) (as := [.inl a1]) (st := [.inl a2, .inr 37]) (k := 10) (ci := 5) dc_X3_needHead_23 ln_3_141 im_X5_kindOf (by decide) rfl rfl mk_X5_kindOf rfl (Nat.le_of_ble_eq_true rfl) (Nat.le_refl _) (v := (some (.inl (F_X5_kindOf a1 σ)))) (σ1 := σ) (lk_X5_kindOf l d (by omega) a1 σ _ rfl) _ rfl ?_
      refine go_ops ok_X3_needHead_26_1 (L' := [some (.inr 37), some (.inl a1), some (.inl a2), some (.inl a3), some (.inl a4), some (.inl v1), none, none]) (st' := [.inl a3, .inl (F_X5_kindOf a1 σ), .inl a2, .inr 37]) (σ1 := σ) rfl ?_
      obtain ⟨q9, e10, h⟩ := bnd_inv h
      refine go_V (M1 := m_X3_markNeed) (as := [.inl a2, .inl (F_X5_kindOf a1 σ), .inl a3]) (st := []) (k := 37) (ci := 3) dc_X3_needHead_27 ln_3_168 im_X3_markNeed (by decide) rfl rfl mk_X3_markNeed rfl (Nat.le_of_ble_eq_true rfl) (Nat.le_refl _) (v := none) (σ1 := q9) (lk_X3_markNeed l d (by omega) a2 (F_X5_kindOf a1 σ) a3 σ q9 e10.symm) _ rfl ?_
      refine go_goto dc_X3_needHead_30 (by rfl) ?_
      have h9 := Option.some.inj h
      subst h9
      exact go_vret dc_X3_needHead_108 rfl
  have hf := go_ct (as := [.inr 37, .inl a1, .inl a2, .inl a3, .inl a4]) mk_X3_needHead (by rfl) (Nat.le_of_ble_eq_true rfl) key
  exact hf
theorem dc_X3_need_4 : decode m_X3_need.2.2.1 4 = .ok (.if_icmp .le 4, 3) := by decide +kernel
theorem dc_X3_need_7 : decode m_X3_need.2.2.1 7 = .ok (.return_, 1) := by decide +kernel
theorem dc_X3_need_13 : decode m_X3_need.2.2.1 13 = .ok (.invokevirtual 116, 3) := by decide +kernel
theorem dc_X3_need_16 : decode m_X3_need.2.2.1 16 = .ok (.tableswitch 84 0 5 #[40, 41, 84, 84, 41, 40], 40) := by decide +kernel
theorem dc_X3_need_56 : decode m_X3_need.2.2.1 56 = .ok (.return_, 1) := by decide +kernel
theorem dc_X3_need_67 : decode m_X3_need.2.2.1 67 = .ok (.invokevirtual 150, 3) := by decide +kernel
theorem dc_X3_need_70 : decode m_X3_need.2.2.1 70 = .ok (.if_icmp .ge 29, 3) := by decide +kernel
theorem dc_X3_need_81 : decode m_X3_need.2.2.1 81 = .ok (.invokevirtual 124, 3) := by decide +kernel
theorem dc_X3_need_90 : decode m_X3_need.2.2.1 90 = .ok (.invokevirtual 156, 3) := by decide +kernel
theorem dc_X3_need_96 : decode m_X3_need.2.2.1 96 = .ok (.goto (-36), 3) := by decide +kernel
theorem dc_X3_need_99 : decode m_X3_need.2.2.1 99 = .ok (.return_, 1) := by decide +kernel
theorem dc_X3_need_106 : decode m_X3_need.2.2.1 106 = .ok (.invokevirtual 165, 3) := by decide +kernel
theorem dc_X3_need_109 : decode m_X3_need.2.2.1 109 = .ok (.return_, 1) := by decide +kernel
theorem ok_X3_need_0_2 : oks m_X3_need.1 m_X3_need.2.2.1 0 [(.iload 4, 2, (0, 0, 0)), (.bipush 40, 2, (0, 0, 0))] = true ∧ plen 0 [(.iload 4, 2, (0, 0, 0)), (.bipush 40, 2, (0, 0, 0))] = 4 := by decide +kernel
theorem ok_X3_need_8_3 : oks m_X3_need.1 m_X3_need.2.2.1 8 [(.aload_n 0, 1, (0, 0, 0)), (.getfield 47, 3, (3, 1, 0)), (.iload_n 1, 1, (0, 0, 0))] = true ∧ plen 8 [(.aload_n 0, 1, (0, 0, 0)), (.getfield 47, 3, (3, 1, 0)), (.iload_n 1, 1, (0, 0, 0))] = 13 := by decide +kernel
theorem ok_X3_need_57_2 : oks m_X3_need.1 m_X3_need.2.2.1 57 [(.iconst 0, 1, (0, 0, 0)), (.istore 5, 2, (0, 0, 0))] = true ∧ plen 57 [(.iconst 0, 1, (0, 0, 0)), (.istore 5, 2, (0, 0, 0))] = 60 := by decide +kernel
theorem ok_X3_need_60_4 : oks m_X3_need.1 m_X3_need.2.2.1 60 [(.iload 5, 2, (0, 0, 0)), (.aload_n 0, 1, (0, 0, 0)), (.getfield 47, 3, (3, 1, 0)), (.iload_n 1, 1, (0, 0, 0))] = true ∧ plen 60 [(.iload 5, 2, (0, 0, 0)), (.aload_n 0, 1, (0, 0, 0)), (.getfield 47, 3, (3, 1, 0)), (.iload_n 1, 1, (0, 0, 0))] = 67 := by decide +kernel
theorem ok_X3_need_73_5 : oks m_X3_need.1 m_X3_need.2.2.1 73 [(.aload_n 0, 1, (0, 0, 0)), (.aload_n 0, 1, (0, 0, 0)), (.getfield 47, 3, (3, 1, 0)), (.iload_n 1, 1, (0, 0, 0)), (.iload 5, 2, (0, 0, 0))] = true ∧ plen 73 [(.aload_n 0, 1, (0, 0, 0)), (.aload_n 0, 1, (0, 0, 0)), (.getfield 47, 3, (3, 1, 0)), (.iload_n 1, 1, (0, 0, 0)), (.iload 5, 2, (0, 0, 0))] = 81 := by decide +kernel
theorem ok_X3_need_84_5 : oks m_X3_need.1 m_X3_need.2.2.1 84 [(.iload_n 2, 1, (0, 0, 0)), (.iload_n 3, 1, (0, 0, 0)), (.iload 4, 2, (0, 0, 0)), (.iconst 1, 1, (0, 0, 0)), (.iadd, 1, (0, 0, 0))] = true ∧ plen 84 [(.iload_n 2, 1, (0, 0, 0)), (.iload_n 3, 1, (0, 0, 0)), (.iload 4, 2, (0, 0, 0)), (.iconst 1, 1, (0, 0, 0)), (.iadd, 1, (0, 0, 0))] = 90 := by decide +kernel
theorem ok_X3_need_93_1 : oks m_X3_need.1 m_X3_need.2.2.1 93 [(.iinc 5 1, 3, (0, 0, 0))] = true ∧ plen 93 [(.iinc 5 1, 3, (0, 0, 0))] = 96 := by decide +kernel
theorem ok_X3_need_100_5 : oks m_X3_need.1 m_X3_need.2.2.1 100 [(.aload_n 0, 1, (0, 0, 0)), (.iload_n 1, 1, (0, 0, 0)), (.iload_n 2, 1, (0, 0, 0)), (.iload_n 3, 1, (0, 0, 0)), (.iload 4, 2, (0, 0, 0))] = true ∧ plen 100 [(.aload_n 0, 1, (0, 0, 0)), (.iload_n 1, 1, (0, 0, 0)), (.iload_n 2, 1, (0, 0, 0)), (.iload_n 3, 1, (0, 0, 0)), (.iload 4, 2, (0, 0, 0))] = 106 := by decide +kernel
def L_X3_need_60 (rec : Int → Int → Int → Int → Sg → Option Sg) (x1 : Int) (x2 : Int) (x3 : Int) (x4 : Int) (x5 : Int) (σ : Sg) : Option ((Int × Sg) ⊕ Sg) :=
if (F_X5_partCount x1 σ) ≤ x5 then
some (.inr σ)
else
(rec (F_X5_partOf x1 x5 σ) x2 x3 (wrap (x4 + 1)) σ).bind fun q2 =>
some (.inl (wrap (x5 + 1), q2))
def B_X3_need_57 (rec : Int → Int → Int → Int → Sg → Option Sg) (x1 : Int) (x2 : Int) (x3 : Int) (x4 : Int) (σ : Sg) : Option Sg :=
(iter (fun a : (Int × Sg) => L_X3_need_60 rec x1 x2 x3 x4 a.1 a.2) 3000 (0, σ)).bind fun y4 =>
some y4
def B_X3_need_100 (rec : Int → Int → Int → Int → Sg → Option Sg) (x1 : Int) (x2 : Int) (x3 : Int) (x4 : Int) (σ : Sg) : Option Sg :=
(G_X3_needHead rec x1 x2 x3 x4 σ).bind fun q9 =>
some q9
def G_X3_need (rec : Int → Int → Int → Int → Sg → Option Sg) (a1 : Int) (a2 : Int) (a3 : Int) (a4 : Int) (σ : Sg) : Option Sg :=
if a4 ≤ 40 then
if (F_X5_sortOf a1 σ) = 0 then
some σ
else if (F_X5_sortOf a1 σ) = 1 then
B_X3_need_57 rec a1 a2 a3 a4 σ
else if (F_X5_sortOf a1 σ) = 4 then
B_X3_need_57 rec a1 a2 a3 a4 σ
else if (F_X5_sortOf a1 σ) = 5 then
some σ
else B_X3_need_100 rec a1 a2 a3 a4 σ
else
some σ
theorem lk_X3_need (l : Launch) (Dr : Nat) (rec : Int → Int → Int → Int → Sg → Option Sg) (hrec : ∀ d, Dr ≤ d → ∀ (a1 : Int) (a2 : Int) (a3 : Int) (a4 : Int) (σ : Sg) (q : Sg), rec a1 a2 a3 a4 σ = some q → CT l d m_X3_need.2.1 m_X3_need.2.2.1 m_X3_need.2.2.2.1 m_X3_need.2.2.2.2 [.inr 37, .inl a1, .inl a2, .inl a3, .inl a4] (LAYC, σ) none (LAYC, q)) (d : Nat) (hd : Dr + 2 ≤ d) (hdB : 4 ≤ d) (a1 : Int) (a2 : Int) (a3 : Int) (a4 : Int) (σ : Sg) (q : Sg) (h : G_X3_need rec a1 a2 a3 a4 σ = some q) : CT l d m_X3_need.2.1 m_X3_need.2.2.1 m_X3_need.2.2.2.1 m_X3_need.2.2.2.2 [.inr 37, .inl a1, .inl a2, .inl a3, .inl a4] (LAYC, σ) none (LAYC, q) := by
  obtain ⟨d, rfl⟩ : ∃ e, d = e + 1 := ⟨d - 1, by omega⟩
  have key : Go l m_X3_need (d + 1) LAYC (.inl none) q 0 [some (.inr 37), some (.inl a1), some (.inl a2), some (.inl a3), some (.inl a4), none] [] σ := by
    unfold G_X3_need at h
    have hL_X3_need_60 : ∀ (x1 : Int) (x2 : Int) (x3 : Int) (x4 : Int) (n : Nat) (a : (Int × Sg)) (y : Sg), iter (fun a : (Int × Sg) => L_X3_need_60 rec x1 x2 x3 x4 a.1 a.2) n a = some y → (fun y : Sg => Go l m_X3_need (d + 1) LAYC (.inl none) q 99 [none, none, none, none, none, none] [] y) y → (fun a : (Int × Sg) => Go l m_X3_need (d + 1) LAYC (.inl none) q 60 [some (.inr 37), some (.inl x1), some (.inl x2), some (.inl x3), some (.inl x4), some (.inl a.1)] [] a.2) a := by
      intro x1 x2 x3 x4
      refine go_iter (G := fun a : (Int × Sg) => Go l m_X3_need (d + 1) LAYC (.inl none) q 60 [some (.inr 37), some (.inl x1), some (.inl x2), some (.inl x3), some (.inl x4), some (.inl a.1)] [] a.2) (K := fun y : Sg => Go l m_X3_need (d + 1) LAYC (.inl none) q 99 [none, none, none, none, none, none] [] y) ?_
      rintro ⟨x5, σ⟩ w h hK
      replace h : L_X3_need_60 rec x1 x2 x3 x4 x5 σ = some w := h
      show Go l m_X3_need (d + 1) LAYC (.inl none) q 60 [some (.inr 37), some (.inl x1), some (.inl x2), some (.inl x3), some (.inl x4), some (.inl x5)] [] σ
      unfold L_X3_need_60 at h
      refine go_ops ok_X3_need_60_4 (L' := [some (.inr 37), some (.inl x1), some (.inl x2), some (.inl x3), some (.inl x4), some (.inl x5)]) (st' := [.inl x1, .inr 10, .inl x5]) (σ1 := σ) rfl ?_
      refine go_V (M1 := m_X5_partCount) (as := [.inl x1]) (st := [.inl x5]) (k := 10) (ci := 5) dc_X3_need_67 ln_3_150 im_X5_partCount (by decide) rfl rfl mk_X5_partCount rfl (Nat.le_of_ble_eq_true rfl) (Nat.le_refl _) (v := (some (.inl (F_X5_partCount x1 σ)))) (σ1 := σ) (lk_X5_partCount l d (by omega) x1 σ _ rfl) _ rfl ?_
      refine go_icmp_ge dc_X3_need_70 (by rfl) (fun hc => ?_) (fun hc => ?_)
      · replace h := (if_pos hc).symm.trans h
        cases h
        refine go_wk (L' := [none, none, none, none, none, none]) trivial ?_
        exact hK
      · replace h := (if_neg hc).symm.trans h
        refine go_ops ok_X3_need_73_5 (L' := [some (.inr 37), some (.inl x1), some (.inl x2), some (.inl x3), some (.inl x4), some (.inl x5)]) (st' := [.inl x5, .inl x1, .inr 10, .inr 37]) (σ1 := σ) rfl ?_
        refine go_V (M1 := m_X5_partOf) (as := [.inl x1, .inl x5]) (st := [.inr 37]) (k := 10) (ci := 5) dc_X3_need_81 ln_3_124 im_X5_partOf (by decide) rfl rfl mk_X5_partOf rfl (Nat.le_of_ble_eq_true rfl) (Nat.le_refl _) (v := (some (.inl (F_X5_partOf x1 x5 σ)))) (σ1 := σ) (lk_X5_partOf l d (by omega) x1 x5 σ _ rfl) _ rfl ?_
        refine go_ops ok_X3_need_84_5 (L' := [some (.inr 37), some (.inl x1), some (.inl x2), some (.inl x3), some (.inl x4), some (.inl x5)]) (st' := [.inl (wrap (x4 + 1)), .inl x3, .inl x2, .inl (F_X5_partOf x1 x5 σ), .inr 37]) (σ1 := σ) rfl ?_
        obtain ⟨q2, e3, h⟩ := bind_inv h
        refine go_V (M1 := m_X3_need) (as := [.inl (F_X5_partOf x1 x5 σ), .inl x2, .inl x3, .inl (wrap (x4 + 1))]) (st := []) (k := 37) (ci := 3) dc_X3_need_90 ln_3_156 im_X3_need (by decide) rfl rfl mk_X3_need rfl (Nat.le_of_ble_eq_true rfl) (Nat.le_refl _) (v := none) (σ1 := q2) (hrec d (by omega) (F_X5_partOf x1 x5 σ) x2 x3 (wrap (x4 + 1)) σ q2 e3) _ rfl ?_
        refine go_ops ok_X3_need_93_1 (L' := [some (.inr 37), some (.inl x1), some (.inl x2), some (.inl x3), some (.inl x4), some (.inl (wrap (x5 + 1)))]) (st' := []) (σ1 := q2) rfl ?_
        refine go_goto dc_X3_need_96 (by rfl) ?_
        cases h
        exact hK
    have hB_X3_need_57 : ∀ (x1 : Int) (x2 : Int) (x3 : Int) (x4 : Int) (σ : Sg), B_X3_need_57 rec x1 x2 x3 x4 σ = some q → Go l m_X3_need (d + 1) LAYC (.inl none) q 57 [some (.inr 37), some (.inl x1), some (.inl x2), some (.inl x3), some (.inl x4), none] [] σ := by
      intro x1 x2 x3 x4 σ h
      unfold B_X3_need_57 at h
      refine go_ops ok_X3_need_57_2 (L' := [some (.inr 37), some (.inl x1), some (.inl x2), some (.inl x3), some (.inl x4), some (.inl 0)]) (st' := []) (σ1 := σ) rfl ?_
      obtain ⟨y4, e5, h⟩ := bind_inv h
      refine hL_X3_need_60 x1 x2 x3 x4 3000 (0, σ) y4 e5 ?_
      show Go l m_X3_need (d + 1) LAYC (.inl none) q 99 [none, none, none, none, none, none] [] y4
      have h9 := Option.some.inj h
      subst h9
      exact go_vret dc_X3_need_99 rfl
    have hB_X3_need_100 : ∀ (x1 : Int) (x2 : Int) (x3 : Int) (x4 : Int) (σ : Sg), B_X3_need_100 rec x1 x2 x3 x4 σ = some q → Go l m_X3_need (d + 1) LAYC (.inl none) q 100 [some (.inr 37), some (.inl x1), some (.inl x2), some (.inl x3), some (.inl x4), none] [] σ := by
      intro x1 x2 x3 x4 σ h
      unfold B_X3_need_100 at h
      refine go_ops ok_X3_need_100_5 (L' := [some (.inr 37), some (.inl x1), some (.inl x2), some (.inl x3), some (.inl x4), none]) (st' := [.inl x4, .inl x3, .inl x2, .inl x1, .inr 37]) (σ1 := σ) rfl ?_
      obtain ⟨q9, e10, h⟩ := bind_inv h
      refine go_V (M1 := m_X3_needHead) (as := [.inl x1, .inl x2, .inl x3, .inl x4]) (st := []) (k := 37) (ci := 3) dc_X3_need_106 ln_3_165 im_X3_needHead (by decide) rfl rfl mk_X3_needHead rfl (Nat.le_of_ble_eq_true rfl) (Nat.le_refl _) (v := none) (σ1 := q9) (lk_X3_needHead l Dr rec hrec d (by omega) (by omega) x1 x2 x3 x4 σ q9 e10) _ rfl ?_
      have h9 := Option.some.inj h
      subst h9
      exact go_vret dc_X3_need_109 rfl
    refine go_ops ok_X3_need_0_2 (L' := [some (.inr 37), some (.inl a1), some (.inl a2), some (.inl a3), some (.inl a4), none]) (st' := [.inl 40, .inl a4]) (σ1 := σ) rfl ?_
    refine go_icmp_le dc_X3_need_4 (by rfl) (fun hc => ?_) (fun hc => ?_)
    · replace h := (if_pos hc).symm.trans h
      refine go_ops ok_X3_need_8_3 (L' := [some (.inr 37), some (.inl a1), some (.inl a2), some (.inl a3), some (.inl a4), none]) (st' := [.inl a1, .inr 10]) (σ1 := σ) rfl ?_
      refine go_V (M1 := m_X5_sortOf) (as := [.inl a1]) (st := []) (k := 10) (ci := 5) dc_X3_need_13 ln_3_116 im_X5_sortOf (by decide) rfl rfl mk_X5_sortOf rfl (Nat.le_of_ble_eq_true rfl) (Nat.le_refl _) (v := (some (.inl (F_X5_sortOf a1 σ)))) (σ1 := σ) (lk_X5_sortOf l d (by omega) a1 σ _ rfl) _ rfl ?_
      rcases Decidable.em ((F_X5_sortOf a1 σ) = 0) with hs1 | hs1
      · replace h := (if_pos hs1).symm.trans h
        refine go_tsw (off := 40) dc_X3_need_16 (by decide) (by decide) (tsk hs1 (by decide +kernel)) (by rfl) ?_
        have h9 := Option.some.inj h
        subst h9
        exact go_vret dc_X3_need_56 rfl
      replace h := (if_neg hs1).symm.trans h
      rcases Decidable.em ((F_X5_sortOf a1 σ) = 1) with hs6 | hs6
      · replace h := (if_pos hs6).symm.trans h
        refine go_tsw (off := 41) dc_X3_need_16 (by decide) (by decide) (tsk hs6 (by decide +kernel)) (by rfl) ?_
        exact hB_X3_need_57 a1 a2 a3 a4 σ h
      replace h := (if_neg hs6).symm.trans h
      rcases Decidable.em ((F_X5_sortOf a1 σ) = 4) with hs7 | hs7
      · replace h := (if_pos hs7).symm.trans h
        refine go_tsw (off := 41) dc_X3_need_16 (by decide) (by decide) (tsk hs7 (by decide +kernel)) (by rfl) ?_
        exact hB_X3_need_57 a1 a2 a3 a4 σ h
      replace h := (if_neg hs7).symm.trans h
      rcases Decidable.em ((F_X5_sortOf a1 σ) = 5) with hs8 | hs8
      · replace h := (if_pos hs8).symm.trans h
        refine go_tsw (off := 40) dc_X3_need_16 (by decide) (by decide) (tsk hs8 (by decide +kernel)) (by rfl) ?_
        have h9 := Option.some.inj h
        subst h9
        exact go_vret dc_X3_need_56 rfl
      replace h := (if_neg hs8).symm.trans h
      refine go_tsw (off := 84) dc_X3_need_16 (by decide) (by decide) (ts_d [0, 1, 4, 5] (nn1 hs1 (nn1 hs6 (nn1 hs7 (nn1 hs8 nn0)))) (by decide +kernel)) (by rfl) ?_
      exact hB_X3_need_100 a1 a2 a3 a4 σ h
    · replace h := (if_neg hc).symm.trans h
      have h9 := Option.some.inj h
      subst h9
      exact go_vret dc_X3_need_7 rfl
  have hf := go_ct (as := [.inr 37, .inl a1, .inl a2, .inl a3, .inl a4]) mk_X3_need (by rfl) (Nat.le_of_ble_eq_true rfl) key
  exact hf
def F_X3_need : Nat → Int → Int → Int → Int → Sg → Option Sg
  | 0 => fun _ _ _ _ _ => none
  | n + 1 => G_X3_need (F_X3_need n)
theorem lkr_X3_need (l : Launch) : ∀ (n d : Nat), 2 * n + 4 ≤ d → ∀ (a1 : Int) (a2 : Int) (a3 : Int) (a4 : Int) (σ : Sg) (q : Sg), F_X3_need n a1 a2 a3 a4 σ = some q → CT l d m_X3_need.2.1 m_X3_need.2.2.1 m_X3_need.2.2.2.1 m_X3_need.2.2.2.2 [.inr 37, .inl a1, .inl a2, .inl a3, .inl a4] (LAYC, σ) none (LAYC, q)
  | 0, d, hd, a1, a2, a3, a4, σ, q, h => by cases h
  | n + 1, d, hd, a1, a2, a3, a4, σ, q, h => lk_X3_need l (2 * n + 4) (F_X3_need n) (fun d hd => lkr_X3_need l n d hd) d (by omega) (by omega) a1 a2 a3 a4 σ q h
theorem dc_J6_bitCount_0f7a4_52 : decode m_J6_bitCount_0f7a4.2.2.1 52 = .ok (.ireturn, 1) := by decide +kernel
theorem ok_J6_bitCount_0f7a4_0_41 : oks m_J6_bitCount_0f7a4.1 m_J6_bitCount_0f7a4.2.2.1 0 [(.iload_n 0, 1, (0, 0, 0)), (.iload_n 0, 1, (0, 0, 0)), (.iconst 1, 1, (0, 0, 0)), (.iushr, 1, (0, 0, 0)), (.ldc_w 265, 3, (0, 0, 1431655765)), (.iand, 1, (0, 0, 0)), (.isub, 1, (0, 0, 0)), (.istore_n 0, 1, (0, 0, 0)), (.iload_n 0, 1, (0, 0, 0)), (.ldc_w 266, 3, (0, 0, 858993459)), (.iand, 1, (0, 0, 0)), (.iload_n 0, 1, (0, 0, 0)), (.iconst 2, 1, (0, 0, 0)), (.iushr, 1, (0, 0, 0)), (.ldc_w 266, 3, (0, 0, 858993459)), (.iand, 1, (0, 0, 0)), (.iadd, 1, (0, 0, 0)), (.istore_n 0, 1, (0, 0, 0)), (.iload_n 0, 1, (0, 0, 0)), (.iload_n 0, 1, (0, 0, 0)), (.iconst 4, 1, (0, 0, 0)), (.iushr, 1, (0, 0, 0)), (.iadd, 1, (0, 0, 0)), (.ldc_w 267, 3, (0, 0, 252645135)), (.iand, 1, (0, 0, 0)), (.istore_n 0, 1, (0, 0, 0)), (.iload_n 0, 1, (0, 0, 0)), (.iload_n 0, 1, (0, 0, 0)), (.bipush 8, 2, (0, 0, 0)), (.iushr, 1, (0, 0, 0)), (.iadd, 1, (0, 0, 0)), (.istore_n 0, 1, (0, 0, 0)), (.iload_n 0, 1, (0, 0, 0)), (.iload_n 0, 1, (0, 0, 0)), (.bipush 16, 2, (0, 0, 0)), (.iushr, 1, (0, 0, 0)), (.iadd, 1, (0, 0, 0)), (.istore_n 0, 1, (0, 0, 0)), (.iload_n 0, 1, (0, 0, 0)), (.bipush 63, 2, (0, 0, 0)), (.iand, 1, (0, 0, 0))] = true ∧ plen 0 [(.iload_n 0, 1, (0, 0, 0)), (.iload_n 0, 1, (0, 0, 0)), (.iconst 1, 1, (0, 0, 0)), (.iushr, 1, (0, 0, 0)), (.ldc_w 265, 3, (0, 0, 1431655765)), (.iand, 1, (0, 0, 0)), (.isub, 1, (0, 0, 0)), (.istore_n 0, 1, (0, 0, 0)), (.iload_n 0, 1, (0, 0, 0)), (.ldc_w 266, 3, (0, 0, 858993459)), (.iand, 1, (0, 0, 0)), (.iload_n 0, 1, (0, 0, 0)), (.iconst 2, 1, (0, 0, 0)), (.iushr, 1, (0, 0, 0)), (.ldc_w 266, 3, (0, 0, 858993459)), (.iand, 1, (0, 0, 0)), (.iadd, 1, (0, 0, 0)), (.istore_n 0, 1, (0, 0, 0)), (.iload_n 0, 1, (0, 0, 0)), (.iload_n 0, 1, (0, 0, 0)), (.iconst 4, 1, (0, 0, 0)), (.iushr, 1, (0, 0, 0)), (.iadd, 1, (0, 0, 0)), (.ldc_w 267, 3, (0, 0, 252645135)), (.iand, 1, (0, 0, 0)), (.istore_n 0, 1, (0, 0, 0)), (.iload_n 0, 1, (0, 0, 0)), (.iload_n 0, 1, (0, 0, 0)), (.bipush 8, 2, (0, 0, 0)), (.iushr, 1, (0, 0, 0)), (.iadd, 1, (0, 0, 0)), (.istore_n 0, 1, (0, 0, 0)), (.iload_n 0, 1, (0, 0, 0)), (.iload_n 0, 1, (0, 0, 0)), (.bipush 16, 2, (0, 0, 0)), (.iushr, 1, (0, 0, 0)), (.iadd, 1, (0, 0, 0)), (.istore_n 0, 1, (0, 0, 0)), (.iload_n 0, 1, (0, 0, 0)), (.bipush 63, 2, (0, 0, 0)), (.iand, 1, (0, 0, 0))] = 52 := by decide +kernel
def F_J6_bitCount_0f7a4 (a0 : Int) : Int :=
bnd (wrap (a0 - (jand (jushr a0 1) 1431655765))) fun v1 =>
bnd (wrap ((jand v1 858993459) + (jand (jushr v1 2) 858993459))) fun v3 =>
bnd (jand (wrap (v3 + (jushr v3 4))) 252645135) fun v5 =>
bnd (wrap (v5 + (jushr v5 8))) fun v7 =>
bnd (wrap (v7 + (jushr v7 16))) fun v9 =>
jand v9 63
theorem lk_J6_bitCount_0f7a4 (l : Launch) (d : Nat) (hd : 0 ≤ d) (a0 : Int) (σ : Sg) (q : Int) (h : F_J6_bitCount_0f7a4 a0 = q) : CT l d m_J6_bitCount_0f7a4.2.1 m_J6_bitCount_0f7a4.2.2.1 m_J6_bitCount_0f7a4.2.2.2.1 m_J6_bitCount_0f7a4.2.2.2.2 [.inl a0] (LAYC, σ) (some (.inl q)) (LAYC, σ) := by
  skip
  have key : Go l m_J6_bitCount_0f7a4 d LAYC (.inl (some (.inl q))) σ 0 [some (.inl a0)] [] σ := by
    unfold F_J6_bitCount_0f7a4 at h
    obtain ⟨v1, e2, h⟩ := bnd_inv h
    obtain ⟨v3, e4, h⟩ := bnd_inv h
    obtain ⟨v5, e6, h⟩ := bnd_inv h
    obtain ⟨v7, e8, h⟩ := bnd_inv h
    obtain ⟨v9, e10, h⟩ := bnd_inv h
    refine go_ops ok_J6_bitCount_0f7a4_0_41 (L' := [some (.inl v9)]) (st' := [.inl (jand v9 63)]) (σ1 := σ) (by subst e10; subst e8; subst e6; subst e4; subst e2; rfl) ?_
    subst h
    exact go_iret dc_J6_bitCount_0f7a4_52 rfl
  have hf := go_ct (as := [.inl a0]) mk_J6_bitCount_0f7a4 (by rfl) (Nat.le_of_ble_eq_true rfl) key
  exact hf
theorem dc_X3_seekMost_12 : decode m_X3_seekMost.2.2.1 12 = .ok (.invokevirtual 98, 3) := by decide +kernel
theorem dc_X3_seekMost_15 : decode m_X3_seekMost.2.2.1 15 = .ok (.if_icmp .ge 64, 3) := by decide +kernel
theorem dc_X3_seekMost_20 : decode m_X3_seekMost.2.2.1 20 = .ok (.invokevirtual 102, 3) := by decide +kernel
theorem dc_X3_seekMost_23 : decode m_X3_seekMost.2.2.1 23 = .ok (.ifCond .ne 50, 3) := by decide +kernel
theorem dc_X3_seekMost_28 : decode m_X3_seekMost.2.2.1 28 = .ok (.invokevirtual 106, 3) := by decide +kernel
theorem dc_X3_seekMost_31 : decode m_X3_seekMost.2.2.1 31 = .ok (.ifCond .eq 42, 3) := by decide +kernel
theorem dc_X3_seekMost_41 : decode m_X3_seekMost.2.2.1 41 = .ok (.invokevirtual 109, 3) := by decide +kernel
theorem dc_X3_seekMost_44 : decode m_X3_seekMost.2.2.1 44 = .ok (.if_icmp .ge 29, 3) := by decide +kernel
theorem dc_X3_seekMost_54 : decode m_X3_seekMost.2.2.1 54 = .ok (.invokevirtual 90, 3) := by decide +kernel
theorem dc_X3_seekMost_64 : decode m_X3_seekMost.2.2.1 64 = .ok (.invokevirtual 156, 3) := by decide +kernel
theorem dc_X3_seekMost_70 : decode m_X3_seekMost.2.2.1 70 = .ok (.goto (-34), 3) := by decide +kernel
theorem dc_X3_seekMost_76 : decode m_X3_seekMost.2.2.1 76 = .ok (.goto (-69), 3) := by decide +kernel
theorem dc_X3_seekMost_94 : decode m_X3_seekMost.2.2.1 94 = .ok (.if_icmp .ge 82, 3) := by decide +kernel
theorem dc_X3_seekMost_103 : decode m_X3_seekMost.2.2.1 103 = .ok (.invokestatic 73, 3) := by decide +kernel
theorem dc_X3_seekMost_114 : decode m_X3_seekMost.2.2.1 114 = .ok (.invokestatic 73, 3) := by decide +kernel
theorem dc_X3_seekMost_125 : decode m_X3_seekMost.2.2.1 125 = .ok (.invokestatic 160, 3) := by decide +kernel
theorem dc_X3_seekMost_133 : decode m_X3_seekMost.2.2.1 133 = .ok (.if_icmp .gt 15, 3) := by decide +kernel
theorem dc_X3_seekMost_139 : decode m_X3_seekMost.2.2.1 139 = .ok (.if_icmp .ne 21, 3) := by decide +kernel
theorem dc_X3_seekMost_145 : decode m_X3_seekMost.2.2.1 145 = .ok (.if_icmp .ge 15, 3) := by decide +kernel
theorem dc_X3_seekMost_167 : decode m_X3_seekMost.2.2.1 167 = .ok (.invokestatic 65, 3) := by decide +kernel
theorem dc_X3_seekMost_173 : decode m_X3_seekMost.2.2.1 173 = .ok (.goto (-85), 3) := by decide +kernel
theorem dc_X3_seekMost_180 : decode m_X3_seekMost.2.2.1 180 = .ok (.invokevirtual 94, 3) := by decide +kernel
theorem dc_X3_seekMost_183 : decode m_X3_seekMost.2.2.1 183 = .ok (.return_, 1) := by decide +kernel
theorem ok_X3_seekMost_0_5 : oks m_X3_seekMost.1 m_X3_seekMost.2.2.1 0 [(.aload_n 0, 1, (0, 0, 0)), (.iconst 0, 1, (0, 0, 0)), (.putfield 24, 3, (3, 8, 0)), (.iconst 0, 1, (0, 0, 0)), (.istore_n 1, 1, (0, 0, 0))] = true ∧ plen 0 [(.aload_n 0, 1, (0, 0, 0)), (.iconst 0, 1, (0, 0, 0)), (.putfield 24, 3, (3, 8, 0)), (.iconst 0, 1, (0, 0, 0)), (.istore_n 1, 1, (0, 0, 0))] = 7 := by decide +kernel
theorem ok_X3_seekMost_7_3 : oks m_X3_seekMost.1 m_X3_seekMost.2.2.1 7 [(.iload_n 1, 1, (0, 0, 0)), (.aload_n 0, 1, (0, 0, 0)), (.getfield 55, 3, (3, 3, 0))] = true ∧ plen 7 [(.iload_n 1, 1, (0, 0, 0)), (.aload_n 0, 1, (0, 0, 0)), (.getfield 55, 3, (3, 3, 0))] = 12 := by decide +kernel
theorem ok_X3_seekMost_18_2 : oks m_X3_seekMost.1 m_X3_seekMost.2.2.1 18 [(.aload_n 0, 1, (0, 0, 0)), (.iload_n 1, 1, (0, 0, 0))] = true ∧ plen 18 [(.aload_n 0, 1, (0, 0, 0)), (.iload_n 1, 1, (0, 0, 0))] = 20 := by decide +kernel
theorem ok_X3_seekMost_26_2 : oks m_X3_seekMost.1 m_X3_seekMost.2.2.1 26 [(.aload_n 0, 1, (0, 0, 0)), (.iload_n 1, 1, (0, 0, 0))] = true ∧ plen 26 [(.aload_n 0, 1, (0, 0, 0)), (.iload_n 1, 1, (0, 0, 0))] = 28 := by decide +kernel
theorem ok_X3_seekMost_34_2 : oks m_X3_seekMost.1 m_X3_seekMost.2.2.1 34 [(.iconst 0, 1, (0, 0, 0)), (.istore_n 2, 1, (0, 0, 0))] = true ∧ plen 34 [(.iconst 0, 1, (0, 0, 0)), (.istore_n 2, 1, (0, 0, 0))] = 36 := by decide +kernel
theorem ok_X3_seekMost_36_3 : oks m_X3_seekMost.1 m_X3_seekMost.2.2.1 36 [(.iload_n 2, 1, (0, 0, 0)), (.aload_n 0, 1, (0, 0, 0)), (.getfield 55, 3, (3, 3, 0))] = true ∧ plen 36 [(.iload_n 2, 1, (0, 0, 0)), (.aload_n 0, 1, (0, 0, 0)), (.getfield 55, 3, (3, 3, 0))] = 41 := by decide +kernel
theorem ok_X3_seekMost_47_5 : oks m_X3_seekMost.1 m_X3_seekMost.2.2.1 47 [(.aload_n 0, 1, (0, 0, 0)), (.aload_n 0, 1, (0, 0, 0)), (.getfield 55, 3, (3, 3, 0)), (.iload_n 1, 1, (0, 0, 0)), (.iload_n 2, 1, (0, 0, 0))] = true ∧ plen 47 [(.aload_n 0, 1, (0, 0, 0)), (.aload_n 0, 1, (0, 0, 0)), (.getfield 55, 3, (3, 3, 0)), (.iload_n 1, 1, (0, 0, 0)), (.iload_n 2, 1, (0, 0, 0))] = 54 := by decide +kernel
theorem ok_X3_seekMost_57_7 : oks m_X3_seekMost.1 m_X3_seekMost.2.2.1 57 [(.iload_n 2, 1, (0, 0, 0)), (.iconst 1, 1, (0, 0, 0)), (.iadd, 1, (0, 0, 0)), (.iconst 1, 1, (0, 0, 0)), (.iload_n 1, 1, (0, 0, 0)), (.ishl, 1, (0, 0, 0)), (.iconst 0, 1, (0, 0, 0))] = true ∧ plen 57 [(.iload_n 2, 1, (0, 0, 0)), (.iconst 1, 1, (0, 0, 0)), (.iadd, 1, (0, 0, 0)), (.iconst 1, 1, (0, 0, 0)), (.iload_n 1, 1, (0, 0, 0)), (.ishl, 1, (0, 0, 0)), (.iconst 0, 1, (0, 0, 0))] = 64 := by decide +kernel
theorem ok_X3_seekMost_67_1 : oks m_X3_seekMost.1 m_X3_seekMost.2.2.1 67 [(.iinc 2 1, 3, (0, 0, 0))] = true ∧ plen 67 [(.iinc 2 1, 3, (0, 0, 0))] = 70 := by decide +kernel
theorem ok_X3_seekMost_73_1 : oks m_X3_seekMost.1 m_X3_seekMost.2.2.1 73 [(.iinc 1 1, 3, (0, 0, 0))] = true ∧ plen 73 [(.iinc 1 1, 3, (0, 0, 0))] = 76 := by decide +kernel
theorem ok_X3_seekMost_79_8 : oks m_X3_seekMost.1 m_X3_seekMost.2.2.1 79 [(.iconst (-1), 1, (0, 0, 0)), (.istore_n 1, 1, (0, 0, 0)), (.iconst 0, 1, (0, 0, 0)), (.istore_n 2, 1, (0, 0, 0)), (.iconst (-1), 1, (0, 0, 0)), (.istore_n 3, 1, (0, 0, 0)), (.iconst 0, 1, (0, 0, 0)), (.istore 4, 2, (0, 0, 0))] = true ∧ plen 79 [(.iconst (-1), 1, (0, 0, 0)), (.istore_n 1, 1, (0, 0, 0)), (.iconst 0, 1, (0, 0, 0)), (.istore_n 2, 1, (0, 0, 0)), (.iconst (-1), 1, (0, 0, 0)), (.istore_n 3, 1, (0, 0, 0)), (.iconst 0, 1, (0, 0, 0)), (.istore 4, 2, (0, 0, 0))] = 88 := by decide +kernel
theorem ok_X3_seekMost_88_3 : oks m_X3_seekMost.1 m_X3_seekMost.2.2.1 88 [(.iload 4, 2, (0, 0, 0)), (.aload_n 0, 1, (0, 0, 0)), (.getfield 24, 3, (3, 8, 0))] = true ∧ plen 88 [(.iload 4, 2, (0, 0, 0)), (.aload_n 0, 1, (0, 0, 0)), (.getfield 24, 3, (3, 8, 0))] = 94 := by decide +kernel
theorem ok_X3_seekMost_97_3 : oks m_X3_seekMost.1 m_X3_seekMost.2.2.1 97 [(.aload_n 0, 1, (0, 0, 0)), (.getfield 37, 3, (3, 12, 0)), (.iload 4, 2, (0, 0, 0))] = true ∧ plen 97 [(.aload_n 0, 1, (0, 0, 0)), (.getfield 37, 3, (3, 12, 0)), (.iload 4, 2, (0, 0, 0))] = 103 := by decide +kernel
theorem ok_X3_seekMost_106_4 : oks m_X3_seekMost.1 m_X3_seekMost.2.2.1 106 [(.istore 5, 2, (0, 0, 0)), (.aload_n 0, 1, (0, 0, 0)), (.getfield 40, 3, (3, 13, 0)), (.iload 5, 2, (0, 0, 0))] = true ∧ plen 106 [(.istore 5, 2, (0, 0, 0)), (.aload_n 0, 1, (0, 0, 0)), (.getfield 40, 3, (3, 13, 0)), (.iload 5, 2, (0, 0, 0))] = 114 := by decide +kernel
theorem ok_X3_seekMost_117_4 : oks m_X3_seekMost.1 m_X3_seekMost.2.2.1 117 [(.istore 6, 2, (0, 0, 0)), (.iload 6, 2, (0, 0, 0)), (.sipush 255, 3, (0, 0, 0)), (.iand, 1, (0, 0, 0))] = true ∧ plen 117 [(.istore 6, 2, (0, 0, 0)), (.iload 6, 2, (0, 0, 0)), (.sipush 255, 3, (0, 0, 0)), (.iand, 1, (0, 0, 0))] = 125 := by decide +kernel
theorem ok_X3_seekMost_128_3 : oks m_X3_seekMost.1 m_X3_seekMost.2.2.1 128 [(.istore 7, 2, (0, 0, 0)), (.iload 7, 2, (0, 0, 0)), (.iload_n 2, 1, (0, 0, 0))] = true ∧ plen 128 [(.istore 7, 2, (0, 0, 0)), (.iload 7, 2, (0, 0, 0)), (.iload_n 2, 1, (0, 0, 0))] = 133 := by decide +kernel
theorem ok_X3_seekMost_136_2 : oks m_X3_seekMost.1 m_X3_seekMost.2.2.1 136 [(.iload 7, 2, (0, 0, 0)), (.iload_n 2, 1, (0, 0, 0))] = true ∧ plen 136 [(.iload 7, 2, (0, 0, 0)), (.iload_n 2, 1, (0, 0, 0))] = 139 := by decide +kernel
theorem ok_X3_seekMost_142_2 : oks m_X3_seekMost.1 m_X3_seekMost.2.2.1 142 [(.iload 5, 2, (0, 0, 0)), (.iload_n 1, 1, (0, 0, 0))] = true ∧ plen 142 [(.iload 5, 2, (0, 0, 0)), (.iload_n 1, 1, (0, 0, 0))] = 145 := by decide +kernel
theorem ok_X3_seekMost_148_8 : oks m_X3_seekMost.1 m_X3_seekMost.2.2.1 148 [(.iload 5, 2, (0, 0, 0)), (.istore_n 1, 1, (0, 0, 0)), (.iload 7, 2, (0, 0, 0)), (.istore_n 2, 1, (0, 0, 0)), (.iload 6, 2, (0, 0, 0)), (.bipush 8, 2, (0, 0, 0)), (.ishr, 1, (0, 0, 0)), (.istore_n 3, 1, (0, 0, 0))] = true ∧ plen 148 [(.iload 5, 2, (0, 0, 0)), (.istore_n 1, 1, (0, 0, 0)), (.iload 7, 2, (0, 0, 0)), (.istore_n 2, 1, (0, 0, 0)), (.iload 6, 2, (0, 0, 0)), (.bipush 8, 2, (0, 0, 0)), (.ishr, 1, (0, 0, 0)), (.istore_n 3, 1, (0, 0, 0))] = 160 := by decide +kernel
theorem ok_X3_seekMost_160_4 : oks m_X3_seekMost.1 m_X3_seekMost.2.2.1 160 [(.aload_n 0, 1, (0, 0, 0)), (.getfield 40, 3, (3, 13, 0)), (.iload 5, 2, (0, 0, 0)), (.iconst 0, 1, (0, 0, 0))] = true ∧ plen 160 [(.aload_n 0, 1, (0, 0, 0)), (.getfield 40, 3, (3, 13, 0)), (.iload 5, 2, (0, 0, 0)), (.iconst 0, 1, (0, 0, 0))] = 167 := by decide +kernel
theorem ok_X3_seekMost_170_1 : oks m_X3_seekMost.1 m_X3_seekMost.2.2.1 170 [(.iinc 4 1, 3, (0, 0, 0))] = true ∧ plen 170 [(.iinc 4 1, 3, (0, 0, 0))] = 173 := by decide +kernel
theorem ok_X3_seekMost_176_4 : oks m_X3_seekMost.1 m_X3_seekMost.2.2.1 176 [(.aload_n 0, 1, (0, 0, 0)), (.iconst 3, 1, (0, 0, 0)), (.iload_n 1, 1, (0, 0, 0)), (.iload_n 3, 1, (0, 0, 0))] = true ∧ plen 176 [(.aload_n 0, 1, (0, 0, 0)), (.iconst 3, 1, (0, 0, 0)), (.iload_n 1, 1, (0, 0, 0)), (.iload_n 3, 1, (0, 0, 0))] = 180 := by decide +kernel
def B_X3_seekMost_73 (x1 : Int) (σ : Sg) : Option ((Int × Sg) ⊕ Sg) :=
some (.inl (wrap (x1 + 1), σ))
def L_X3_seekMost_36 (x1 : Int) (x2 : Int) (σ : Sg) : Option ((Int × Sg) ⊕ Sg) :=
if (F_X4_columns σ) ≤ x2 then
some (.inr σ)
else
(F_X3_need 50 (F_X4_get x1 x2 σ) (wrap (x2 + 1)) (jshl 1 x1) 0 σ).bind fun q5 =>
some (.inl (wrap (x2 + 1), q5))
def L_X3_seekMost_7 (x1 : Int) (σ : Sg) : Option ((Int × Sg) ⊕ Sg) :=
if (F_X4_count σ) ≤ x1 then
some (.inr σ)
else
if (F_X3_hasFailed x1 σ) = true then
B_X3_seekMost_73 x1 σ
else
(F_X3_tryCase x1 σ).bind fun q3 =>
if q3.1 = 0 then
B_X3_seekMost_73 x1 q3.2
else
(iter (fun a : (Int × Sg) => L_X3_seekMost_36 x1 a.1 a.2) 3000 (0, q3.2)).bind fun y7 =>
B_X3_seekMost_73 x1 y7
def B_X3_seekMost_160 (x1 : Int) (x2 : Int) (x3 : Int) (x4 : Int) (x5 : Int) (σ : Sg) : Option ((Int × Int × Int × Int × Sg) ⊕ (Int × Int × Sg)) :=
bnd (wrD σ 42 469 x5 0) fun s19 =>
some (.inl (x1, x2, x3, wrap (x4 + 1), s19))
def B_X3_seekMost_148 (x4 : Int) (x5 : Int) (x6 : Int) (x7 : Int) (σ : Sg) : Option ((Int × Int × Int × Int × Sg) ⊕ (Int × Int × Sg)) :=
bnd (jshr x6 8) fun v17 =>
B_X3_seekMost_160 x5 x7 v17 x4 x5 σ
def L_X3_seekMost_88 (x1 : Int) (x2 : Int) (x3 : Int) (x4 : Int) (σ : Sg) : Option ((Int × Int × Int × Int × Sg) ⊕ (Int × Int × Sg)) :=
if (σ 37 8) ≤ x4 then
some (.inr (x1, x3, σ))
else
bnd (rdD (-1) σ 41 120 x4) fun v11 =>
bnd (rdD (-1) σ 42 469 v11) fun v13 =>
bnd (F_J6_bitCount_0f7a4 (jand v13 255)) fun v15 =>
if x2 < v15 then
B_X3_seekMost_148 x4 v11 v13 v15 σ
else
if v15 = x2 then
if x1 ≤ v11 then
B_X3_seekMost_160 x1 x2 x3 x4 v11 σ
else
B_X3_seekMost_148 x4 v11 v13 v15 σ
else
B_X3_seekMost_160 x1 x2 x3 x4 v11 σ
def F_X3_seekMost (σ : Sg) : Option Sg :=
bnd (up2 σ 37 8 0) fun s1 =>
(iter (fun a : (Int × Sg) => L_X3_seekMost_7 a.1 a.2) 3000 (0, s1)).bind fun y9 =>
(iter (fun a : (Int × Int × Int × Int × Sg) => L_X3_seekMost_88 a.1 a.2.1 a.2.2.1 a.2.2.2.1 a.2.2.2.2) 3000 ((-1), 0, (-1), 0, y9)).bind fun y21 =>
bnd (F_X3_setNext 3 y21.1 y21.2.1 y21.2.2) fun q23 =>
some q23
theorem lk_X3_seekMost (l : Launch) (d : Nat) (hd : 106 ≤ d) (σ : Sg) (q : Sg) (h : F_X3_seekMost σ = some q) : CT l d m_X3_seekMost.2.1 m_X3_seekMost.2.2.1 m_X3_seekMost.2.2.2.1 m_X3_seekMost.2.2.2.2 [.inr 37] (LAYC, σ) none (LAYC, q) := by
  obtain ⟨d, rfl⟩ : ∃ e, d = e + 1 := ⟨d - 1, by omega⟩
  have key : Go l m_X3_seekMost (d + 1) LAYC (.inl none) q 0 [some (.inr 37), none, none, none, none, none, none, none] [] σ := by
    unfold F_X3_seekMost at h
    have hL_X3_seekMost_7 : ∀ (n : Nat) (a : (Int × Sg)) (y : Sg), iter (fun a : (Int × Sg) => L_X3_seekMost_7 a.1 a.2) n a = some y → (fun y : Sg => Go l m_X3_seekMost (d + 1) LAYC (.inl none) q 79 [some (.inr 37), none, none, none, none, none, none, none] [] y) y → (fun a : (Int × Sg) => Go l m_X3_seekMost (d + 1) LAYC (.inl none) q 7 [some (.inr 37), some (.inl a.1), none, none, none, none, none, none] [] a.2) a := by
      skip
      refine go_iter (G := fun a : (Int × Sg) => Go l m_X3_seekMost (d + 1) LAYC (.inl none) q 7 [some (.inr 37), some (.inl a.1), none, none, none, none, none, none] [] a.2) (K := fun y : Sg => Go l m_X3_seekMost (d + 1) LAYC (.inl none) q 79 [some (.inr 37), none, none, none, none, none, none, none] [] y) ?_
      rintro ⟨x1, σ⟩ w h hK
      replace h : L_X3_seekMost_7 x1 σ = some w := h
      show Go l m_X3_seekMost (d + 1) LAYC (.inl none) q 7 [some (.inr 37), some (.inl x1), none, none, none, none, none, none] [] σ
      unfold L_X3_seekMost_7 at h
      have hB_X3_seekMost_73 : ∀ (x1 : Int) (σ : Sg), B_X3_seekMost_73 x1 σ = some w → Go l m_X3_seekMost (d + 1) LAYC (.inl none) q 73 [some (.inr 37), some (.inl x1), none, none, none, none, none, none] [] σ := by
        intro x1 σ h
        unfold B_X3_seekMost_73 at h
        refine go_ops ok_X3_seekMost_73_1 (L' := [some (.inr 37), some (.inl (wrap (x1 + 1))), none, none, none, none, none, none]) (st' := []) (σ1 := σ) rfl ?_
        refine go_goto dc_X3_seekMost_76 (by rfl) ?_
        cases h
        exact hK
      have hL_X3_seekMost_36 : ∀ (x1 : Int) (n : Nat) (a : (Int × Sg)) (y : Sg), iter (fun a : (Int × Sg) => L_X3_seekMost_36 x1 a.1 a.2) n a = some y → (fun y : Sg => Go l m_X3_seekMost (d + 1) LAYC (.inl none) q 73 [some (.inr 37), some (.inl x1), none, none, none, none, none, none] [] y) y → (fun a : (Int × Sg) => Go l m_X3_seekMost (d + 1) LAYC (.inl none) q 36 [some (.inr 37), some (.inl x1), some (.inl a.1), none, none, none, none, none] [] a.2) a := by
        intro x1
        refine go_iter (G := fun a : (Int × Sg) => Go l m_X3_seekMost (d + 1) LAYC (.inl none) q 36 [some (.inr 37), some (.inl x1), some (.inl a.1), none, none, none, none, none] [] a.2) (K := fun y : Sg => Go l m_X3_seekMost (d + 1) LAYC (.inl none) q 73 [some (.inr 37), some (.inl x1), none, none, none, none, none, none] [] y) ?_
        rintro ⟨x2, σ⟩ w h hK
        replace h : L_X3_seekMost_36 x1 x2 σ = some w := h
        show Go l m_X3_seekMost (d + 1) LAYC (.inl none) q 36 [some (.inr 37), some (.inl x1), some (.inl x2), none, none, none, none, none] [] σ
        unfold L_X3_seekMost_36 at h
        refine go_ops ok_X3_seekMost_36_3 (L' := [some (.inr 37), some (.inl x1), some (.inl x2), none, none, none, none, none]) (st' := [.inr 24, .inl x2]) (σ1 := σ) rfl ?_
        refine go_V (M1 := m_X4_columns) (as := []) (st := [.inl x2]) (k := 24) (ci := 4) dc_X3_seekMost_41 ln_3_109 im_X4_columns (by decide) rfl rfl mk_X4_columns rfl (Nat.le_of_ble_eq_true rfl) (Nat.le_refl _) (v := (some (.inl (F_X4_columns σ)))) (σ1 := σ) (lk_X4_columns l d (by omega) σ _ rfl) _ rfl ?_
        refine go_icmp_ge dc_X3_seekMost_44 (by rfl) (fun hc => ?_) (fun hc => ?_)
        · replace h := (if_pos hc).symm.trans h
          cases h
          refine go_wk (L' := [some (.inr 37), some (.inl x1), none, none, none, none, none, none]) ⟨rfl, rfl, trivial⟩ ?_
          exact hK
        · replace h := (if_neg hc).symm.trans h
          refine go_ops ok_X3_seekMost_47_5 (L' := [some (.inr 37), some (.inl x1), some (.inl x2), none, none, none, none, none]) (st' := [.inl x2, .inl x1, .inr 24, .inr 37]) (σ1 := σ) rfl ?_
          refine go_V (M1 := m_X4_get) (as := [.inl x1, .inl x2]) (st := [.inr 37]) (k := 24) (ci := 4) dc_X3_seekMost_54 ln_3_90 im_X4_get (by decide) rfl rfl mk_X4_get rfl (Nat.le_of_ble_eq_true rfl) (Nat.le_refl _) (v := (some (.inl (F_X4_get x1 x2 σ)))) (σ1 := σ) (lk_X4_get l d (by omega) x1 x2 σ _ rfl) _ rfl ?_
          refine go_ops ok_X3_seekMost_57_7 (L' := [some (.inr 37), some (.inl x1), some (.inl x2), none, none, none, none, none]) (st' := [.inl 0, .inl (jshl 1 x1), .inl (wrap (x2 + 1)), .inl (F_X4_get x1 x2 σ), .inr 37]) (σ1 := σ) rfl ?_
          obtain ⟨q5, e6, h⟩ := bind_inv h
          refine go_V (M1 := m_X3_need) (as := [.inl (F_X4_get x1 x2 σ), .inl (wrap (x2 + 1)), .inl (jshl 1 x1), .inl 0]) (st := []) (k := 37) (ci := 3) dc_X3_seekMost_64 ln_3_156 im_X3_need (by decide) rfl rfl mk_X3_need rfl (Nat.le_of_ble_eq_true rfl) (Nat.le_refl _) (v := none) (σ1 := q5) (lkr_X3_need l 50 d (by omega) (F_X4_get x1 x2 σ) (wrap (x2 + 1)) (jshl 1 x1) 0 σ q5 e6) _ rfl ?_
          refine go_ops ok_X3_seekMost_67_1 (L' := [some (.inr 37), some (.inl x1), some (.inl (wrap (x2 + 1))), none, none, none, none, none]) (st' := []) (σ1 := q5) rfl ?_
          refine go_goto dc_X3_seekMost_70 (by rfl) ?_
          cases h
          exact hK
      refine go_ops ok_X3_seekMost_7_3 (L' := [some (.inr 37), some (.inl x1), none, none, none, none, none, none]) (st' := [.inr 24, .inl x1]) (σ1 := σ) rfl ?_
      refine go_V (M1 := m_X4_count) (as := []) (st := [.inl x1]) (k := 24) (ci := 4) dc_X3_seekMost_12 ln_3_98 im_X4_count (by decide) rfl rfl mk_X4_count rfl (Nat.le_of_ble_eq_true rfl) (Nat.le_refl _) (v := (some (.inl (F_X4_count σ)))) (σ1 := σ) (lk_X4_count l d (by omega) σ _ rfl) _ rfl ?_
      refine go_icmp_ge dc_X3_seekMost_15 (by rfl) (fun hc => ?_) (fun hc => ?_)
      · replace h := (if_pos hc).symm.trans h
        cases h
        refine go_wk (L' := [some (.inr 37), none, none, none, none, none, none, none]) ⟨rfl, trivial⟩ ?_
        exact hK
      · replace h := (if_neg hc).symm.trans h
        refine go_ops ok_X3_seekMost_18_2 (L' := [some (.inr 37), some (.inl x1), none, none, none, none, none, none]) (st' := [.inl x1, .inr 37]) (σ1 := σ) rfl ?_
        refine go_V (M1 := m_X3_hasFailed) (as := [.inl x1]) (st := []) (k := 37) (ci := 3) dc_X3_seekMost_20 ln_3_102 im_X3_hasFailed (by decide) rfl rfl mk_X3_hasFailed rfl (Nat.le_of_ble_eq_true rfl) (Nat.le_refl _) (v := (some (.inl (b2i (F_X3_hasFailed x1 σ))))) (σ1 := σ) (lk_X3_hasFailed l d (by omega) x1 σ _ rfl) _ rfl ?_
        refine go_ifb_ne dc_X3_seekMost_23 (by rfl) (fun hc => ?_) (fun hc => ?_)
        · replace h := (if_pos hc).symm.trans h
          exact hB_X3_seekMost_73 x1 σ h
        · replace h := (if_neg hc).symm.trans h
          refine go_ops ok_X3_seekMost_26_2 (L' := [some (.inr 37), some (.inl x1), none, none, none, none, none, none]) (st' := [.inl x1, .inr 37]) (σ1 := σ) rfl ?_
          obtain ⟨q3, e4, h⟩ := bind_inv h
          refine go_V (M1 := m_X3_tryCase) (as := [.inl x1]) (st := []) (k := 37) (ci := 3) dc_X3_seekMost_28 ln_3_106 im_X3_tryCase (by decide) rfl rfl mk_X3_tryCase rfl (Nat.le_of_ble_eq_true rfl) (Nat.le_refl _) (v := (some (.inl q3.1))) (σ1 := q3.2) (lk_X3_tryCase l d (by omega) x1 σ q3 e4) _ rfl ?_
          refine go_if_eq dc_X3_seekMost_31 (by rfl) (fun hc => ?_) (fun hc => ?_)
          · replace h := (if_pos hc).symm.trans h
            exact hB_X3_seekMost_73 x1 q3.2 h
          · replace h := (if_neg hc).symm.trans h
            refine go_ops ok_X3_seekMost_34_2 (L' := [some (.inr 37), some (.inl x1), some (.inl 0), none, none, none, none, none]) (st' := []) (σ1 := q3.2) rfl ?_
            obtain ⟨y7, e8, h⟩ := bind_inv h
            refine hL_X3_seekMost_36 x1 3000 (0, q3.2) y7 e8 ?_
            show Go l m_X3_seekMost (d + 1) LAYC (.inl none) q 73 [some (.inr 37), some (.inl x1), none, none, none, none, none, none] [] y7
            exact hB_X3_seekMost_73 x1 y7 h
    have hL_X3_seekMost_88 : ∀ (n : Nat) (a : (Int × Int × Int × Int × Sg)) (y : (Int × Int × Sg)), iter (fun a : (Int × Int × Int × Int × Sg) => L_X3_seekMost_88 a.1 a.2.1 a.2.2.1 a.2.2.2.1 a.2.2.2.2) n a = some y → (fun y : (Int × Int × Sg) => Go l m_X3_seekMost (d + 1) LAYC (.inl none) q 176 [some (.inr 37), some (.inl y.1), none, some (.inl y.2.1), none, none, none, none] [] y.2.2) y → (fun a : (Int × Int × Int × Int × Sg) => Go l m_X3_seekMost (d + 1) LAYC (.inl none) q 88 [some (.inr 37), some (.inl a.1), some (.inl a.2.1), some (.inl a.2.2.1), some (.inl a.2.2.2.1), none, none, none] [] a.2.2.2.2) a := by
      skip
      refine go_iter (G := fun a : (Int × Int × Int × Int × Sg) => Go l m_X3_seekMost (d + 1) LAYC (.inl none) q 88 [some (.inr 37), some (.inl a.1), some (.inl a.2.1), some (.inl a.2.2.1), some (.inl a.2.2.2.1), none, none, none] [] a.2.2.2.2) (K := fun y : (Int × Int × Sg) => Go l m_X3_seekMost (d + 1) LAYC (.inl none) q 176 [some (.inr 37), some (.inl y.1), none, some (.inl y.2.1), none, none, none, none] [] y.2.2) ?_
      rintro ⟨x1, x2, x3, x4, σ⟩ w h hK
      replace h : L_X3_seekMost_88 x1 x2 x3 x4 σ = some w := h
      show Go l m_X3_seekMost (d + 1) LAYC (.inl none) q 88 [some (.inr 37), some (.inl x1), some (.inl x2), some (.inl x3), some (.inl x4), none, none, none] [] σ
      unfold L_X3_seekMost_88 at h
      have hB_X3_seekMost_160 : ∀ (x1 : Int) (x2 : Int) (x3 : Int) (x4 : Int) (x5 : Int) (σ : Sg), B_X3_seekMost_160 x1 x2 x3 x4 x5 σ = some w → Go l m_X3_seekMost (d + 1) LAYC (.inl none) q 160 [some (.inr 37), some (.inl x1), some (.inl x2), some (.inl x3), some (.inl x4), some (.inl x5), none, none] [] σ := by
        intro x1 x2 x3 x4 x5 σ h
        unfold B_X3_seekMost_160 at h
        refine go_ops ok_X3_seekMost_160_4 (L' := [some (.inr 37), some (.inl x1), some (.inl x2), some (.inl x3), some (.inl x4), some (.inl x5), none, none]) (st' := [.inl 0, .inl x5, .inr 42]) (σ1 := σ) rfl ?_
        obtain ⟨s19, e20, h⟩ := bnd_inv h
        refine go_SN (M1 := m_X10_put) (as := [.inr 42, .inl x5, .inl 0]) (st := []) dc_X3_seekMost_167 ln_3_65 sm_X10_put mk_X10_put rfl (Nat.le_of_ble_eq_true rfl) (Nat.le_refl _) (v := none) (σ1 := s19) (lk_X10_put l d LAYC 42 469 rfl _ _ s19 e20) _ rfl ?_
        refine go_ops ok_X3_seekMost_170_1 (L' := [some (.inr 37), some (.inl x1), some (.inl x2), some (.inl x3), some (.inl (wrap (x4 + 1))), some (.inl x5), none, none]) (st' := []) (σ1 := s19) rfl ?_
        refine go_goto dc_X3_seekMost_173 (by rfl) ?_
        cases h
        refine go_wk (L' := [some (.inr 37), some (.inl x1), some (.inl x2), some (.inl x3), some (.inl (wrap (x4 + 1))), none, none, none]) ⟨rfl, rfl, rfl, rfl, rfl, trivial⟩ ?_
        exact hK
      have hB_X3_seekMost_148 : ∀ (x4 : Int) (x5 : Int) (x6 : Int) (x7 : Int) (σ : Sg), B_X3_seekMost_148 x4 x5 x6 x7 σ = some w → Go l m_X3_seekMost (d + 1) LAYC (.inl none) q 148 [some (.inr 37), none, none, none, some (.inl x4), some (.inl x5), some (.inl x6), some (.inl x7)] [] σ := by
        intro x4 x5 x6 x7 σ h
        unfold B_X3_seekMost_148 at h
        obtain ⟨v17, e18, h⟩ := bnd_inv h
        refine go_ops ok_X3_seekMost_148_8 (L' := [some (.inr 37), some (.inl x5), some (.inl x7), some (.inl v17), some (.inl x4), some (.inl x5), some (.inl x6), some (.inl x7)]) (st' := []) (σ1 := σ) (by subst e18; rfl) ?_
        refine go_wk (L' := [some (.inr 37), some (.inl x5), some (.inl x7), some (.inl v17), some (.inl x4), some (.inl x5), none, none]) ⟨rfl, rfl, rfl, rfl, rfl, rfl, trivial⟩ ?_
        exact hB_X3_seekMost_160 x5 x7 v17 x4 x5 σ h
      refine go_ops ok_X3_seekMost_88_3 (L' := [some (.inr 37), some (.inl x1), some (.inl x2), some (.inl x3), some (.inl x4), none, none, none]) (st' := [.inl (σ 37 8), .inl x4]) (σ1 := σ) rfl ?_
      refine go_icmp_ge dc_X3_seekMost_94 (by rfl) (fun hc => ?_) (fun hc => ?_)
      · replace h := (if_pos hc).symm.trans h
        cases h
        refine go_wk (L' := [some (.inr 37), some (.inl x1), none, some (.inl x3), none, none, none, none]) ⟨rfl, rfl, rfl, trivial⟩ ?_
        exact hK
      · replace h := (if_neg hc).symm.trans h
        refine go_ops ok_X3_seekMost_97_3 (L' := [some (.inr 37), some (.inl x1), some (.inl x2), some (.inl x3), some (.inl x4), none, none, none]) (st' := [.inl x4, .inr 41]) (σ1 := σ) rfl ?_
        refine go_SN (M1 := m_X10_at) (as := [.inr 41, .inl x4]) (st := []) dc_X3_seekMost_103 ln_3_73 sm_X10_at mk_X10_at rfl (Nat.le_of_ble_eq_true rfl) (Nat.le_refl _) (v := some (.inl (rdD (-1) σ 41 120 x4))) (σ1 := σ) (lk_X10_at l d LAYC 41 120 rfl σ _) _ rfl ?_
        obtain ⟨v11, e12, h⟩ := bnd_inv h
        refine go_ops ok_X3_seekMost_106_4 (L' := [some (.inr 37), some (.inl x1), some (.inl x2), some (.inl x3), some (.inl x4), some (.inl v11), none, none]) (st' := [.inl v11, .inr 42]) (σ1 := σ) (by subst e12; rfl) ?_
        refine go_SN (M1 := m_X10_at) (as := [.inr 42, .inl v11]) (st := []) dc_X3_seekMost_114 ln_3_73 sm_X10_at mk_X10_at rfl (Nat.le_of_ble_eq_true rfl) (Nat.le_refl _) (v := some (.inl (rdD (-1) σ 42 469 v11))) (σ1 := σ) (lk_X10_at l d LAYC 42 469 rfl σ _) _ rfl ?_
        obtain ⟨v13, e14, h⟩ := bnd_inv h
        refine go_ops ok_X3_seekMost_117_4 (L' := [some (.inr 37), some (.inl x1), some (.inl x2), some (.inl x3), some (.inl x4), some (.inl v11), some (.inl v13), none]) (st' := [.inl (jand v13 255)]) (σ1 := σ) (by subst e14; rfl) ?_
        refine go_S (M1 := m_J6_bitCount_0f7a4) (as := [.inl (jand v13 255)]) (st := []) dc_X3_seekMost_125 ln_3_160 sm_J6_bitCount_0f7a4 mk_J6_bitCount_0f7a4 rfl (Nat.le_of_ble_eq_true rfl) (Nat.le_refl _) (v := (some (.inl (F_J6_bitCount_0f7a4 (jand v13 255))))) (σ1 := σ) (lk_J6_bitCount_0f7a4 l d (by omega) (jand v13 255) σ _ rfl) _ rfl ?_
        obtain ⟨v15, e16, h⟩ := bnd_inv h
        refine go_ops ok_X3_seekMost_128_3 (L' := [some (.inr 37), some (.inl x1), some (.inl x2), some (.inl x3), some (.inl x4), some (.inl v11), some (.inl v13), some (.inl v15)]) (st' := [.inl x2, .inl v15]) (σ1 := σ) (by subst e16; rfl) ?_
        refine go_icmp_gt dc_X3_seekMost_133 (by rfl) (fun hc => ?_) (fun hc => ?_)
        · replace h := (if_pos hc).symm.trans h
          refine go_wk (L' := [some (.inr 37), none, none, none, some (.inl x4), some (.inl v11), some (.inl v13), some (.inl v15)]) ⟨rfl, rfl, rfl, rfl, rfl, trivial⟩ ?_
          exact hB_X3_seekMost_148 x4 v11 v13 v15 σ h
        · replace h := (if_neg hc).symm.trans h
          refine go_ops ok_X3_seekMost_136_2 (L' := [some (.inr 37), some (.inl x1), some (.inl x2), some (.inl x3), some (.inl x4), some (.inl v11), some (.inl v13), some (.inl v15)]) (st' := [.inl x2, .inl v15]) (σ1 := σ) rfl ?_
          refine go_icmp_ne dc_X3_seekMost_139 (by rfl) (fun hc => ?_) (fun hc => ?_)
          · replace h := (if_neg hc).symm.trans h
            refine go_wk (L' := [some (.inr 37), some (.inl x1), some (.inl x2), some (.inl x3), some (.inl x4), some (.inl v11), none, none]) ⟨rfl, rfl, rfl, rfl, rfl, rfl, trivial⟩ ?_
            exact hB_X3_seekMost_160 x1 x2 x3 x4 v11 σ h
          · replace h := (if_pos hc).symm.trans h
            refine go_ops ok_X3_seekMost_142_2 (L' := [some (.inr 37), some (.inl x1), some (.inl x2), some (.inl x3), some (.inl x4), some (.inl v11), some (.inl v13), some (.inl v15)]) (st' := [.inl x1, .inl v11]) (σ1 := σ) rfl ?_
            refine go_icmp_ge dc_X3_seekMost_145 (by rfl) (fun hc => ?_) (fun hc => ?_)
            · replace h := (if_pos hc).symm.trans h
              refine go_wk (L' := [some (.inr 37), some (.inl x1), some (.inl x2), some (.inl x3), some (.inl x4), some (.inl v11), none, none]) ⟨rfl, rfl, rfl, rfl, rfl, rfl, trivial⟩ ?_
              exact hB_X3_seekMost_160 x1 x2 x3 x4 v11 σ h
            · replace h := (if_neg hc).symm.trans h
              refine go_wk (L' := [some (.inr 37), none, none, none, some (.inl x4), some (.inl v11), some (.inl v13), some (.inl v15)]) ⟨rfl, rfl, rfl, rfl, rfl, trivial⟩ ?_
              exact hB_X3_seekMost_148 x4 v11 v13 v15 σ h
    obtain ⟨s1, e2, h⟩ := bnd_inv h
    refine go_ops ok_X3_seekMost_0_5 (L' := [some (.inr 37), some (.inl 0), none, none, none, none, none, none]) (st' := []) (σ1 := s1) (by subst e2; rfl) ?_
    obtain ⟨y9, e10, h⟩ := bind_inv h
    refine hL_X3_seekMost_7  3000 (0, s1) y9 e10 ?_
    show Go l m_X3_seekMost (d + 1) LAYC (.inl none) q 79 [some (.inr 37), none, none, none, none, none, none, none] [] y9
    refine go_ops ok_X3_seekMost_79_8 (L' := [some (.inr 37), some (.inl (-1)), some (.inl 0), some (.inl (-1)), some (.inl 0), none, none, none]) (st' := []) (σ1 := y9) rfl ?_
    obtain ⟨y21, e22, h⟩ := bind_inv h
    refine hL_X3_seekMost_88  3000 ((-1), 0, (-1), 0, y9) y21 e22 ?_
    show Go l m_X3_seekMost (d + 1) LAYC (.inl none) q 176 [some (.inr 37), some (.inl y21.1), none, some (.inl y21.2.1), none, none, none, none] [] y21.2.2
    refine go_ops ok_X3_seekMost_176_4 (L' := [some (.inr 37), some (.inl y21.1), none, some (.inl y21.2.1), none, none, none, none]) (st' := [.inl y21.2.1, .inl y21.1, .inl 3, .inr 37]) (σ1 := y21.2.2) rfl ?_
    obtain ⟨q23, e24, h⟩ := bnd_inv h
    refine go_V (M1 := m_X3_setNext) (as := [.inl 3, .inl y21.1, .inl y21.2.1]) (st := []) (k := 37) (ci := 3) dc_X3_seekMost_180 ln_3_94 im_X3_setNext (by decide) rfl rfl mk_X3_setNext rfl (Nat.le_of_ble_eq_true rfl) (Nat.le_refl _) (v := none) (σ1 := q23) (lk_X3_setNext l d (by omega) 3 y21.1 y21.2.1 y21.2.2 q23 e24.symm) _ rfl ?_
    have h9 := Option.some.inj h
    subst h9
    exact go_vret dc_X3_seekMost_183 rfl
  have hf := go_ct (as := [.inr 37]) mk_X3_seekMost (by rfl) (Nat.le_of_ble_eq_true rfl) key
  exact hf
theorem dc_X4_isThere_4 : decode m_X4_isThere.2.2.1 4 = .ok (.ifCond .le 7, 3) := by decide +kernel
theorem dc_X4_isThere_8 : decode m_X4_isThere.2.2.1 8 = .ok (.goto 4, 3) := by decide +kernel
theorem dc_X4_isThere_12 : decode m_X4_isThere.2.2.1 12 = .ok (.ireturn, 1) := by decide +kernel
theorem ok_X4_isThere_0_2 : oks m_X4_isThere.1 m_X4_isThere.2.2.1 0 [(.aload_n 0, 1, (0, 0, 0)), (.getfield 9, 3, (4, 0, 0))] = true ∧ plen 0 [(.aload_n 0, 1, (0, 0, 0)), (.getfield 9, 3, (4, 0, 0))] = 4 := by decide +kernel
theorem ok_X4_isThere_7_1 : oks m_X4_isThere.1 m_X4_isThere.2.2.1 7 [(.iconst 1, 1, (0, 0, 0))] = true ∧ plen 7 [(.iconst 1, 1, (0, 0, 0))] = 8 := by decide +kernel
theorem ok_X4_isThere_11_1 : oks m_X4_isThere.1 m_X4_isThere.2.2.1 11 [(.iconst 0, 1, (0, 0, 0))] = true ∧ plen 11 [(.iconst 0, 1, (0, 0, 0))] = 12 := by decide +kernel
def F_X4_isThere (σ : Sg) : Bool :=
if (σ 24 0) ≤ 0 then
false
else
true
theorem lk_X4_isThere (l : Launch) (d : Nat) (hd : 0 ≤ d) (σ : Sg) (q : Bool) (h : F_X4_isThere σ = q) : CT l d m_X4_isThere.2.1 m_X4_isThere.2.2.1 m_X4_isThere.2.2.2.1 m_X4_isThere.2.2.2.2 [.inr 24] (LAYC, σ) (some (.inl (b2i q))) (LAYC, σ) := by
  skip
  have key : Go l m_X4_isThere d LAYC (.inl (some (.inl (b2i q)))) σ 0 [some (.inr 24)] [] σ := by
    unfold F_X4_isThere at h
    refine go_ops ok_X4_isThere_0_2 (L' := [some (.inr 24)]) (st' := [.inl (σ 24 0)]) (σ1 := σ) rfl ?_
    refine go_if_le dc_X4_isThere_4 (by rfl) (fun hc => ?_) (fun hc => ?_)
    · replace h := (if_pos hc).symm.trans h
      refine go_ops ok_X4_isThere_11_1 (L' := [some (.inr 24)]) (st' := [.inl 0]) (σ1 := σ) rfl ?_
      subst h
      exact go_zret (x := false) dc_X4_isThere_12 rfl
    · replace h := (if_neg hc).symm.trans h
      refine go_ops ok_X4_isThere_7_1 (L' := [some (.inr 24)]) (st' := [.inl 1]) (σ1 := σ) rfl ?_
      refine go_goto dc_X4_isThere_8 (by rfl) ?_
      subst h
      exact go_zret (x := true) dc_X4_isThere_12 rfl
  have hf := go_ct (as := [.inr 24]) mk_X4_isThere (by rfl) (Nat.le_of_ble_eq_true rfl) key
  exact hf
theorem dc_X4_hasColumn_8 : decode m_X4_hasColumn.2.2.1 8 = .ok (.invokestatic 25, 3) := by decide +kernel
theorem dc_X4_hasColumn_11 : decode m_X4_hasColumn.2.2.1 11 = .ok (.ireturn, 1) := by decide +kernel
theorem ok_X4_hasColumn_0_6 : oks m_X4_hasColumn.1 m_X4_hasColumn.2.2.1 0 [(.iload_n 1, 1, (0, 0, 0)), (.iconst 0, 1, (0, 0, 0)), (.aload_n 0, 1, (0, 0, 0)), (.getfield 9, 3, (4, 0, 0)), (.iconst 1, 1, (0, 0, 0)), (.isub, 1, (0, 0, 0))] = true ∧ plen 0 [(.iload_n 1, 1, (0, 0, 0)), (.iconst 0, 1, (0, 0, 0)), (.aload_n 0, 1, (0, 0, 0)), (.getfield 9, 3, (4, 0, 0)), (.iconst 1, 1, (0, 0, 0)), (.isub, 1, (0, 0, 0))] = 8 := by decide +kernel
def F_X4_hasColumn (a1 : Int) (σ : Sg) : Bool :=
F_X10_isIn a1 0 (wrap ((σ 24 0) - 1))
theorem lk_X4_hasColumn (l : Launch) (d : Nat) (hd : 1 ≤ d) (a1 : Int) (σ : Sg) (q : Bool) (h : F_X4_hasColumn a1 σ = q) : CT l d m_X4_hasColumn.2.1 m_X4_hasColumn.2.2.1 m_X4_hasColumn.2.2.2.1 m_X4_hasColumn.2.2.2.2 [.inr 24, .inl a1] (LAYC, σ) (some (.inl (b2i q))) (LAYC, σ) := by
  obtain ⟨d, rfl⟩ : ∃ e, d = e + 1 := ⟨d - 1, by omega⟩
  have key : Go l m_X4_hasColumn (d + 1) LAYC (.inl (some (.inl (b2i q)))) σ 0 [some (.inr 24), some (.inl a1)] [] σ := by
    unfold F_X4_hasColumn at h
    refine go_ops ok_X4_hasColumn_0_6 (L' := [some (.inr 24), some (.inl a1)]) (st' := [.inl (wrap ((σ 24 0) - 1)), .inl 0, .inl a1]) (σ1 := σ) rfl ?_
    refine go_SN (M1 := m_X10_isIn) (as := [.inl a1, .inl 0, .inl (wrap ((σ 24 0) - 1))]) (st := []) dc_X4_hasColumn_8 ln_4_25 sm_X10_isIn mk_X10_isIn rfl (Nat.le_of_ble_eq_true rfl) (Nat.le_refl _) (v := (some (.inl (b2i (F_X10_isIn a1 0 (wrap ((σ 24 0) - 1))))))) (σ1 := σ) (lk_X10_isIn l d (by omega) a1 0 (wrap ((σ 24 0) - 1)) σ _ rfl) _ rfl ?_
    subst h
    exact go_zret (x := (F_X10_isIn a1 0 (wrap ((σ 24 0) - 1)))) dc_X4_hasColumn_11 rfl
  have hf := go_ct (as := [.inr 24, .inl a1]) mk_X4_hasColumn (by rfl) (Nat.le_of_ble_eq_true rfl) key
  exact hf
theorem dc_X4_kindOf_5 : decode m_X4_kindOf.2.2.1 5 = .ok (.invokestatic 29, 3) := by decide +kernel
theorem dc_X4_kindOf_8 : decode m_X4_kindOf.2.2.1 8 = .ok (.ireturn, 1) := by decide +kernel
theorem ok_X4_kindOf_0_3 : oks m_X4_kindOf.1 m_X4_kindOf.2.2.1 0 [(.aload_n 0, 1, (0, 0, 0)), (.getfield 18, 3, (4, 2, 0)), (.iload_n 1, 1, (0, 0, 0))] = true ∧ plen 0 [(.aload_n 0, 1, (0, 0, 0)), (.getfield 18, 3, (4, 2, 0)), (.iload_n 1, 1, (0, 0, 0))] = 5 := by decide +kernel
def F_X4_kindOf (a1 : Int) (σ : Sg) : Int :=
rdD (-1) σ 25 3 a1
theorem lk_X4_kindOf (l : Launch) (d : Nat) (hd : 1 ≤ d) (a1 : Int) (σ : Sg) (q : Int) (h : F_X4_kindOf a1 σ = q) : CT l d m_X4_kindOf.2.1 m_X4_kindOf.2.2.1 m_X4_kindOf.2.2.2.1 m_X4_kindOf.2.2.2.2 [.inr 24, .inl a1] (LAYC, σ) (some (.inl q)) (LAYC, σ) := by
  obtain ⟨d, rfl⟩ : ∃ e, d = e + 1 := ⟨d - 1, by omega⟩
  have key : Go l m_X4_kindOf (d + 1) LAYC (.inl (some (.inl q))) σ 0 [some (.inr 24), some (.inl a1)] [] σ := by
    unfold F_X4_kindOf at h
    refine go_ops ok_X4_kindOf_0_3 (L' := [some (.inr 24), some (.inl a1)]) (st' := [.inl a1, .inr 25]) (σ1 := σ) rfl ?_
    refine go_SN (M1 := m_X10_at) (as := [.inr 25, .inl a1]) (st := []) dc_X4_kindOf_5 ln_4_29 sm_X10_at mk_X10_at rfl (Nat.le_of_ble_eq_true rfl) (Nat.le_refl _) (v := some (.inl (rdD (-1) σ 25 3 a1))) (σ1 := σ) (lk_X10_at l d LAYC 25 3 rfl σ _) _ rfl ?_
    subst h
    exact go_iret dc_X4_kindOf_8 rfl
  have hf := go_ct (as := [.inr 24, .inl a1]) mk_X4_kindOf (by rfl) (Nat.le_of_ble_eq_true rfl) key
  exact hf
theorem dc_X4_start_22 : decode m_X4_start.2.2.1 22 = .ok (.if_icmp .ge 27, 3) := by decide +kernel
theorem dc_X4_start_37 : decode m_X4_start.2.2.1 37 = .ok (.invokestatic 41, 3) := by decide +kernel
theorem dc_X4_start_40 : decode m_X4_start.2.2.1 40 = .ok (.invokestatic 37, 3) := by decide +kernel
theorem dc_X4_start_46 : decode m_X4_start.2.2.1 46 = .ok (.goto (-27), 3) := by decide +kernel
theorem dc_X4_start_51 : decode m_X4_start.2.2.1 51 = .ok (.ireturn, 1) := by decide +kernel
theorem ok_X4_start_0_11 : oks m_X4_start.1 m_X4_start.2.2.1 0 [(.aload_n 0, 1, (0, 0, 0)), (.getfield 15, 3, (4, 1, 0)), (.istore 5, 2, (0, 0, 0)), (.aload_n 0, 1, (0, 0, 0)), (.iload_n 1, 1, (0, 0, 0)), (.putfield 9, 3, (4, 0, 0)), (.aload_n 0, 1, (0, 0, 0)), (.iconst 0, 1, (0, 0, 0)), (.putfield 15, 3, (4, 1, 0)), (.iconst 0, 1, (0, 0, 0)), (.istore 6, 2, (0, 0, 0))] = true ∧ plen 0 [(.aload_n 0, 1, (0, 0, 0)), (.getfield 15, 3, (4, 1, 0)), (.istore 5, 2, (0, 0, 0)), (.aload_n 0, 1, (0, 0, 0)), (.iload_n 1, 1, (0, 0, 0)), (.putfield 9, 3, (4, 0, 0)), (.aload_n 0, 1, (0, 0, 0)), (.iconst 0, 1, (0, 0, 0)), (.putfield 15, 3, (4, 1, 0)), (.iconst 0, 1, (0, 0, 0)), (.istore 6, 2, (0, 0, 0))] = 19 := by decide +kernel
theorem ok_X4_start_19_2 : oks m_X4_start.1 m_X4_start.2.2.1 19 [(.iload 6, 2, (0, 0, 0)), (.iconst 3, 1, (0, 0, 0))] = true ∧ plen 19 [(.iload 6, 2, (0, 0, 0)), (.iconst 3, 1, (0, 0, 0))] = 22 := by decide +kernel
theorem ok_X4_start_25_7 : oks m_X4_start.1 m_X4_start.2.2.1 25 [(.aload_n 0, 1, (0, 0, 0)), (.getfield 18, 3, (4, 2, 0)), (.iload 6, 2, (0, 0, 0)), (.iload 6, 2, (0, 0, 0)), (.iload_n 2, 1, (0, 0, 0)), (.iload_n 3, 1, (0, 0, 0)), (.iload 4, 2, (0, 0, 0))] = true ∧ plen 25 [(.aload_n 0, 1, (0, 0, 0)), (.getfield 18, 3, (4, 2, 0)), (.iload 6, 2, (0, 0, 0)), (.iload 6, 2, (0, 0, 0)), (.iload_n 2, 1, (0, 0, 0)), (.iload_n 3, 1, (0, 0, 0)), (.iload 4, 2, (0, 0, 0))] = 37 := by decide +kernel
theorem ok_X4_start_43_1 : oks m_X4_start.1 m_X4_start.2.2.1 43 [(.iinc 6 1, 3, (0, 0, 0))] = true ∧ plen 43 [(.iinc 6 1, 3, (0, 0, 0))] = 46 := by decide +kernel
theorem ok_X4_start_49_1 : oks m_X4_start.1 m_X4_start.2.2.1 49 [(.iload 5, 2, (0, 0, 0))] = true ∧ plen 49 [(.iload 5, 2, (0, 0, 0))] = 51 := by decide +kernel
def L_X4_start_19 (x2 : Int) (x3 : Int) (x4 : Int) (x6 : Int) (σ : Sg) : Option ((Int × Sg) ⊕ Sg) :=
if 3 ≤ x6 then
some (.inr σ)
else
bnd (wrD σ 25 3 x6 (F_X10_pick x6 x2 x3 x4)) fun s7 =>
some (.inl (wrap (x6 + 1), s7))
def F_X4_start (a1 : Int) (a2 : Int) (a3 : Int) (a4 : Int) (σ : Sg) : Option (Int × Sg) :=
bnd (σ 24 1) fun v1 =>
bnd (up2 σ 24 0 a1) fun s3 =>
bnd (up2 s3 24 1 0) fun s5 =>
(iter (fun a : (Int × Sg) => L_X4_start_19 a2 a3 a4 a.1 a.2) 4 (0, s5)).bind fun y9 =>
some (v1, y9)
theorem lk_X4_start (l : Launch) (d : Nat) (hd : 1 ≤ d) (a1 : Int) (a2 : Int) (a3 : Int) (a4 : Int) (σ : Sg) (q : (Int × Sg)) (h : F_X4_start a1 a2 a3 a4 σ = some q) : CT l d m_X4_start.2.1 m_X4_start.2.2.1 m_X4_start.2.2.2.1 m_X4_start.2.2.2.2 [.inr 24, .inl a1, .inl a2, .inl a3, .inl a4] (LAYC, σ) (some (.inl q.1)) (LAYC, q.2) := by
  obtain ⟨d, rfl⟩ : ∃ e, d = e + 1 := ⟨d - 1, by omega⟩
  have key : Go l m_X4_start (d + 1) LAYC (.inl (some (.inl q.1))) q.2 0 [some (.inr 24), some (.inl a1), some (.inl a2), some (.inl a3), some (.inl a4), none, none] [] σ := by
    unfold F_X4_start at h
    have hL_X4_start_19 : ∀ (x2 : Int) (x3 : Int) (x4 : Int) (x5 : Int) (n : Nat) (a : (Int × Sg)) (y : Sg), iter (fun a : (Int × Sg) => L_X4_start_19 x2 x3 x4 a.1 a.2) n a = some y → (fun y : Sg => Go l m_X4_start (d + 1) LAYC (.inl (some (.inl q.1))) q.2 49 [none, none, none, none, none, some (.inl x5), none] [] y) y → (fun a : (Int × Sg) => Go l m_X4_start (d + 1) LAYC (.inl (some (.inl q.1))) q.2 19 [some (.inr 24), none, some (.inl x2), some (.inl x3), some (.inl x4), some (.inl x5), some (.inl a.1)] [] a.2) a := by
      intro x2 x3 x4 x5
      refine go_iter (G := fun a : (Int × Sg) => Go l m_X4_start (d + 1) LAYC (.inl (some (.inl q.1))) q.2 19 [some (.inr 24), none, some (.inl x2), some (.inl x3), some (.inl x4), some (.inl x5), some (.inl a.1)] [] a.2) (K := fun y : Sg => Go l m_X4_start (d + 1) LAYC (.inl (some (.inl q.1))) q.2 49 [none, none, none, none, none, some (.inl x5), none] [] y) ?_
      rintro ⟨x6, σ⟩ w h hK
      replace h : L_X4_start_19 x2 x3 x4 x6 σ = some w := h
      show Go l m_X4_start (d + 1) LAYC (.inl (some (.inl q.1))) q.2 19 [some (.inr 24), none, some (.inl x2), some (.inl x3), some (.inl x4), some (.inl x5), some (.inl x6)] [] σ
      unfold L_X4_start_19 at h
      refine go_ops ok_X4_start_19_2 (L' := [some (.inr 24), none, some (.inl x2), some (.inl x3), some (.inl x4), some (.inl x5), some (.inl x6)]) (st' := [.inl 3, .inl x6]) (σ1 := σ) rfl ?_
      refine go_icmp_ge dc_X4_start_22 (by rfl) (fun hc => ?_) (fun hc => ?_)
      · replace h := (if_pos hc).symm.trans h
        cases h
        refine go_wk (L' := [none, none, none, none, none, some (.inl x5), none]) ⟨rfl, trivial⟩ ?_
        exact hK
      · replace h := (if_neg hc).symm.trans h
        refine go_ops ok_X4_start_25_7 (L' := [some (.inr 24), none, some (.inl x2), some (.inl x3), some (.inl x4), some (.inl x5), some (.inl x6)]) (st' := [.inl x4, .inl x3, .inl x2, .inl x6, .inl x6, .inr 25]) (σ1 := σ) rfl ?_
        refine go_SN (M1 := m_X10_pick) (as := [.inl x6, .inl x2, .inl x3, .inl x4]) (st := [.inl x6, .inr 25]) dc_X4_start_37 ln_4_41 sm_X10_pick mk_X10_pick rfl (Nat.le_of_ble_eq_true rfl) (Nat.le_refl _) (v := (some (.inl (F_X10_pick x6 x2 x3 x4)))) (σ1 := σ) (lk_X10_pick l d (by omega) x6 x2 x3 x4 σ _ rfl) _ rfl ?_
        obtain ⟨s7, e8, h⟩ := bnd_inv h
        refine go_SN (M1 := m_X10_put) (as := [.inr 25, .inl x6, .inl (F_X10_pick x6 x2 x3 x4)]) (st := []) dc_X4_start_40 ln_4_37 sm_X10_put mk_X10_put rfl (Nat.le_of_ble_eq_true rfl) (Nat.le_refl _) (v := none) (σ1 := s7) (lk_X10_put l d LAYC 25 3 rfl _ _ s7 e8) _ rfl ?_
        refine go_ops ok_X4_start_43_1 (L' := [some (.inr 24), none, some (.inl x2), some (.inl x3), some (.inl x4), some (.inl x5), some (.inl (wrap (x6 + 1)))]) (st' := []) (σ1 := s7) rfl ?_
        refine go_goto dc_X4_start_46 (by rfl) ?_
        cases h
        exact hK
    obtain ⟨v1, e2, h⟩ := bnd_inv h
    obtain ⟨s3, e4, h⟩ := bnd_inv h
    obtain ⟨s5, e6, h⟩ := bnd_inv h
    refine go_ops ok_X4_start_0_11 (L' := [some (.inr 24), some (.inl a1), some (.inl a2), some (.inl a3), some (.inl a4), some (.inl v1), some (.inl 0)]) (st' := []) (σ1 := s5) (by subst e6; subst e4; subst e2; rfl) ?_
    refine go_wk (L' := [some (.inr 24), none, some (.inl a2), some (.inl a3), some (.inl a4), some (.inl v1), some (.inl 0)]) ⟨rfl, rfl, rfl, rfl, rfl, rfl, trivial⟩ ?_
    obtain ⟨y9, e10, h⟩ := bind_inv h
    refine hL_X4_start_19 a2 a3 a4 v1 4 (0, s5) y9 e10 ?_
    show Go l m_X4_start (d + 1) LAYC (.inl (some (.inl q.1))) q.2 49 [none, none, none, none, none, some (.inl v1), none] [] y9
    refine go_ops ok_X4_start_49_1 (L' := [none, none, none, none, none, some (.inl v1), none]) (st' := [.inl v1]) (σ1 := y9) rfl ?_
    have h9 := Option.some.inj h
    subst h9
    exact go_iret dc_X4_start_51 rfl
  have hf := go_ct (as := [.inr 24, .inl a1, .inl a2, .inl a3, .inl a4]) mk_X4_start (by rfl) (Nat.le_of_ble_eq_true rfl) key
  exact hf
