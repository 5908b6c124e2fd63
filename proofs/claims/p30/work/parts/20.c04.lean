/-! read off: X7_sameAs .. X10_view -/
theorem dc_X7_sameAs_2 : decode m_X7_sameAs.2.2.1 2 = .ok (.invokevirtual 65, 3) := by decide +kernel
theorem dc_X7_sameAs_6 : decode m_X7_sameAs.2.2.1 6 = .ok (.if_icmp .ne 33, 3) := by decide +kernel
theorem dc_X7_sameAs_11 : decode m_X7_sameAs.2.2.1 11 = .ok (.invokevirtual 78, 3) := by decide +kernel
theorem dc_X7_sameAs_14 : decode m_X7_sameAs.2.2.1 14 = .ok (.ifCond .le 25, 3) := by decide +kernel
theorem dc_X7_sameAs_19 : decode m_X7_sameAs.2.2.1 19 = .ok (.invokevirtual 184, 3) := by decide +kernel
theorem dc_X7_sameAs_22 : decode m_X7_sameAs.2.2.1 22 = .ok (.ifCond .eq 17, 3) := by decide +kernel
theorem dc_X7_sameAs_32 : decode m_X7_sameAs.2.2.1 32 = .ok (.invokevirtual 81, 3) := by decide +kernel
theorem dc_X7_sameAs_35 : decode m_X7_sameAs.2.2.1 35 = .ok (.invokestatic 61, 3) := by decide +kernel
theorem dc_X7_sameAs_38 : decode m_X7_sameAs.2.2.1 38 = .ok (.ireturn, 1) := by decide +kernel
theorem dc_X7_sameAs_48 : decode m_X7_sameAs.2.2.1 48 = .ok (.if_icmp .ge 32, 3) := by decide +kernel
theorem dc_X7_sameAs_56 : decode m_X7_sameAs.2.2.1 56 = .ok (.invokestatic 61, 3) := by decide +kernel
theorem dc_X7_sameAs_60 : decode m_X7_sameAs.2.2.1 60 = .ok (.if_icmp .ne 14, 3) := by decide +kernel
theorem dc_X7_sameAs_66 : decode m_X7_sameAs.2.2.1 66 = .ok (.invokevirtual 188, 3) := by decide +kernel
theorem dc_X7_sameAs_69 : decode m_X7_sameAs.2.2.1 69 = .ok (.ifCond .eq 5, 3) := by decide +kernel
theorem dc_X7_sameAs_73 : decode m_X7_sameAs.2.2.1 73 = .ok (.ireturn, 1) := by decide +kernel
theorem dc_X7_sameAs_77 : decode m_X7_sameAs.2.2.1 77 = .ok (.goto (-34), 3) := by decide +kernel
theorem dc_X7_sameAs_81 : decode m_X7_sameAs.2.2.1 81 = .ok (.ireturn, 1) := by decide +kernel
theorem ok_X7_sameAs_0_2 : oks m_X7_sameAs.1 m_X7_sameAs.2.2.1 0 [(.aload_n 0, 1, (0, 0, 0)), (.iload_n 1, 1, (0, 0, 0))] = true ∧ plen 0 [(.aload_n 0, 1, (0, 0, 0)), (.iload_n 1, 1, (0, 0, 0))] = 2 := by decide +kernel
theorem ok_X7_sameAs_5_1 : oks m_X7_sameAs.1 m_X7_sameAs.2.2.1 5 [(.iconst 3, 1, (0, 0, 0))] = true ∧ plen 5 [(.iconst 3, 1, (0, 0, 0))] = 6 := by decide +kernel
theorem ok_X7_sameAs_9_2 : oks m_X7_sameAs.1 m_X7_sameAs.2.2.1 9 [(.aload_n 0, 1, (0, 0, 0)), (.iload_n 1, 1, (0, 0, 0))] = true ∧ plen 9 [(.aload_n 0, 1, (0, 0, 0)), (.iload_n 1, 1, (0, 0, 0))] = 11 := by decide +kernel
theorem ok_X7_sameAs_17_2 : oks m_X7_sameAs.1 m_X7_sameAs.2.2.1 17 [(.aload_n 0, 1, (0, 0, 0)), (.iload_n 1, 1, (0, 0, 0))] = true ∧ plen 17 [(.aload_n 0, 1, (0, 0, 0)), (.iload_n 1, 1, (0, 0, 0))] = 19 := by decide +kernel
theorem ok_X7_sameAs_25_5 : oks m_X7_sameAs.1 m_X7_sameAs.2.2.1 25 [(.aload_n 0, 1, (0, 0, 0)), (.getfield 47, 3, (7, 14, 0)), (.aload_n 0, 1, (0, 0, 0)), (.iload_n 1, 1, (0, 0, 0)), (.iconst 0, 1, (0, 0, 0))] = true ∧ plen 25 [(.aload_n 0, 1, (0, 0, 0)), (.getfield 47, 3, (7, 14, 0)), (.aload_n 0, 1, (0, 0, 0)), (.iload_n 1, 1, (0, 0, 0)), (.iconst 0, 1, (0, 0, 0))] = 32 := by decide +kernel
theorem ok_X7_sameAs_39_4 : oks m_X7_sameAs.1 m_X7_sameAs.2.2.1 39 [(.iload_n 1, 1, (0, 0, 0)), (.iconst 1, 1, (0, 0, 0)), (.iadd, 1, (0, 0, 0)), (.istore_n 2, 1, (0, 0, 0))] = true ∧ plen 39 [(.iload_n 1, 1, (0, 0, 0)), (.iconst 1, 1, (0, 0, 0)), (.iadd, 1, (0, 0, 0)), (.istore_n 2, 1, (0, 0, 0))] = 43 := by decide +kernel
theorem ok_X7_sameAs_43_3 : oks m_X7_sameAs.1 m_X7_sameAs.2.2.1 43 [(.iload_n 2, 1, (0, 0, 0)), (.aload_n 0, 1, (0, 0, 0)), (.getfield 15, 3, (7, 4, 0))] = true ∧ plen 43 [(.iload_n 2, 1, (0, 0, 0)), (.aload_n 0, 1, (0, 0, 0)), (.getfield 15, 3, (7, 4, 0))] = 48 := by decide +kernel
theorem ok_X7_sameAs_51_3 : oks m_X7_sameAs.1 m_X7_sameAs.2.2.1 51 [(.aload_n 0, 1, (0, 0, 0)), (.getfield 47, 3, (7, 14, 0)), (.iload_n 2, 1, (0, 0, 0))] = true ∧ plen 51 [(.aload_n 0, 1, (0, 0, 0)), (.getfield 47, 3, (7, 14, 0)), (.iload_n 2, 1, (0, 0, 0))] = 56 := by decide +kernel
theorem ok_X7_sameAs_59_1 : oks m_X7_sameAs.1 m_X7_sameAs.2.2.1 59 [(.iload_n 2, 1, (0, 0, 0))] = true ∧ plen 59 [(.iload_n 2, 1, (0, 0, 0))] = 60 := by decide +kernel
theorem ok_X7_sameAs_63_3 : oks m_X7_sameAs.1 m_X7_sameAs.2.2.1 63 [(.aload_n 0, 1, (0, 0, 0)), (.iload_n 1, 1, (0, 0, 0)), (.iload_n 2, 1, (0, 0, 0))] = true ∧ plen 63 [(.aload_n 0, 1, (0, 0, 0)), (.iload_n 1, 1, (0, 0, 0)), (.iload_n 2, 1, (0, 0, 0))] = 66 := by decide +kernel
theorem ok_X7_sameAs_72_1 : oks m_X7_sameAs.1 m_X7_sameAs.2.2.1 72 [(.iload_n 2, 1, (0, 0, 0))] = true ∧ plen 72 [(.iload_n 2, 1, (0, 0, 0))] = 73 := by decide +kernel
theorem ok_X7_sameAs_74_1 : oks m_X7_sameAs.1 m_X7_sameAs.2.2.1 74 [(.iinc 2 1, 3, (0, 0, 0))] = true ∧ plen 74 [(.iinc 2 1, 3, (0, 0, 0))] = 77 := by decide +kernel
theorem ok_X7_sameAs_80_1 : oks m_X7_sameAs.1 m_X7_sameAs.2.2.1 80 [(.iload_n 1, 1, (0, 0, 0))] = true ∧ plen 80 [(.iload_n 1, 1, (0, 0, 0))] = 81 := by decide +kernel
def B_X7_sameAs_74 (t : Nat) (x2 : Int) (σ : Sg) : Option (Int ⊕ (Unit ⊕ Int)) :=
some (.inl (wrap (x2 + 1)))
def L_X7_sameAs_43 (t : Nat) (x1 : Int) (σ : Sg) (x2 : Int) : Option (Int ⊕ (Unit ⊕ Int)) :=
if (σ t 4) ≤ x2 then
some (.inr (.inl ()))
else
if (rdD (-1) σ (t + 5) 500 x2) = x2 then
(F_X7_areSame t x1 x2 σ).bind fun q3 =>
if q3 = true then
some (.inr (.inr x2))
else
B_X7_sameAs_74 t x2 σ
else
B_X7_sameAs_74 t x2 σ
def B_X7_sameAs_39 (t : Nat) (x1 : Int) (σ : Sg) : Option Int :=
bnd (wrap (x1 + 1)) fun v1 =>
(iter (fun a : Int => L_X7_sameAs_43 t x1 σ a) 3000 v1).bind fun y5 => Sum.elim (fun z7 =>
some x1) (fun r8 => some r8) y5
def F_X7_sameAs (t : Nat) (a1 : Int) (σ : Sg) : Option Int :=
if (F_X7_sortOf t a1 σ) = 3 then
if (F_X7_widthOf t a1 σ) ≤ 0 then
B_X7_sameAs_39 t a1 σ
else
(F_X7_isIdle t a1 σ).bind fun q9 =>
if q9 = true then
some (rdD (-1) σ (t + 5) 500 (F_X7_nodeBehind t a1 0 σ))
else
B_X7_sameAs_39 t a1 σ
else
B_X7_sameAs_39 t a1 σ
theorem lk_X7_sameAs_43 (l : Launch) (d : Nat) (hd : 4 ≤ d) (a1 : Int) (σ : Sg) (q : Int) (h : F_X7_sameAs 43 a1 σ = some q) : CT l d m_X7_sameAs.2.1 m_X7_sameAs.2.2.1 m_X7_sameAs.2.2.2.1 m_X7_sameAs.2.2.2.2 [.inr 43, .inl a1] (LAYC, σ) (some (.inl q)) (LAYC, σ) := by
  obtain ⟨d, rfl⟩ : ∃ e, d = e + 1 := ⟨d - 1, by omega⟩
  have key : Go l m_X7_sameAs (d + 1) LAYC (.inl (some (.inl q))) σ 0 [some (.inr 43), some (.inl a1), none] [] σ := by
    unfold F_X7_sameAs at h
    have hL_X7_sameAs_43 : ∀ (x1 : Int) (σ : Sg) (n : Nat) (a : Int) (y : (Unit ⊕ Int)), iter (fun a : Int => L_X7_sameAs_43 43 x1 σ a) n a = some y → (Sum.elim (fun y : Unit => Go l m_X7_sameAs (d + 1) LAYC (.inl (some (.inl q))) σ 80 [none, some (.inl x1), none] [] σ) (fun r : Int => r = q)) y → (fun a : Int => Go l m_X7_sameAs (d + 1) LAYC (.inl (some (.inl q))) σ 43 [some (.inr 43), some (.inl x1), some (.inl a)] [] σ) a := by
      intro x1 σ
      refine go_iter (G := fun a : Int => Go l m_X7_sameAs (d + 1) LAYC (.inl (some (.inl q))) σ 43 [some (.inr 43), some (.inl x1), some (.inl a)] [] σ) (K := Sum.elim (fun y : Unit => Go l m_X7_sameAs (d + 1) LAYC (.inl (some (.inl q))) σ 80 [none, some (.inl x1), none] [] σ) (fun r : Int => r = q)) ?_
      rintro x2 w h hK
      replace h : L_X7_sameAs_43 43 x1 σ x2 = some w := h
      show Go l m_X7_sameAs (d + 1) LAYC (.inl (some (.inl q))) σ 43 [some (.inr 43), some (.inl x1), some (.inl x2)] [] σ
      unfold L_X7_sameAs_43 at h
      have hB_X7_sameAs_74 : ∀ (x2 : Int), B_X7_sameAs_74 43 x2 σ = some w → Go l m_X7_sameAs (d + 1) LAYC (.inl (some (.inl q))) σ 74 [some (.inr 43), some (.inl x1), some (.inl x2)] [] σ := by
        intro x2 h
        unfold B_X7_sameAs_74 at h
        refine go_ops ok_X7_sameAs_74_1 (L' := [some (.inr 43), some (.inl x1), some (.inl (wrap (x2 + 1)))]) (st' := []) (σ1 := σ) rfl ?_
        refine go_goto dc_X7_sameAs_77 (by rfl) ?_
        cases h
        exact hK
      refine go_ops ok_X7_sameAs_43_3 (L' := [some (.inr 43), some (.inl x1), some (.inl x2)]) (st' := [.inl (σ 43 4), .inl x2]) (σ1 := σ) rfl ?_
      refine go_icmp_ge dc_X7_sameAs_48 (by rfl) (fun hc => ?_) (fun hc => ?_)
      · replace h := (if_pos hc).symm.trans h
        cases h
        refine go_wk (L' := [none, some (.inl x1), none]) ⟨rfl, trivial⟩ ?_
        exact hK
      · replace h := (if_neg hc).symm.trans h
        refine go_ops ok_X7_sameAs_51_3 (L' := [some (.inr 43), some (.inl x1), some (.inl x2)]) (st' := [.inl x2, .inr 48]) (σ1 := σ) rfl ?_
        refine go_SN (M1 := m_X10_at) (as := [.inr 48, .inl x2]) (st := []) dc_X7_sameAs_56 ln_7_61 sm_X10_at mk_X10_at rfl (Nat.le_of_ble_eq_true rfl) (Nat.le_refl _) (v := some (.inl (rdD (-1) σ 48 500 x2))) (σ1 := σ) (lk_X10_at l d LAYC 48 500 rfl σ _) _ rfl ?_
        refine go_ops ok_X7_sameAs_59_1 (L' := [some (.inr 43), some (.inl x1), some (.inl x2)]) (st' := [.inl x2, .inl (rdD (-1) σ 48 500 x2)]) (σ1 := σ) rfl ?_
        refine go_icmp_ne dc_X7_sameAs_60 (by rfl) (fun hc => ?_) (fun hc => ?_)
        · replace h := (if_neg hc).symm.trans h
          exact hB_X7_sameAs_74 x2 h
        · replace h := (if_pos hc).symm.trans h
          refine go_ops ok_X7_sameAs_63_3 (L' := [some (.inr 43), some (.inl x1), some (.inl x2)]) (st' := [.inl x2, .inl x1, .inr 43]) (σ1 := σ) rfl ?_
          obtain ⟨q3, e4, h⟩ := bind_inv h
          refine go_V (M1 := m_X7_areSame) (as := [.inl x1, .inl x2]) (st := []) (k := 43) (ci := 7) dc_X7_sameAs_66 ln_7_188 im_X7_areSame (by decide) rfl rfl mk_X7_areSame rfl (Nat.le_of_ble_eq_true rfl) (Nat.le_refl _) (v := (some (.inl (b2i q3)))) (σ1 := σ) (lk_X7_areSame_43 l d (by omega) x1 x2 σ q3 e4) _ rfl ?_
          refine go_ifb_eq dc_X7_sameAs_69 (by rfl) (fun hc => ?_) (fun hc => ?_)
          · replace h := (if_neg hc).symm.trans h
            exact hB_X7_sameAs_74 x2 h
          · replace h := (if_pos hc).symm.trans h
            refine go_ops ok_X7_sameAs_72_1 (L' := [some (.inr 43), some (.inl x1), some (.inl x2)]) (st' := [.inl x2]) (σ1 := σ) rfl ?_
            cases h
            have hK2 : _ = q := hK
            subst hK2
            exact go_iret dc_X7_sameAs_73 rfl
    have hB_X7_sameAs_39 : ∀ (x1 : Int) (σ : Sg), B_X7_sameAs_39 43 x1 σ = some q → Go l m_X7_sameAs (d + 1) LAYC (.inl (some (.inl q))) σ 39 [some (.inr 43), some (.inl x1), none] [] σ := by
      intro x1 σ h
      unfold B_X7_sameAs_39 at h
      obtain ⟨v1, e2, h⟩ := bnd_inv h
      refine go_ops ok_X7_sameAs_39_4 (L' := [some (.inr 43), some (.inl x1), some (.inl v1)]) (st' := []) (σ1 := σ) (by subst e2; rfl) ?_
      obtain ⟨y5, e6, h⟩ := bind_inv h
      refine hL_X7_sameAs_43 x1 σ 3000 v1 y5 e6 ?_
      rcases y5 with z7 | r8
      rotate_left
      · show r8 = q
        cases h; rfl
      show Go l m_X7_sameAs (d + 1) LAYC (.inl (some (.inl q))) σ 80 [none, some (.inl x1), none] [] σ
      rw [Sum.elim_inl] at h
      refine go_ops ok_X7_sameAs_80_1 (L' := [none, some (.inl x1), none]) (st' := [.inl x1]) (σ1 := σ) rfl ?_
      have h9 := Option.some.inj h
      subst h9
      exact go_iret dc_X7_sameAs_81 rfl
    refine go_ops ok_X7_sameAs_0_2 (L' := [some (.inr 43), some (.inl a1), none]) (st' := [.inl a1, .inr 43]) (σ1 := σ) rfl ?_
    refine go_V (M1 := m_X7_sortOf) (as := [.inl a1]) (st := []) (k := 43) (ci := 7) dc_X7_sameAs_2 ln_7_65 im_X7_sortOf (by decide) rfl rfl mk_X7_sortOf rfl (Nat.le_of_ble_eq_true rfl) (Nat.le_refl _) (v := (some (.inl (F_X7_sortOf 43 a1 σ)))) (σ1 := σ) (lk_X7_sortOf_43 l d (by omega) a1 σ _ rfl) _ rfl ?_
    refine go_ops ok_X7_sameAs_5_1 (L' := [some (.inr 43), some (.inl a1), none]) (st' := [.inl 3, .inl (F_X7_sortOf 43 a1 σ)]) (σ1 := σ) rfl ?_
    refine go_icmp_ne dc_X7_sameAs_6 (by rfl) (fun hc => ?_) (fun hc => ?_)
    · replace h := (if_neg hc).symm.trans h
      exact hB_X7_sameAs_39 a1 σ h
    · replace h := (if_pos hc).symm.trans h
      refine go_ops ok_X7_sameAs_9_2 (L' := [some (.inr 43), some (.inl a1), none]) (st' := [.inl a1, .inr 43]) (σ1 := σ) rfl ?_
      refine go_V (M1 := m_X7_widthOf) (as := [.inl a1]) (st := []) (k := 43) (ci := 7) dc_X7_sameAs_11 ln_7_78 im_X7_widthOf (by decide) rfl rfl mk_X7_widthOf rfl (Nat.le_of_ble_eq_true rfl) (Nat.le_refl _) (v := (some (.inl (F_X7_widthOf 43 a1 σ)))) (σ1 := σ) (lk_X7_widthOf_43 l d (by omega) a1 σ _ rfl) _ rfl ?_
      refine go_if_le dc_X7_sameAs_14 (by rfl) (fun hc => ?_) (fun hc => ?_)
      · replace h := (if_pos hc).symm.trans h
        exact hB_X7_sameAs_39 a1 σ h
      · replace h := (if_neg hc).symm.trans h
        refine go_ops ok_X7_sameAs_17_2 (L' := [some (.inr 43), some (.inl a1), none]) (st' := [.inl a1, .inr 43]) (σ1 := σ) rfl ?_
        obtain ⟨q9, e10, h⟩ := bind_inv h
        refine go_V (M1 := m_X7_isIdle) (as := [.inl a1]) (st := []) (k := 43) (ci := 7) dc_X7_sameAs_19 ln_7_184 im_X7_isIdle (by decide) rfl rfl mk_X7_isIdle rfl (Nat.le_of_ble_eq_true rfl) (Nat.le_refl _) (v := (some (.inl (b2i q9)))) (σ1 := σ) (lk_X7_isIdle_43 l d (by omega) a1 σ q9 e10) _ rfl ?_
        refine go_ifb_eq dc_X7_sameAs_22 (by rfl) (fun hc => ?_) (fun hc => ?_)
        · replace h := (if_neg hc).symm.trans h
          exact hB_X7_sameAs_39 a1 σ h
        · replace h := (if_pos hc).symm.trans h
          refine go_ops ok_X7_sameAs_25_5 (L' := [some (.inr 43), some (.inl a1), none]) (st' := [.inl 0, .inl a1, .inr 43, .inr 48]) (σ1 := σ) rfl ?_
          refine go_V (M1 := m_X7_nodeBehind) (as := [.inl a1, .inl 0]) (st := [.inr 48]) (k := 43) (ci := 7) dc_X7_sameAs_32 ln_7_81 im_X7_nodeBehind (by decide) rfl rfl mk_X7_nodeBehind rfl (Nat.le_of_ble_eq_true rfl) (Nat.le_refl _) (v := (some (.inl (F_X7_nodeBehind 43 a1 0 σ)))) (σ1 := σ) (lk_X7_nodeBehind_43 l d (by omega) a1 0 σ _ rfl) _ rfl ?_
          refine go_SN (M1 := m_X10_at) (as := [.inr 48, .inl (F_X7_nodeBehind 43 a1 0 σ)]) (st := []) dc_X7_sameAs_35 ln_7_61 sm_X10_at mk_X10_at rfl (Nat.le_of_ble_eq_true rfl) (Nat.le_refl _) (v := some (.inl (rdD (-1) σ 48 500 (F_X7_nodeBehind 43 a1 0 σ)))) (σ1 := σ) (lk_X10_at l d LAYC 48 500 rfl σ _) _ rfl ?_
          have h9 := Option.some.inj h
          subst h9
          exact go_iret dc_X7_sameAs_38 rfl
  have hf := go_ct (as := [.inr 43, .inl a1]) mk_X7_sameAs (by rfl) (Nat.le_of_ble_eq_true rfl) key
  exact hf
theorem lk_X7_sameAs_49 (l : Launch) (d : Nat) (hd : 4 ≤ d) (a1 : Int) (σ : Sg) (q : Int) (h : F_X7_sameAs 49 a1 σ = some q) : CT l d m_X7_sameAs.2.1 m_X7_sameAs.2.2.1 m_X7_sameAs.2.2.2.1 m_X7_sameAs.2.2.2.2 [.inr 49, .inl a1] (LAYC, σ) (some (.inl q)) (LAYC, σ) := by
  obtain ⟨d, rfl⟩ : ∃ e, d = e + 1 := ⟨d - 1, by omega⟩
  have key : Go l m_X7_sameAs (d + 1) LAYC (.inl (some (.inl q))) σ 0 [some (.inr 49), some (.inl a1), none] [] σ := by
    unfold F_X7_sameAs at h
    have hL_X7_sameAs_43 : ∀ (x1 : Int) (σ : Sg) (n : Nat) (a : Int) (y : (Unit ⊕ Int)), iter (fun a : Int => L_X7_sameAs_43 49 x1 σ a) n a = some y → (Sum.elim (fun y : Unit => Go l m_X7_sameAs (d + 1) LAYC (.inl (some (.inl q))) σ 80 [none, some (.inl x1), none] [] σ) (fun r : Int => r = q)) y → (fun a : Int => Go l m_X7_sameAs (d + 1) LAYC (.inl (some (.inl q))) σ 43 [some (.inr 49), some (.inl x1), some (.inl a)] [] σ) a := by
      intro x1 σ
      refine go_iter (G := fun a : Int => Go l m_X7_sameAs (d + 1) LAYC (.inl (some (.inl q))) σ 43 [some (.inr 49), some (.inl x1), some (.inl a)] [] σ) (K := Sum.elim (fun y : Unit => Go l m_X7_sameAs (d + 1) LAYC (.inl (some (.inl q))) σ 80 [none, some (.inl x1), none] [] σ) (fun r : Int => r = q)) ?_
      rintro x2 w h hK
      replace h : L_X7_sameAs_43 49 x1 σ x2 = some w := h
      show Go l m_X7_sameAs (d + 1) LAYC (.inl (some (.inl q))) σ 43 [some (.inr 49), some (.inl x1), some (.inl x2)] [] σ
      unfold L_X7_sameAs_43 at h
      have hB_X7_sameAs_74 : ∀ (x2 : Int), B_X7_sameAs_74 49 x2 σ = some w → Go l m_X7_sameAs (d + 1) LAYC (.inl (some (.inl q))) σ 74 [some (.inr 49), some (.inl x1), some (.inl x2)] [] σ := by
        intro x2 h
        unfold B_X7_sameAs_74 at h
        refine go_ops ok_X7_sameAs_74_1 (L' := [some (.inr 49), some (.inl x1), some (.inl (wrap (x2 + 1)))]) (st' := []) (σ1 := σ) rfl ?_
        refine go_goto dc_X7_sameAs_77 (by rfl) ?_
        cases h
        exact hK
      refine go_ops ok_X7_sameAs_43_3 (L' := [some (.inr 49), some (.inl x1), some (.inl x2)]) (st' := [.inl (σ 49 4), .inl x2]) (σ1 := σ) rfl ?_
      refine go_icmp_ge dc_X7_sameAs_48 (by rfl) (fun hc => ?_) (fun hc => ?_)
      · replace h := (if_pos hc).symm.trans h
        cases h
        refine go_wk (L' := [none, some (.inl x1), none]) ⟨rfl, trivial⟩ ?_
        exact hK
      · replace h := (if_neg hc).symm.trans h
        refine go_ops ok_X7_sameAs_51_3 (L' := [some (.inr 49), some (.inl x1), some (.inl x2)]) (st' := [.inl x2, .inr 54]) (σ1 := σ) rfl ?_
        refine go_SN (M1 := m_X10_at) (as := [.inr 54, .inl x2]) (st := []) dc_X7_sameAs_56 ln_7_61 sm_X10_at mk_X10_at rfl (Nat.le_of_ble_eq_true rfl) (Nat.le_refl _) (v := some (.inl (rdD (-1) σ 54 500 x2))) (σ1 := σ) (lk_X10_at l d LAYC 54 500 rfl σ _) _ rfl ?_
        refine go_ops ok_X7_sameAs_59_1 (L' := [some (.inr 49), some (.inl x1), some (.inl x2)]) (st' := [.inl x2, .inl (rdD (-1) σ 54 500 x2)]) (σ1 := σ) rfl ?_
        refine go_icmp_ne dc_X7_sameAs_60 (by rfl) (fun hc => ?_) (fun hc => ?_)
        · replace h := (if_neg hc).symm.trans h
          exact hB_X7_sameAs_74 x2 h
        · replace h := (if_pos hc).symm.trans h
          refine go_ops ok_X7_sameAs_63_3 (L' := [some (.inr 49), some (.inl x1), some (.inl x2)]) (st' := [.inl x2, .inl x1, .inr 49]) (σ1 := σ) rfl ?_
          obtain ⟨q3, e4, h⟩ := bind_inv h
          refine go_V (M1 := m_X7_areSame) (as := [.inl x1, .inl x2]) (st := []) (k := 49) (ci := 7) dc_X7_sameAs_66 ln_7_188 im_X7_areSame (by decide) rfl rfl mk_X7_areSame rfl (Nat.le_of_ble_eq_true rfl) (Nat.le_refl _) (v := (some (.inl (b2i q3)))) (σ1 := σ) (lk_X7_areSame_49 l d (by omega) x1 x2 σ q3 e4) _ rfl ?_
          refine go_ifb_eq dc_X7_sameAs_69 (by rfl) (fun hc => ?_) (fun hc => ?_)
          · replace h := (if_neg hc).symm.trans h
            exact hB_X7_sameAs_74 x2 h
          · replace h := (if_pos hc).symm.trans h
            refine go_ops ok_X7_sameAs_72_1 (L' := [some (.inr 49), some (.inl x1), some (.inl x2)]) (st' := [.inl x2]) (σ1 := σ) rfl ?_
            cases h
            have hK2 : _ = q := hK
            subst hK2
            exact go_iret dc_X7_sameAs_73 rfl
    have hB_X7_sameAs_39 : ∀ (x1 : Int) (σ : Sg), B_X7_sameAs_39 49 x1 σ = some q → Go l m_X7_sameAs (d + 1) LAYC (.inl (some (.inl q))) σ 39 [some (.inr 49), some (.inl x1), none] [] σ := by
      intro x1 σ h
      unfold B_X7_sameAs_39 at h
      obtain ⟨v1, e2, h⟩ := bnd_inv h
      refine go_ops ok_X7_sameAs_39_4 (L' := [some (.inr 49), some (.inl x1), some (.inl v1)]) (st' := []) (σ1 := σ) (by subst e2; rfl) ?_
      obtain ⟨y5, e6, h⟩ := bind_inv h
      refine hL_X7_sameAs_43 x1 σ 3000 v1 y5 e6 ?_
      rcases y5 with z7 | r8
      rotate_left
      · show r8 = q
        cases h; rfl
      show Go l m_X7_sameAs (d + 1) LAYC (.inl (some (.inl q))) σ 80 [none, some (.inl x1), none] [] σ
      rw [Sum.elim_inl] at h
      refine go_ops ok_X7_sameAs_80_1 (L' := [none, some (.inl x1), none]) (st' := [.inl x1]) (σ1 := σ) rfl ?_
      have h9 := Option.some.inj h
      subst h9
      exact go_iret dc_X7_sameAs_81 rfl
    refine go_ops ok_X7_sameAs_0_2 (L' := [some (.inr 49), some (.inl a1), none]) (st' := [.inl a1, .inr 49]) (σ1 := σ) rfl ?_
    refine go_V (M1 := m_X7_sortOf) (as := [.inl a1]) (st := []) (k := 49) (ci := 7) dc_X7_sameAs_2 ln_7_65 im_X7_sortOf (by decide) rfl rfl mk_X7_sortOf rfl (Nat.le_of_ble_eq_true rfl) (Nat.le_refl _) (v := (some (.inl (F_X7_sortOf 49 a1 σ)))) (σ1 := σ) (lk_X7_sortOf_49 l d (by omega) a1 σ _ rfl) _ rfl ?_
    refine go_ops ok_X7_sameAs_5_1 (L' := [some (.inr 49), some (.inl a1), none]) (st' := [.inl 3, .inl (F_X7_sortOf 49 a1 σ)]) (σ1 := σ) rfl ?_
    refine go_icmp_ne dc_X7_sameAs_6 (by rfl) (fun hc => ?_) (fun hc => ?_)
    · replace h := (if_neg hc).symm.trans h
      exact hB_X7_sameAs_39 a1 σ h
    · replace h := (if_pos hc).symm.trans h
      refine go_ops ok_X7_sameAs_9_2 (L' := [some (.inr 49), some (.inl a1), none]) (st' := [.inl a1, .inr 49]) (σ1 := σ) rfl ?_
      refine go_V (M1 := m_X7_widthOf) (as := [.inl a1]) (st := []) (k := 49) (ci := 7) dc_X7_sameAs_11 ln_7_78 im_X7_widthOf (by decide) rfl rfl mk_X7_widthOf rfl (Nat.le_of_ble_eq_true rfl) (Nat.le_refl _) (v := (some (.inl (F_X7_widthOf 49 a1 σ)))) (σ1 := σ) (lk_X7_widthOf_49 l d (by omega) a1 σ _ rfl) _ rfl ?_
      refine go_if_le dc_X7_sameAs_14 (by rfl) (fun hc => ?_) (fun hc => ?_)
      · replace h := (if_pos hc).symm.trans h
        exact hB_X7_sameAs_39 a1 σ h
      · replace h := (if_neg hc).symm.trans h
        refine go_ops ok_X7_sameAs_17_2 (L' := [some (.inr 49), some (.inl a1), none]) (st' := [.inl a1, .inr 49]) (σ1 := σ) rfl ?_
        obtain ⟨q9, e10, h⟩ := bind_inv h
        refine go_V (M1 := m_X7_isIdle) (as := [.inl a1]) (st := []) (k := 49) (ci := 7) dc_X7_sameAs_19 ln_7_184 im_X7_isIdle (by decide) rfl rfl mk_X7_isIdle rfl (Nat.le_of_ble_eq_true rfl) (Nat.le_refl _) (v := (some (.inl (b2i q9)))) (σ1 := σ) (lk_X7_isIdle_49 l d (by omega) a1 σ q9 e10) _ rfl ?_
        refine go_ifb_eq dc_X7_sameAs_22 (by rfl) (fun hc => ?_) (fun hc => ?_)
        · replace h := (if_neg hc).symm.trans h
          exact hB_X7_sameAs_39 a1 σ h
        · replace h := (if_pos hc).symm.trans h
          refine go_ops ok_X7_sameAs_25_5 (L' := [some (.inr 49), some (.inl a1), none]) (st' := [.inl 0, .inl a1, .inr 49, .inr 54]) (σ1 := σ) rfl ?_
          refine go_V (M1 := m_X7_nodeBehind) (as := [.inl a1, .inl 0]) (st := [.inr 54]) (k := 49) (ci := 7) dc_X7_sameAs_32 ln_7_81 im_X7_nodeBehind (by decide) rfl rfl mk_X7_nodeBehind rfl (Nat.le_of_ble_eq_true rfl) (Nat.le_refl _) (v := (some (.inl (F_X7_nodeBehind 49 a1 0 σ)))) (σ1 := σ) (lk_X7_nodeBehind_49 l d (by omega) a1 0 σ _ rfl) _ rfl ?_
          refine go_SN (M1 := m_X10_at) (as := [.inr 54, .inl (F_X7_nodeBehind 49 a1 0 σ)]) (st := []) dc_X7_sameAs_35 ln_7_61 sm_X10_at mk_X10_at rfl (Nat.le_of_ble_eq_true rfl) (Nat.le_refl _) (v := some (.inl (rdD (-1) σ 54 500 (F_X7_nodeBehind 49 a1 0 σ)))) (σ1 := σ) (lk_X10_at l d LAYC 54 500 rfl σ _) _ rfl ?_
          have h9 := Option.some.inj h
          subst h9
          exact go_iret dc_X7_sameAs_38 rfl
  have hf := go_ct (as := [.inr 49, .inl a1]) mk_X7_sameAs (by rfl) (Nat.le_of_ble_eq_true rfl) key
  exact hf
theorem dc_X7_sharedCount_5 : decode m_X7_sharedCount.2.2.1 5 = .ok (.if_icmp .ne 64, 3) := by decide +kernel
theorem dc_X7_sharedCount_21 : decode m_X7_sharedCount.2.2.1 21 = .ok (.ifCond .lt 48, 3) := by decide +kernel
theorem dc_X7_sharedCount_31 : decode m_X7_sharedCount.2.2.1 31 = .ok (.invokevirtual 181, 3) := by decide +kernel
theorem dc_X7_sharedCount_34 : decode m_X7_sharedCount.2.2.1 34 = .ok (.invokestatic 94, 3) := by decide +kernel
theorem dc_X7_sharedCount_47 : decode m_X7_sharedCount.2.2.1 47 = .ok (.invokestatic 61, 3) := by decide +kernel
theorem dc_X7_sharedCount_51 : decode m_X7_sharedCount.2.2.1 51 = .ok (.if_icmp .ne 7, 3) := by decide +kernel
theorem dc_X7_sharedCount_55 : decode m_X7_sharedCount.2.2.1 55 = .ok (.goto 4, 3) := by decide +kernel
theorem dc_X7_sharedCount_66 : decode m_X7_sharedCount.2.2.1 66 = .ok (.goto (-46), 3) := by decide +kernel
theorem dc_X7_sharedCount_73 : decode m_X7_sharedCount.2.2.1 73 = .ok (.ireturn, 1) := by decide +kernel
theorem ok_X7_sharedCount_0_3 : oks m_X7_sharedCount.1 m_X7_sharedCount.2.2.1 0 [(.aload_n 0, 1, (0, 0, 0)), (.getfield 22, 3, (7, 6, 0)), (.iconst (-1), 1, (0, 0, 0))] = true ∧ plen 0 [(.aload_n 0, 1, (0, 0, 0)), (.getfield 22, 3, (7, 6, 0)), (.iconst (-1), 1, (0, 0, 0))] = 5 := by decide +kernel
theorem ok_X7_sharedCount_8_8 : oks m_X7_sharedCount.1 m_X7_sharedCount.2.2.1 8 [(.aload_n 0, 1, (0, 0, 0)), (.iconst 0, 1, (0, 0, 0)), (.putfield 22, 3, (7, 6, 0)), (.aload_n 0, 1, (0, 0, 0)), (.getfield 15, 3, (7, 4, 0)), (.iconst 1, 1, (0, 0, 0)), (.isub, 1, (0, 0, 0)), (.istore_n 1, 1, (0, 0, 0))] = true ∧ plen 8 [(.aload_n 0, 1, (0, 0, 0)), (.iconst 0, 1, (0, 0, 0)), (.putfield 22, 3, (7, 6, 0)), (.aload_n 0, 1, (0, 0, 0)), (.getfield 15, 3, (7, 4, 0)), (.iconst 1, 1, (0, 0, 0)), (.isub, 1, (0, 0, 0)), (.istore_n 1, 1, (0, 0, 0))] = 20 := by decide +kernel
theorem ok_X7_sharedCount_20_1 : oks m_X7_sharedCount.1 m_X7_sharedCount.2.2.1 20 [(.iload_n 1, 1, (0, 0, 0))] = true ∧ plen 20 [(.iload_n 1, 1, (0, 0, 0))] = 21 := by decide +kernel
theorem ok_X7_sharedCount_24_5 : oks m_X7_sharedCount.1 m_X7_sharedCount.2.2.1 24 [(.aload_n 0, 1, (0, 0, 0)), (.getfield 47, 3, (7, 14, 0)), (.iload_n 1, 1, (0, 0, 0)), (.aload_n 0, 1, (0, 0, 0)), (.iload_n 1, 1, (0, 0, 0))] = true ∧ plen 24 [(.aload_n 0, 1, (0, 0, 0)), (.getfield 47, 3, (7, 14, 0)), (.iload_n 1, 1, (0, 0, 0)), (.aload_n 0, 1, (0, 0, 0)), (.iload_n 1, 1, (0, 0, 0))] = 31 := by decide +kernel
theorem ok_X7_sharedCount_37_6 : oks m_X7_sharedCount.1 m_X7_sharedCount.2.2.1 37 [(.aload_n 0, 1, (0, 0, 0)), (.dup, 1, (0, 0, 0)), (.getfield 22, 3, (7, 6, 0)), (.aload_n 0, 1, (0, 0, 0)), (.getfield 47, 3, (7, 14, 0)), (.iload_n 1, 1, (0, 0, 0))] = true ∧ plen 37 [(.aload_n 0, 1, (0, 0, 0)), (.dup, 1, (0, 0, 0)), (.getfield 22, 3, (7, 6, 0)), (.aload_n 0, 1, (0, 0, 0)), (.getfield 47, 3, (7, 14, 0)), (.iload_n 1, 1, (0, 0, 0))] = 47 := by decide +kernel
theorem ok_X7_sharedCount_50_1 : oks m_X7_sharedCount.1 m_X7_sharedCount.2.2.1 50 [(.iload_n 1, 1, (0, 0, 0))] = true ∧ plen 50 [(.iload_n 1, 1, (0, 0, 0))] = 51 := by decide +kernel
theorem ok_X7_sharedCount_54_1 : oks m_X7_sharedCount.1 m_X7_sharedCount.2.2.1 54 [(.iconst 1, 1, (0, 0, 0))] = true ∧ plen 54 [(.iconst 1, 1, (0, 0, 0))] = 55 := by decide +kernel
theorem ok_X7_sharedCount_58_1 : oks m_X7_sharedCount.1 m_X7_sharedCount.2.2.1 58 [(.iconst 0, 1, (0, 0, 0))] = true ∧ plen 58 [(.iconst 0, 1, (0, 0, 0))] = 59 := by decide +kernel
theorem ok_X7_sharedCount_59_3 : oks m_X7_sharedCount.1 m_X7_sharedCount.2.2.1 59 [(.iadd, 1, (0, 0, 0)), (.putfield 22, 3, (7, 6, 0)), (.iinc 1 (-1), 3, (0, 0, 0))] = true ∧ plen 59 [(.iadd, 1, (0, 0, 0)), (.putfield 22, 3, (7, 6, 0)), (.iinc 1 (-1), 3, (0, 0, 0))] = 66 := by decide +kernel
theorem ok_X7_sharedCount_69_2 : oks m_X7_sharedCount.1 m_X7_sharedCount.2.2.1 69 [(.aload_n 0, 1, (0, 0, 0)), (.getfield 22, 3, (7, 6, 0))] = true ∧ plen 69 [(.aload_n 0, 1, (0, 0, 0)), (.getfield 22, 3, (7, 6, 0))] = 73 := by decide +kernel
def B_X7_sharedCount_69 (t : Nat) (σ : Sg) : Option (Int × Sg) :=
some (σ t 6, σ)
def B_X7_sharedCount_59 (t : Nat) (x1 : Int) (y0 : Bool) (y1 : Int) (σ : Sg) : Option ((Int × Sg) ⊕ Sg) :=
bnd (up2 σ t 6 (wrap (y1 + (b2i y0)))) fun s9 =>
some (.inl (wrap (x1 + (-1)), s9))
def L_X7_sharedCount_20 (t : Nat) (x1 : Int) (σ : Sg) : Option ((Int × Sg) ⊕ Sg) :=
if x1 < 0 then
some (.inr σ)
else
(F_X7_sameAs t x1 σ).bind fun q5 =>
bnd (wrD σ (t + 5) 500 x1 q5) fun s7 =>
if (rdD (-1) s7 (t + 5) 500 x1) = x1 then
B_X7_sharedCount_59 t x1 true (s7 t 6) s7
else
B_X7_sharedCount_59 t x1 false (s7 t 6) s7
def F_X7_sharedCount (t : Nat) (σ : Sg) : Option (Int × Sg) :=
if (σ t 6) = (-1) then
bnd (up2 σ t 6 0) fun s1 =>
bnd (wrap ((s1 t 4) - 1)) fun v3 =>
(iter (fun a : (Int × Sg) => L_X7_sharedCount_20 t a.1 a.2) 3000 (v3, s1)).bind fun y11 =>
B_X7_sharedCount_69 t y11
else
B_X7_sharedCount_69 t σ
theorem lk_X7_sharedCount_43 (l : Launch) (d : Nat) (hd : 5 ≤ d) (σ : Sg) (q : (Int × Sg)) (h : F_X7_sharedCount 43 σ = some q) : CT l d m_X7_sharedCount.2.1 m_X7_sharedCount.2.2.1 m_X7_sharedCount.2.2.2.1 m_X7_sharedCount.2.2.2.2 [.inr 43] (LAYC, σ) (some (.inl q.1)) (LAYC, q.2) := by
  obtain ⟨d, rfl⟩ : ∃ e, d = e + 1 := ⟨d - 1, by omega⟩
  have key : Go l m_X7_sharedCount (d + 1) LAYC (.inl (some (.inl q.1))) q.2 0 [some (.inr 43), none] [] σ := by
    unfold F_X7_sharedCount at h
    have hB_X7_sharedCount_69 : ∀ (σ : Sg), B_X7_sharedCount_69 43 σ = some q → Go l m_X7_sharedCount (d + 1) LAYC (.inl (some (.inl q.1))) q.2 69 [some (.inr 43), none] [] σ := by
      intro σ h
      unfold B_X7_sharedCount_69 at h
      refine go_ops ok_X7_sharedCount_69_2 (L' := [some (.inr 43), none]) (st' := [.inl (σ 43 6)]) (σ1 := σ) rfl ?_
      have h9 := Option.some.inj h
      subst h9
      exact go_iret dc_X7_sharedCount_73 rfl
    have hL_X7_sharedCount_20 : ∀ (n : Nat) (a : (Int × Sg)) (y : Sg), iter (fun a : (Int × Sg) => L_X7_sharedCount_20 43 a.1 a.2) n a = some y → (fun y : Sg => Go l m_X7_sharedCount (d + 1) LAYC (.inl (some (.inl q.1))) q.2 69 [some (.inr 43), none] [] y) y → (fun a : (Int × Sg) => Go l m_X7_sharedCount (d + 1) LAYC (.inl (some (.inl q.1))) q.2 20 [some (.inr 43), some (.inl a.1)] [] a.2) a := by
      skip
      refine go_iter (G := fun a : (Int × Sg) => Go l m_X7_sharedCount (d + 1) LAYC (.inl (some (.inl q.1))) q.2 20 [some (.inr 43), some (.inl a.1)] [] a.2) (K := fun y : Sg => Go l m_X7_sharedCount (d + 1) LAYC (.inl (some (.inl q.1))) q.2 69 [some (.inr 43), none] [] y) ?_
      rintro ⟨x1, σ⟩ w h hK
      replace h : L_X7_sharedCount_20 43 x1 σ = some w := h
      show Go l m_X7_sharedCount (d + 1) LAYC (.inl (some (.inl q.1))) q.2 20 [some (.inr 43), some (.inl x1)] [] σ
      unfold L_X7_sharedCount_20 at h
      have hB_X7_sharedCount_59 : ∀ (x1 : Int) (y0 : Bool) (y1 : Int) (σ : Sg), B_X7_sharedCount_59 43 x1 y0 y1 σ = some w → Go l m_X7_sharedCount (d + 1) LAYC (.inl (some (.inl q.1))) q.2 59 [some (.inr 43), some (.inl x1)] [.inl (b2i y0), .inl y1, .inr 43] σ := by
        intro x1 y0 y1 σ h
        unfold B_X7_sharedCount_59 at h
        obtain ⟨s9, e10, h⟩ := bnd_inv h
        refine go_ops ok_X7_sharedCount_59_3 (L' := [some (.inr 43), some (.inl (wrap (x1 + (-1))))]) (st' := []) (σ1 := s9) (by subst e10; rfl) ?_
        refine go_goto dc_X7_sharedCount_66 (by rfl) ?_
        cases h
        exact hK
      refine go_ops ok_X7_sharedCount_20_1 (L' := [some (.inr 43), some (.inl x1)]) (st' := [.inl x1]) (σ1 := σ) rfl ?_
      refine go_if_lt dc_X7_sharedCount_21 (by rfl) (fun hc => ?_) (fun hc => ?_)
      · replace h := (if_pos hc).symm.trans h
        cases h
        refine go_wk (L' := [some (.inr 43), none]) ⟨rfl, trivial⟩ ?_
        exact hK
      · replace h := (if_neg hc).symm.trans h
        refine go_ops ok_X7_sharedCount_24_5 (L' := [some (.inr 43), some (.inl x1)]) (st' := [.inl x1, .inr 43, .inl x1, .inr 48]) (σ1 := σ) rfl ?_
        obtain ⟨q5, e6, h⟩ := bind_inv h
        refine go_V (M1 := m_X7_sameAs) (as := [.inl x1]) (st := [.inl x1, .inr 48]) (k := 43) (ci := 7) dc_X7_sharedCount_31 ln_7_181 im_X7_sameAs (by decide) rfl rfl mk_X7_sameAs rfl (Nat.le_of_ble_eq_true rfl) (Nat.le_refl _) (v := (some (.inl q5))) (σ1 := σ) (lk_X7_sameAs_43 l d (by omega) x1 σ q5 e6) _ rfl ?_
        obtain ⟨s7, e8, h⟩ := bnd_inv h
        refine go_SN (M1 := m_X10_put) (as := [.inr 48, .inl x1, .inl q5]) (st := []) dc_X7_sharedCount_34 ln_7_94 sm_X10_put mk_X10_put rfl (Nat.le_of_ble_eq_true rfl) (Nat.le_refl _) (v := none) (σ1 := s7) (lk_X10_put l d LAYC 48 500 rfl _ _ s7 e8) _ rfl ?_
        refine go_ops ok_X7_sharedCount_37_6 (L' := [some (.inr 43), some (.inl x1)]) (st' := [.inl x1, .inr 48, .inl (s7 43 6), .inr 43]) (σ1 := s7) rfl ?_
        refine go_SN (M1 := m_X10_at) (as := [.inr 48, .inl x1]) (st := [.inl (s7 43 6), .inr 43]) dc_X7_sharedCount_47 ln_7_61 sm_X10_at mk_X10_at rfl (Nat.le_of_ble_eq_true rfl) (Nat.le_refl _) (v := some (.inl (rdD (-1) s7 48 500 x1))) (σ1 := s7) (lk_X10_at l d LAYC 48 500 rfl s7 _) _ rfl ?_
        refine go_ops ok_X7_sharedCount_50_1 (L' := [some (.inr 43), some (.inl x1)]) (st' := [.inl x1, .inl (rdD (-1) s7 48 500 x1), .inl (s7 43 6), .inr 43]) (σ1 := s7) rfl ?_
        refine go_icmp_ne dc_X7_sharedCount_51 (by rfl) (fun hc => ?_) (fun hc => ?_)
        · replace h := (if_neg hc).symm.trans h
          refine go_ops ok_X7_sharedCount_58_1 (L' := [some (.inr 43), some (.inl x1)]) (st' := [.inl 0, .inl (s7 43 6), .inr 43]) (σ1 := s7) rfl ?_
          exact hB_X7_sharedCount_59 x1 false (s7 43 6) s7 h
        · replace h := (if_pos hc).symm.trans h
          refine go_ops ok_X7_sharedCount_54_1 (L' := [some (.inr 43), some (.inl x1)]) (st' := [.inl 1, .inl (s7 43 6), .inr 43]) (σ1 := s7) rfl ?_
          refine go_goto dc_X7_sharedCount_55 (by rfl) ?_
          exact hB_X7_sharedCount_59 x1 true (s7 43 6) s7 h
    refine go_ops ok_X7_sharedCount_0_3 (L' := [some (.inr 43), none]) (st' := [.inl (-1), .inl (σ 43 6)]) (σ1 := σ) rfl ?_
    refine go_icmp_ne dc_X7_sharedCount_5 (by rfl) (fun hc => ?_) (fun hc => ?_)
    · replace h := (if_neg hc).symm.trans h
      exact hB_X7_sharedCount_69 σ h
    · replace h := (if_pos hc).symm.trans h
      obtain ⟨s1, e2, h⟩ := bnd_inv h
      obtain ⟨v3, e4, h⟩ := bnd_inv h
      refine go_ops ok_X7_sharedCount_8_8 (L' := [some (.inr 43), some (.inl v3)]) (st' := []) (σ1 := s1) (by subst e4; subst e2; rfl) ?_
      obtain ⟨y11, e12, h⟩ := bind_inv h
      refine hL_X7_sharedCount_20  3000 (v3, s1) y11 e12 ?_
      show Go l m_X7_sharedCount (d + 1) LAYC (.inl (some (.inl q.1))) q.2 69 [some (.inr 43), none] [] y11
      exact hB_X7_sharedCount_69 y11 h
  have hf := go_ct (as := [.inr 43]) mk_X7_sharedCount (by rfl) (Nat.le_of_ble_eq_true rfl) key
  exact hf
theorem lk_X7_sharedCount_49 (l : Launch) (d : Nat) (hd : 5 ≤ d) (σ : Sg) (q : (Int × Sg)) (h : F_X7_sharedCount 49 σ = some q) : CT l d m_X7_sharedCount.2.1 m_X7_sharedCount.2.2.1 m_X7_sharedCount.2.2.2.1 m_X7_sharedCount.2.2.2.2 [.inr 49] (LAYC, σ) (some (.inl q.1)) (LAYC, q.2) := by
  obtain ⟨d, rfl⟩ : ∃ e, d = e + 1 := ⟨d - 1, by omega⟩
  have key : Go l m_X7_sharedCount (d + 1) LAYC (.inl (some (.inl q.1))) q.2 0 [some (.inr 49), none] [] σ := by
    unfold F_X7_sharedCount at h
    have hB_X7_sharedCount_69 : ∀ (σ : Sg), B_X7_sharedCount_69 49 σ = some q → Go l m_X7_sharedCount (d + 1) LAYC (.inl (some (.inl q.1))) q.2 69 [some (.inr 49), none] [] σ := by
      intro σ h
      unfold B_X7_sharedCount_69 at h
      refine go_ops ok_X7_sharedCount_69_2 (L' := [some (.inr 49), none]) (st' := [.inl (σ 49 6)]) (σ1 := σ) rfl ?_
      have h9 := Option.some.inj h
      subst h9
      exact go_iret dc_X7_sharedCount_73 rfl
    have hL_X7_sharedCount_20 : ∀ (n : Nat) (a : (Int × Sg)) (y : Sg), iter (fun a : (Int × Sg) => L_X7_sharedCount_20 49 a.1 a.2) n a = some y → (fun y : Sg => Go l m_X7_sharedCount (d + 1) LAYC (.inl (some (.inl q.1))) q.2 69 [some (.inr 49), none] [] y) y → (fun a : (Int × Sg) => Go l m_X7_sharedCount (d + 1) LAYC (.inl (some (.inl q.1))) q.2 20 [some (.inr 49), some (.inl a.1)] [] a.2) a := by
      skip
      refine go_iter (G := fun a : (Int × Sg) => Go l m_X7_sharedCount (d + 1) LAYC (.inl (some (.inl q.1))) q.2 20 [some (.inr 49), some (.inl a.1)] [] a.2) (K := fun y : Sg => Go l m_X7_sharedCount (d + 1) LAYC (.inl (some (.inl q.1))) q.2 69 [some (.inr 49), none] [] y) ?_
      rintro ⟨x1, σ⟩ w h hK
      replace h : L_X7_sharedCount_20 49 x1 σ = some w := h
      show Go l m_X7_sharedCount (d + 1) LAYC (.inl (some (.inl q.1))) q.2 20 [some (.inr 49), some (.inl x1)] [] σ
      unfold L_X7_sharedCount_20 at h
      have hB_X7_sharedCount_59 : ∀ (x1 : Int) (y0 : Bool) (y1 : Int) (σ : Sg), B_X7_sharedCount_59 49 x1 y0 y1 σ = some w → Go l m_X7_sharedCount (d + 1) LAYC (.inl (some (.inl q.1))) q.2 59 [some (.inr 49), some (.inl x1)] [.inl (b2i y0), .inl y1, .inr 49] σ := by
        intro x1 y0 y1 σ h
        unfold B_X7_sharedCount_59 at h
        obtain ⟨s9, e10, h⟩ := bnd_inv h
        refine go_ops ok_X7_sharedCount_59_3 (L' := [some (.inr 49), some (.inl (wrap (x1 + (-1))))]) (st' := []) (σ1 := s9) (by subst e10; rfl) ?_
        refine go_goto dc_X7_sharedCount_66 (by rfl) ?_
        cases h
        exact hK
      refine go_ops ok_X7_sharedCount_20_1 (L' := [some (.inr 49), some (.inl x1)]) (st' := [.inl x1]) (σ1 := σ) rfl ?_
      refine go_if_lt dc_X7_sharedCount_21 (by rfl) (fun hc => ?_) (fun hc => ?_)
      · replace h := (if_pos hc).symm.trans h
        cases h
        refine go_wk (L' := [some (.inr 49), none]) ⟨rfl, trivial⟩ ?_
        exact hK
      · replace h := (if_neg hc).symm.trans h
        refine go_ops ok_X7_sharedCount_24_5 (L' := [some (.inr 49), some (.inl x1)]) (st' := [.inl x1, .inr 49, .inl x1, .inr 54]) (σ1 := σ) rfl ?_
        obtain ⟨q5, e6, h⟩ := bind_inv h
        refine go_V (M1 := m_X7_sameAs) (as := [.inl x1]) (st := [.inl x1, .inr 54]) (k := 49) (ci := 7) dc_X7_sharedCount_31 ln_7_181 im_X7_sameAs (by decide) rfl rfl mk_X7_sameAs rfl (Nat.le_of_ble_eq_true rfl) (Nat.le_refl _) (v := (some (.inl q5))) (σ1 := σ) (lk_X7_sameAs_49 l d (by omega) x1 σ q5 e6) _ rfl ?_
        obtain ⟨s7, e8, h⟩ := bnd_inv h
        refine go_SN (M1 := m_X10_put) (as := [.inr 54, .inl x1, .inl q5]) (st := []) dc_X7_sharedCount_34 ln_7_94 sm_X10_put mk_X10_put rfl (Nat.le_of_ble_eq_true rfl) (Nat.le_refl _) (v := none) (σ1 := s7) (lk_X10_put l d LAYC 54 500 rfl _ _ s7 e8) _ rfl ?_
        refine go_ops ok_X7_sharedCount_37_6 (L' := [some (.inr 49), some (.inl x1)]) (st' := [.inl x1, .inr 54, .inl (s7 49 6), .inr 49]) (σ1 := s7) rfl ?_
        refine go_SN (M1 := m_X10_at) (as := [.inr 54, .inl x1]) (st := [.inl (s7 49 6), .inr 49]) dc_X7_sharedCount_47 ln_7_61 sm_X10_at mk_X10_at rfl (Nat.le_of_ble_eq_true rfl) (Nat.le_refl _) (v := some (.inl (rdD (-1) s7 54 500 x1))) (σ1 := s7) (lk_X10_at l d LAYC 54 500 rfl s7 _) _ rfl ?_
        refine go_ops ok_X7_sharedCount_50_1 (L' := [some (.inr 49), some (.inl x1)]) (st' := [.inl x1, .inl (rdD (-1) s7 54 500 x1), .inl (s7 49 6), .inr 49]) (σ1 := s7) rfl ?_
        refine go_icmp_ne dc_X7_sharedCount_51 (by rfl) (fun hc => ?_) (fun hc => ?_)
        · replace h := (if_neg hc).symm.trans h
          refine go_ops ok_X7_sharedCount_58_1 (L' := [some (.inr 49), some (.inl x1)]) (st' := [.inl 0, .inl (s7 49 6), .inr 49]) (σ1 := s7) rfl ?_
          exact hB_X7_sharedCount_59 x1 false (s7 49 6) s7 h
        · replace h := (if_pos hc).symm.trans h
          refine go_ops ok_X7_sharedCount_54_1 (L' := [some (.inr 49), some (.inl x1)]) (st' := [.inl 1, .inl (s7 49 6), .inr 49]) (σ1 := s7) rfl ?_
          refine go_goto dc_X7_sharedCount_55 (by rfl) ?_
          exact hB_X7_sharedCount_59 x1 true (s7 49 6) s7 h
    refine go_ops ok_X7_sharedCount_0_3 (L' := [some (.inr 49), none]) (st' := [.inl (-1), .inl (σ 49 6)]) (σ1 := σ) rfl ?_
    refine go_icmp_ne dc_X7_sharedCount_5 (by rfl) (fun hc => ?_) (fun hc => ?_)
    · replace h := (if_neg hc).symm.trans h
      exact hB_X7_sharedCount_69 σ h
    · replace h := (if_pos hc).symm.trans h
      obtain ⟨s1, e2, h⟩ := bnd_inv h
      obtain ⟨v3, e4, h⟩ := bnd_inv h
      refine go_ops ok_X7_sharedCount_8_8 (L' := [some (.inr 49), some (.inl v3)]) (st' := []) (σ1 := s1) (by subst e4; subst e2; rfl) ?_
      obtain ⟨y11, e12, h⟩ := bind_inv h
      refine hL_X7_sharedCount_20  3000 (v3, s1) y11 e12 ?_
      show Go l m_X7_sharedCount (d + 1) LAYC (.inl (some (.inl q.1))) q.2 69 [some (.inr 49), none] [] y11
      exact hB_X7_sharedCount_69 y11 h
  have hf := go_ct (as := [.inr 49]) mk_X7_sharedCount (by rfl) (Nat.le_of_ble_eq_true rfl) key
  exact hf
theorem dc_X8_digit_1 : decode m_X8_digit.2.2.1 1 = .ok (.ifCond .eq 10, 3) := by decide +kernel
theorem dc_X8_digit_8 : decode m_X8_digit.2.2.1 8 = .ok (.goto 4, 3) := by decide +kernel
theorem dc_X8_digit_12 : decode m_X8_digit.2.2.1 12 = .ok (.ireturn, 1) := by decide +kernel
theorem ok_X8_digit_0_1 : oks m_X8_digit.1 m_X8_digit.2.2.1 0 [(.iload_n 0, 1, (0, 0, 0))] = true ∧ plen 0 [(.iload_n 0, 1, (0, 0, 0))] = 1 := by decide +kernel
theorem ok_X8_digit_4_3 : oks m_X8_digit.1 m_X8_digit.2.2.1 4 [(.bipush 40, 2, (0, 0, 0)), (.iload_n 1, 1, (0, 0, 0)), (.iadd, 1, (0, 0, 0))] = true ∧ plen 4 [(.bipush 40, 2, (0, 0, 0)), (.iload_n 1, 1, (0, 0, 0)), (.iadd, 1, (0, 0, 0))] = 8 := by decide +kernel
theorem ok_X8_digit_11_1 : oks m_X8_digit.1 m_X8_digit.2.2.1 11 [(.iconst (-1), 1, (0, 0, 0))] = true ∧ plen 11 [(.iconst (-1), 1, (0, 0, 0))] = 12 := by decide +kernel
def F_X8_digit (a0 : Bool) (a1 : Int) : Int :=
if a0 = true then
wrap (40 + a1)
else
(-1)
theorem lk_X8_digit (l : Launch) (d : Nat) (hd : 0 ≤ d) (a0 : Bool) (a1 : Int) (σ : Sg) (q : Int) (h : F_X8_digit a0 a1 = q) : CT l d m_X8_digit.2.1 m_X8_digit.2.2.1 m_X8_digit.2.2.2.1 m_X8_digit.2.2.2.2 [.inl (b2i a0), .inl a1] (LAYC, σ) (some (.inl q)) (LAYC, σ) := by
  skip
  have key : Go l m_X8_digit d LAYC (.inl (some (.inl q))) σ 0 [some (.inl (b2i a0)), some (.inl a1)] [] σ := by
    unfold F_X8_digit at h
    refine go_ops ok_X8_digit_0_1 (L' := [some (.inl (b2i a0)), some (.inl a1)]) (st' := [.inl (b2i a0)]) (σ1 := σ) rfl ?_
    refine go_ifb_eq dc_X8_digit_1 (by rfl) (fun hc => ?_) (fun hc => ?_)
    · replace h := (if_neg hc).symm.trans h
      refine go_ops ok_X8_digit_11_1 (L' := [some (.inl (b2i a0)), some (.inl a1)]) (st' := [.inl (-1)]) (σ1 := σ) rfl ?_
      subst h
      exact go_iret dc_X8_digit_12 rfl
    · replace h := (if_pos hc).symm.trans h
      refine go_ops ok_X8_digit_4_3 (L' := [some (.inl (b2i a0)), some (.inl a1)]) (st' := [.inl (wrap (40 + a1))]) (σ1 := σ) rfl ?_
      refine go_goto dc_X8_digit_8 (by rfl) ?_
      subst h
      exact go_iret dc_X8_digit_12 rfl
  have hf := go_ct (as := [.inl (b2i a0), .inl a1]) mk_X8_digit (by rfl) (Nat.le_of_ble_eq_true rfl) key
  exact hf
theorem dc_X8_hasRoom_6 : decode m_X8_hasRoom.2.2.1 6 = .ok (.if_icmp .ge 7, 3) := by decide +kernel
theorem dc_X8_hasRoom_10 : decode m_X8_hasRoom.2.2.1 10 = .ok (.goto 4, 3) := by decide +kernel
theorem dc_X8_hasRoom_14 : decode m_X8_hasRoom.2.2.1 14 = .ok (.ireturn, 1) := by decide +kernel
theorem ok_X8_hasRoom_0_3 : oks m_X8_hasRoom.1 m_X8_hasRoom.2.2.1 0 [(.aload_n 0, 1, (0, 0, 0)), (.getfield 9, 3, (8, 0, 0)), (.bipush 40, 2, (0, 0, 0))] = true ∧ plen 0 [(.aload_n 0, 1, (0, 0, 0)), (.getfield 9, 3, (8, 0, 0)), (.bipush 40, 2, (0, 0, 0))] = 6 := by decide +kernel
theorem ok_X8_hasRoom_9_1 : oks m_X8_hasRoom.1 m_X8_hasRoom.2.2.1 9 [(.iconst 1, 1, (0, 0, 0))] = true ∧ plen 9 [(.iconst 1, 1, (0, 0, 0))] = 10 := by decide +kernel
theorem ok_X8_hasRoom_13_1 : oks m_X8_hasRoom.1 m_X8_hasRoom.2.2.1 13 [(.iconst 0, 1, (0, 0, 0))] = true ∧ plen 13 [(.iconst 0, 1, (0, 0, 0))] = 14 := by decide +kernel
def F_X8_hasRoom (σ : Sg) : Bool :=
if 40 ≤ (σ 5 0) then
false
else
true
theorem lk_X8_hasRoom (l : Launch) (d : Nat) (hd : 0 ≤ d) (σ : Sg) (q : Bool) (h : F_X8_hasRoom σ = q) : CT l d m_X8_hasRoom.2.1 m_X8_hasRoom.2.2.1 m_X8_hasRoom.2.2.2.1 m_X8_hasRoom.2.2.2.2 [.inr 5] (LAYC, σ) (some (.inl (b2i q))) (LAYC, σ) := by
  skip
  have key : Go l m_X8_hasRoom d LAYC (.inl (some (.inl (b2i q)))) σ 0 [some (.inr 5)] [] σ := by
    unfold F_X8_hasRoom at h
    refine go_ops ok_X8_hasRoom_0_3 (L' := [some (.inr 5)]) (st' := [.inl 40, .inl (σ 5 0)]) (σ1 := σ) rfl ?_
    refine go_icmp_ge dc_X8_hasRoom_6 (by rfl) (fun hc => ?_) (fun hc => ?_)
    · replace h := (if_pos hc).symm.trans h
      refine go_ops ok_X8_hasRoom_13_1 (L' := [some (.inr 5)]) (st' := [.inl 0]) (σ1 := σ) rfl ?_
      subst h
      exact go_zret (x := false) dc_X8_hasRoom_14 rfl
    · replace h := (if_neg hc).symm.trans h
      refine go_ops ok_X8_hasRoom_9_1 (L' := [some (.inr 5)]) (st' := [.inl 1]) (σ1 := σ) rfl ?_
      refine go_goto dc_X8_hasRoom_10 (by rfl) ?_
      subst h
      exact go_zret (x := true) dc_X8_hasRoom_14 rfl
  have hf := go_ct (as := [.inr 5]) mk_X8_hasRoom (by rfl) (Nat.le_of_ble_eq_true rfl) key
  exact hf
theorem dc_X8_isThere_8 : decode m_X8_isThere.2.2.1 8 = .ok (.invokestatic 38, 3) := by decide +kernel
theorem dc_X8_isThere_11 : decode m_X8_isThere.2.2.1 11 = .ok (.ireturn, 1) := by decide +kernel
theorem ok_X8_isThere_0_6 : oks m_X8_isThere.1 m_X8_isThere.2.2.1 0 [(.iload_n 1, 1, (0, 0, 0)), (.iconst 0, 1, (0, 0, 0)), (.aload_n 0, 1, (0, 0, 0)), (.getfield 9, 3, (8, 0, 0)), (.iconst 1, 1, (0, 0, 0)), (.isub, 1, (0, 0, 0))] = true ∧ plen 0 [(.iload_n 1, 1, (0, 0, 0)), (.iconst 0, 1, (0, 0, 0)), (.aload_n 0, 1, (0, 0, 0)), (.getfield 9, 3, (8, 0, 0)), (.iconst 1, 1, (0, 0, 0)), (.isub, 1, (0, 0, 0))] = 8 := by decide +kernel
def F_X8_isThere (a1 : Int) (σ : Sg) : Bool :=
F_X10_isIn a1 0 (wrap ((σ 5 0) - 1))
theorem lk_X8_isThere (l : Launch) (d : Nat) (hd : 1 ≤ d) (a1 : Int) (σ : Sg) (q : Bool) (h : F_X8_isThere a1 σ = q) : CT l d m_X8_isThere.2.1 m_X8_isThere.2.2.1 m_X8_isThere.2.2.2.1 m_X8_isThere.2.2.2.2 [.inr 5, .inl a1] (LAYC, σ) (some (.inl (b2i q))) (LAYC, σ) := by
  obtain ⟨d, rfl⟩ : ∃ e, d = e + 1 := ⟨d - 1, by omega⟩
  have key : Go l m_X8_isThere (d + 1) LAYC (.inl (some (.inl (b2i q)))) σ 0 [some (.inr 5), some (.inl a1)] [] σ := by
    unfold F_X8_isThere at h
    refine go_ops ok_X8_isThere_0_6 (L' := [some (.inr 5), some (.inl a1)]) (st' := [.inl (wrap ((σ 5 0) - 1)), .inl 0, .inl a1]) (σ1 := σ) rfl ?_
    refine go_SN (M1 := m_X10_isIn) (as := [.inl a1, .inl 0, .inl (wrap ((σ 5 0) - 1))]) (st := []) dc_X8_isThere_8 ln_8_38 sm_X10_isIn mk_X10_isIn rfl (Nat.le_of_ble_eq_true rfl) (Nat.le_refl _) (v := (some (.inl (b2i (F_X10_isIn a1 0 (wrap ((σ 5 0) - 1))))))) (σ1 := σ) (lk_X10_isIn l d (by omega) a1 0 (wrap ((σ 5 0) - 1)) σ _ rfl) _ rfl ?_
    subst h
    exact go_zret (x := (F_X10_isIn a1 0 (wrap ((σ 5 0) - 1)))) dc_X8_isThere_11 rfl
  have hf := go_ct (as := [.inr 5, .inl a1]) mk_X8_isThere (by rfl) (Nat.le_of_ble_eq_true rfl) key
  exact hf
theorem dc_X8_kindOf_5 : decode m_X8_kindOf.2.2.1 5 = .ok (.invokestatic 42, 3) := by decide +kernel
theorem dc_X8_kindOf_8 : decode m_X8_kindOf.2.2.1 8 = .ok (.ireturn, 1) := by decide +kernel
theorem ok_X8_kindOf_0_3 : oks m_X8_kindOf.1 m_X8_kindOf.2.2.1 0 [(.aload_n 0, 1, (0, 0, 0)), (.getfield 15, 3, (8, 1, 0)), (.iload_n 1, 1, (0, 0, 0))] = true ∧ plen 0 [(.aload_n 0, 1, (0, 0, 0)), (.getfield 15, 3, (8, 1, 0)), (.iload_n 1, 1, (0, 0, 0))] = 5 := by decide +kernel
def F_X8_kindOf (a1 : Int) (σ : Sg) : Int :=
rdD (-1) σ 6 50 a1
theorem lk_X8_kindOf (l : Launch) (d : Nat) (hd : 1 ≤ d) (a1 : Int) (σ : Sg) (q : Int) (h : F_X8_kindOf a1 σ = q) : CT l d m_X8_kindOf.2.1 m_X8_kindOf.2.2.1 m_X8_kindOf.2.2.2.1 m_X8_kindOf.2.2.2.2 [.inr 5, .inl a1] (LAYC, σ) (some (.inl q)) (LAYC, σ) := by
  obtain ⟨d, rfl⟩ : ∃ e, d = e + 1 := ⟨d - 1, by omega⟩
  have key : Go l m_X8_kindOf (d + 1) LAYC (.inl (some (.inl q))) σ 0 [some (.inr 5), some (.inl a1)] [] σ := by
    unfold F_X8_kindOf at h
    refine go_ops ok_X8_kindOf_0_3 (L' := [some (.inr 5), some (.inl a1)]) (st' := [.inl a1, .inr 6]) (σ1 := σ) rfl ?_
    refine go_SN (M1 := m_X10_at) (as := [.inr 6, .inl a1]) (st := []) dc_X8_kindOf_5 ln_8_42 sm_X10_at mk_X10_at rfl (Nat.le_of_ble_eq_true rfl) (Nat.le_refl _) (v := some (.inl (rdD (-1) σ 6 50 a1))) (σ1 := σ) (lk_X10_at l d LAYC 6 50 rfl σ _) _ rfl ?_
    subst h
    exact go_iret dc_X8_kindOf_8 rfl
  have hf := go_ct (as := [.inr 5, .inl a1]) mk_X8_kindOf (by rfl) (Nat.le_of_ble_eq_true rfl) key
  exact hf
theorem dc_X8_measureNow_2 : decode m_X8_measureNow.2.2.1 2 = .ok (.invokevirtual 54, 3) := by decide +kernel
theorem dc_X8_measureNow_8 : decode m_X8_measureNow.2.2.1 8 = .ok (.if_icmp .ne 9, 3) := by decide +kernel
theorem dc_X8_measureNow_13 : decode m_X8_measureNow.2.2.1 13 = .ok (.invokevirtual 57, 3) := by decide +kernel
theorem dc_X8_measureNow_16 : decode m_X8_measureNow.2.2.1 16 = .ok (.ireturn, 1) := by decide +kernel
theorem dc_X8_measureNow_19 : decode m_X8_measureNow.2.2.1 19 = .ok (.invokevirtual 57, 3) := by decide +kernel
theorem dc_X8_measureNow_24 : decode m_X8_measureNow.2.2.1 24 = .ok (.if_icmp .ne 7, 3) := by decide +kernel
theorem dc_X8_measureNow_28 : decode m_X8_measureNow.2.2.1 28 = .ok (.goto 4, 3) := by decide +kernel
theorem dc_X8_measureNow_40 : decode m_X8_measureNow.2.2.1 40 = .ok (.if_icmp .ge 47, 3) := by decide +kernel
theorem dc_X8_measureNow_47 : decode m_X8_measureNow.2.2.1 47 = .ok (.invokevirtual 60, 3) := by decide +kernel
theorem dc_X8_measureNow_55 : decode m_X8_measureNow.2.2.1 55 = .ok (.if_icmp .eq 26, 3) := by decide +kernel
theorem dc_X8_measureNow_62 : decode m_X8_measureNow.2.2.1 62 = .ok (.invokevirtual 64, 3) := by decide +kernel
theorem dc_X8_measureNow_67 : decode m_X8_measureNow.2.2.1 67 = .ok (.if_icmp .ne 7, 3) := by decide +kernel
theorem dc_X8_measureNow_71 : decode m_X8_measureNow.2.2.1 71 = .ok (.goto 7, 3) := by decide +kernel
theorem dc_X8_measureNow_84 : decode m_X8_measureNow.2.2.1 84 = .ok (.goto (-47), 3) := by decide +kernel
theorem dc_X8_measureNow_90 : decode m_X8_measureNow.2.2.1 90 = .ok (.irem, 1) := by decide +kernel
theorem dc_X8_measureNow_91 : decode m_X8_measureNow.2.2.1 91 = .ok (.ireturn, 1) := by decide +kernel
theorem ok_X8_measureNow_0_2 : oks m_X8_measureNow.1 m_X8_measureNow.2.2.1 0 [(.aload_n 0, 1, (0, 0, 0)), (.iload_n 1, 1, (0, 0, 0))] = true ∧ plen 0 [(.aload_n 0, 1, (0, 0, 0)), (.iload_n 1, 1, (0, 0, 0))] = 2 := by decide +kernel
theorem ok_X8_measureNow_5_3 : oks m_X8_measureNow.1 m_X8_measureNow.2.2.1 5 [(.istore_n 2, 1, (0, 0, 0)), (.iload_n 2, 1, (0, 0, 0)), (.iconst 4, 1, (0, 0, 0))] = true ∧ plen 5 [(.istore_n 2, 1, (0, 0, 0)), (.iload_n 2, 1, (0, 0, 0)), (.iconst 4, 1, (0, 0, 0))] = 8 := by decide +kernel
theorem ok_X8_measureNow_11_2 : oks m_X8_measureNow.1 m_X8_measureNow.2.2.1 11 [(.aload_n 0, 1, (0, 0, 0)), (.iload_n 1, 1, (0, 0, 0))] = true ∧ plen 11 [(.aload_n 0, 1, (0, 0, 0)), (.iload_n 1, 1, (0, 0, 0))] = 13 := by decide +kernel
theorem ok_X8_measureNow_17_2 : oks m_X8_measureNow.1 m_X8_measureNow.2.2.1 17 [(.aload_n 0, 1, (0, 0, 0)), (.iload_n 1, 1, (0, 0, 0))] = true ∧ plen 17 [(.aload_n 0, 1, (0, 0, 0)), (.iload_n 1, 1, (0, 0, 0))] = 19 := by decide +kernel
theorem ok_X8_measureNow_22_2 : oks m_X8_measureNow.1 m_X8_measureNow.2.2.1 22 [(.iload_n 2, 1, (0, 0, 0)), (.iconst 5, 1, (0, 0, 0))] = true ∧ plen 22 [(.iload_n 2, 1, (0, 0, 0)), (.iconst 5, 1, (0, 0, 0))] = 24 := by decide +kernel
theorem ok_X8_measureNow_27_1 : oks m_X8_measureNow.1 m_X8_measureNow.2.2.1 27 [(.iconst 3, 1, (0, 0, 0))] = true ∧ plen 27 [(.iconst 3, 1, (0, 0, 0))] = 28 := by decide +kernel
theorem ok_X8_measureNow_31_1 : oks m_X8_measureNow.1 m_X8_measureNow.2.2.1 31 [(.iconst 5, 1, (0, 0, 0))] = true ∧ plen 31 [(.iconst 5, 1, (0, 0, 0))] = 32 := by decide +kernel
theorem ok_X8_measureNow_32_4 : oks m_X8_measureNow.1 m_X8_measureNow.2.2.1 32 [(.imul, 1, (0, 0, 0)), (.istore_n 3, 1, (0, 0, 0)), (.iconst 0, 1, (0, 0, 0)), (.istore 4, 2, (0, 0, 0))] = true ∧ plen 32 [(.imul, 1, (0, 0, 0)), (.istore_n 3, 1, (0, 0, 0)), (.iconst 0, 1, (0, 0, 0)), (.istore 4, 2, (0, 0, 0))] = 37 := by decide +kernel
theorem ok_X8_measureNow_37_2 : oks m_X8_measureNow.1 m_X8_measureNow.2.2.1 37 [(.iload 4, 2, (0, 0, 0)), (.iconst 3, 1, (0, 0, 0))] = true ∧ plen 37 [(.iload 4, 2, (0, 0, 0)), (.iconst 3, 1, (0, 0, 0))] = 40 := by decide +kernel
theorem ok_X8_measureNow_43_3 : oks m_X8_measureNow.1 m_X8_measureNow.2.2.1 43 [(.aload_n 0, 1, (0, 0, 0)), (.iload_n 1, 1, (0, 0, 0)), (.iload 4, 2, (0, 0, 0))] = true ∧ plen 43 [(.aload_n 0, 1, (0, 0, 0)), (.iload_n 1, 1, (0, 0, 0)), (.iload 4, 2, (0, 0, 0))] = 47 := by decide +kernel
theorem ok_X8_measureNow_50_3 : oks m_X8_measureNow.1 m_X8_measureNow.2.2.1 50 [(.istore 5, 2, (0, 0, 0)), (.iload 5, 2, (0, 0, 0)), (.iconst (-1), 1, (0, 0, 0))] = true ∧ plen 50 [(.istore 5, 2, (0, 0, 0)), (.iload 5, 2, (0, 0, 0)), (.iconst (-1), 1, (0, 0, 0))] = 55 := by decide +kernel
theorem ok_X8_measureNow_58_3 : oks m_X8_measureNow.1 m_X8_measureNow.2.2.1 58 [(.iload_n 3, 1, (0, 0, 0)), (.aload_n 0, 1, (0, 0, 0)), (.iload 5, 2, (0, 0, 0))] = true ∧ plen 58 [(.iload_n 3, 1, (0, 0, 0)), (.aload_n 0, 1, (0, 0, 0)), (.iload 5, 2, (0, 0, 0))] = 62 := by decide +kernel
theorem ok_X8_measureNow_65_2 : oks m_X8_measureNow.1 m_X8_measureNow.2.2.1 65 [(.iload_n 2, 1, (0, 0, 0)), (.iconst 5, 1, (0, 0, 0))] = true ∧ plen 65 [(.iload_n 2, 1, (0, 0, 0)), (.iconst 5, 1, (0, 0, 0))] = 67 := by decide +kernel
theorem ok_X8_measureNow_70_1 : oks m_X8_measureNow.1 m_X8_measureNow.2.2.1 70 [(.iconst 1, 1, (0, 0, 0))] = true ∧ plen 70 [(.iconst 1, 1, (0, 0, 0))] = 71 := by decide +kernel
theorem ok_X8_measureNow_74_3 : oks m_X8_measureNow.1 m_X8_measureNow.2.2.1 74 [(.iload 4, 2, (0, 0, 0)), (.iconst 1, 1, (0, 0, 0)), (.iadd, 1, (0, 0, 0))] = true ∧ plen 74 [(.iload 4, 2, (0, 0, 0)), (.iconst 1, 1, (0, 0, 0)), (.iadd, 1, (0, 0, 0))] = 78 := by decide +kernel
theorem ok_X8_measureNow_78_3 : oks m_X8_measureNow.1 m_X8_measureNow.2.2.1 78 [(.imul, 1, (0, 0, 0)), (.iadd, 1, (0, 0, 0)), (.istore_n 3, 1, (0, 0, 0))] = true ∧ plen 78 [(.imul, 1, (0, 0, 0)), (.iadd, 1, (0, 0, 0)), (.istore_n 3, 1, (0, 0, 0))] = 81 := by decide +kernel
theorem ok_X8_measureNow_81_1 : oks m_X8_measureNow.1 m_X8_measureNow.2.2.1 81 [(.iinc 4 1, 3, (0, 0, 0))] = true ∧ plen 81 [(.iinc 4 1, 3, (0, 0, 0))] = 84 := by decide +kernel
theorem ok_X8_measureNow_87_2 : oks m_X8_measureNow.1 m_X8_measureNow.2.2.1 87 [(.iload_n 3, 1, (0, 0, 0)), (.bipush 97, 2, (0, 0, 0))] = true ∧ plen 87 [(.iload_n 3, 1, (0, 0, 0)), (.bipush 97, 2, (0, 0, 0))] = 90 := by decide +kernel
def B_X8_measureNow_81 (x3 : Int) (x4 : Int) (σ : Sg) : Option ((Int × Int) ⊕ Int) :=
some (.inl (x3, wrap (x4 + 1)))
def B_X8_measureNow_78 (x4 : Int) (y0 : Int) (y1 : Int) (y2 : Int) (σ : Sg) : Option ((Int × Int) ⊕ Int) :=
bnd (wrap (y2 + (wrap (y1 * y0)))) fun v7 =>
B_X8_measureNow_81 v7 x4 σ
def L_X8_measureNow_37 (x1 : Int) (x2 : Int) (σ : Sg) (x3 : Int) (x4 : Int) : Option ((Int × Int) ⊕ Int) :=
if 3 ≤ x4 then
some (.inr x3)
else
bnd (F_X8_partOf x1 x4 σ) fun v5 =>
if v5 = (-1) then
B_X8_measureNow_81 x3 x4 σ
else
if x2 = 5 then
B_X8_measureNow_78 x4 1 (F_X8_measureOf v5 σ) x3 σ
else
B_X8_measureNow_78 x4 (wrap (x4 + 1)) (F_X8_measureOf v5 σ) x3 σ
def B_X8_measureNow_32 (x1 : Int) (x2 : Int) (y0 : Int) (y1 : Int) (σ : Sg) : Option Int :=
bnd (wrap (y1 * y0)) fun v3 =>
(iter (fun a : (Int × Int) => L_X8_measureNow_37 x1 x2 σ a.1 a.2) 4 (v3, 0)).bind fun y9 =>
some (jrem y9 97)
def F_X8_measureNow (a1 : Int) (σ : Sg) : Option Int :=
bnd (F_X8_kindOf a1 σ) fun v1 =>
if v1 = 4 then
some (F_X8_headOf a1 σ)
else
if v1 = 5 then
B_X8_measureNow_32 a1 v1 3 (F_X8_headOf a1 σ) σ
else
B_X8_measureNow_32 a1 v1 5 (F_X8_headOf a1 σ) σ
theorem lk_X8_measureNow (l : Launch) (d : Nat) (hd : 2 ≤ d) (a1 : Int) (σ : Sg) (q : Int) (h : F_X8_measureNow a1 σ = some q) : CT l d m_X8_measureNow.2.1 m_X8_measureNow.2.2.1 m_X8_measureNow.2.2.2.1 m_X8_measureNow.2.2.2.2 [.inr 5, .inl a1] (LAYC, σ) (some (.inl q)) (LAYC, σ) := by
  obtain ⟨d, rfl⟩ : ∃ e, d = e + 1 := ⟨d - 1, by omega⟩
  have key : Go l m_X8_measureNow (d + 1) LAYC (.inl (some (.inl q))) σ 0 [some (.inr 5), some (.inl a1), none, none, none, none] [] σ := by
    unfold F_X8_measureNow at h
    have hL_X8_measureNow_37 : ∀ (x1 : Int) (x2 : Int) (σ : Sg) (n : Nat) (a : (Int × Int)) (y : Int), iter (fun a : (Int × Int) => L_X8_measureNow_37 x1 x2 σ a.1 a.2) n a = some y → (fun y : Int => Go l m_X8_measureNow (d + 1) LAYC (.inl (some (.inl q))) σ 87 [none, none, none, some (.inl y), none, none] [] σ) y → (fun a : (Int × Int) => Go l m_X8_measureNow (d + 1) LAYC (.inl (some (.inl q))) σ 37 [some (.inr 5), some (.inl x1), some (.inl x2), some (.inl a.1), some (.inl a.2), none] [] σ) a := by
      intro x1 x2 σ
      refine go_iter (G := fun a : (Int × Int) => Go l m_X8_measureNow (d + 1) LAYC (.inl (some (.inl q))) σ 37 [some (.inr 5), some (.inl x1), some (.inl x2), some (.inl a.1), some (.inl a.2), none] [] σ) (K := fun y : Int => Go l m_X8_measureNow (d + 1) LAYC (.inl (some (.inl q))) σ 87 [none, none, none, some (.inl y), none, none] [] σ) ?_
      rintro ⟨x3, x4⟩ w h hK
      replace h : L_X8_measureNow_37 x1 x2 σ x3 x4 = some w := h
      show Go l m_X8_measureNow (d + 1) LAYC (.inl (some (.inl q))) σ 37 [some (.inr 5), some (.inl x1), some (.inl x2), some (.inl x3), some (.inl x4), none] [] σ
      unfold L_X8_measureNow_37 at h
      have hB_X8_measureNow_81 : ∀ (x3 : Int) (x4 : Int), B_X8_measureNow_81 x3 x4 σ = some w → Go l m_X8_measureNow (d + 1) LAYC (.inl (some (.inl q))) σ 81 [some (.inr 5), some (.inl x1), some (.inl x2), some (.inl x3), some (.inl x4), none] [] σ := by
        intro x3 x4 h
        unfold B_X8_measureNow_81 at h
        refine go_ops ok_X8_measureNow_81_1 (L' := [some (.inr 5), some (.inl x1), some (.inl x2), some (.inl x3), some (.inl (wrap (x4 + 1))), none]) (st' := []) (σ1 := σ) rfl ?_
        refine go_goto dc_X8_measureNow_84 (by rfl) ?_
        cases h
        exact hK
      have hB_X8_measureNow_78 : ∀ (x4 : Int) (y0 : Int) (y1 : Int) (y2 : Int), B_X8_measureNow_78 x4 y0 y1 y2 σ = some w → Go l m_X8_measureNow (d + 1) LAYC (.inl (some (.inl q))) σ 78 [some (.inr 5), some (.inl x1), some (.inl x2), none, some (.inl x4), none] [.inl y0, .inl y1, .inl y2] σ := by
        intro x4 y0 y1 y2 h
        unfold B_X8_measureNow_78 at h
        obtain ⟨v7, e8, h⟩ := bnd_inv h
        refine go_ops ok_X8_measureNow_78_3 (L' := [some (.inr 5), some (.inl x1), some (.inl x2), some (.inl v7), some (.inl x4), none]) (st' := []) (σ1 := σ) (by subst e8; rfl) ?_
        exact hB_X8_measureNow_81 v7 x4 h
      refine go_ops ok_X8_measureNow_37_2 (L' := [some (.inr 5), some (.inl x1), some (.inl x2), some (.inl x3), some (.inl x4), none]) (st' := [.inl 3, .inl x4]) (σ1 := σ) rfl ?_
      refine go_icmp_ge dc_X8_measureNow_40 (by rfl) (fun hc => ?_) (fun hc => ?_)
      · replace h := (if_pos hc).symm.trans h
        cases h
        refine go_wk (L' := [none, none, none, some (.inl x3), none, none]) ⟨rfl, trivial⟩ ?_
        exact hK
      · replace h := (if_neg hc).symm.trans h
        refine go_ops ok_X8_measureNow_43_3 (L' := [some (.inr 5), some (.inl x1), some (.inl x2), some (.inl x3), some (.inl x4), none]) (st' := [.inl x4, .inl x1, .inr 5]) (σ1 := σ) rfl ?_
        refine go_V (M1 := m_X8_partOf) (as := [.inl x1, .inl x4]) (st := []) (k := 5) (ci := 8) dc_X8_measureNow_47 ln_8_60 im_X8_partOf (by decide) rfl rfl mk_X8_partOf rfl (Nat.le_of_ble_eq_true rfl) (Nat.le_refl _) (v := (some (.inl (F_X8_partOf x1 x4 σ)))) (σ1 := σ) (lk_X8_partOf l d (by omega) x1 x4 σ _ rfl) _ rfl ?_
        obtain ⟨v5, e6, h⟩ := bnd_inv h
        refine go_ops ok_X8_measureNow_50_3 (L' := [some (.inr 5), some (.inl x1), some (.inl x2), some (.inl x3), some (.inl x4), some (.inl v5)]) (st' := [.inl (-1), .inl v5]) (σ1 := σ) (by subst e6; rfl) ?_
        refine go_icmp_eq dc_X8_measureNow_55 (by rfl) (fun hc => ?_) (fun hc => ?_)
        · replace h := (if_pos hc).symm.trans h
          refine go_wk (L' := [some (.inr 5), some (.inl x1), some (.inl x2), some (.inl x3), some (.inl x4), none]) ⟨rfl, rfl, rfl, rfl, rfl, trivial⟩ ?_
          exact hB_X8_measureNow_81 x3 x4 h
        · replace h := (if_neg hc).symm.trans h
          refine go_ops ok_X8_measureNow_58_3 (L' := [some (.inr 5), some (.inl x1), some (.inl x2), some (.inl x3), some (.inl x4), some (.inl v5)]) (st' := [.inl v5, .inr 5, .inl x3]) (σ1 := σ) rfl ?_
          refine go_V (M1 := m_X8_measureOf) (as := [.inl v5]) (st := [.inl x3]) (k := 5) (ci := 8) dc_X8_measureNow_62 ln_8_64 im_X8_measureOf (by decide) rfl rfl mk_X8_measureOf rfl (Nat.le_of_ble_eq_true rfl) (Nat.le_refl _) (v := (some (.inl (F_X8_measureOf v5 σ)))) (σ1 := σ) (lk_X8_measureOf l d (by omega) v5 σ _ rfl) _ rfl ?_
          refine go_ops ok_X8_measureNow_65_2 (L' := [some (.inr 5), some (.inl x1), some (.inl x2), some (.inl x3), some (.inl x4), some (.inl v5)]) (st' := [.inl 5, .inl x2, .inl (F_X8_measureOf v5 σ), .inl x3]) (σ1 := σ) rfl ?_
          refine go_icmp_ne dc_X8_measureNow_67 (by rfl) (fun hc => ?_) (fun hc => ?_)
          · replace h := (if_neg hc).symm.trans h
            refine go_ops ok_X8_measureNow_74_3 (L' := [some (.inr 5), some (.inl x1), some (.inl x2), some (.inl x3), some (.inl x4), some (.inl v5)]) (st' := [.inl (wrap (x4 + 1)), .inl (F_X8_measureOf v5 σ), .inl x3]) (σ1 := σ) rfl ?_
            refine go_wk (L' := [some (.inr 5), some (.inl x1), some (.inl x2), none, some (.inl x4), none]) ⟨rfl, rfl, rfl, rfl, trivial⟩ ?_
            exact hB_X8_measureNow_78 x4 (wrap (x4 + 1)) (F_X8_measureOf v5 σ) x3 h
          · replace h := (if_pos hc).symm.trans h
            refine go_ops ok_X8_measureNow_70_1 (L' := [some (.inr 5), some (.inl x1), some (.inl x2), some (.inl x3), some (.inl x4), some (.inl v5)]) (st' := [.inl 1, .inl (F_X8_measureOf v5 σ), .inl x3]) (σ1 := σ) rfl ?_
            refine go_goto dc_X8_measureNow_71 (by rfl) ?_
            refine go_wk (L' := [some (.inr 5), some (.inl x1), some (.inl x2), none, some (.inl x4), none]) ⟨rfl, rfl, rfl, rfl, trivial⟩ ?_
            exact hB_X8_measureNow_78 x4 1 (F_X8_measureOf v5 σ) x3 h
    have hB_X8_measureNow_32 : ∀ (x1 : Int) (x2 : Int) (y0 : Int) (y1 : Int) (σ : Sg), B_X8_measureNow_32 x1 x2 y0 y1 σ = some q → Go l m_X8_measureNow (d + 1) LAYC (.inl (some (.inl q))) σ 32 [some (.inr 5), some (.inl x1), some (.inl x2), none, none, none] [.inl y0, .inl y1] σ := by
      intro x1 x2 y0 y1 σ h
      unfold B_X8_measureNow_32 at h
      obtain ⟨v3, e4, h⟩ := bnd_inv h
      refine go_ops ok_X8_measureNow_32_4 (L' := [some (.inr 5), some (.inl x1), some (.inl x2), some (.inl v3), some (.inl 0), none]) (st' := []) (σ1 := σ) (by subst e4; rfl) ?_
      obtain ⟨y9, e10, h⟩ := bind_inv h
      refine hL_X8_measureNow_37 x1 x2 σ 4 (v3, 0) y9 e10 ?_
      show Go l m_X8_measureNow (d + 1) LAYC (.inl (some (.inl q))) σ 87 [none, none, none, some (.inl y9), none, none] [] σ
      refine go_ops ok_X8_measureNow_87_2 (L' := [none, none, none, some (.inl y9), none, none]) (st' := [.inl 97, .inl y9]) (σ1 := σ) rfl ?_
      refine go_rem dc_X8_measureNow_90 (by decide) ?_
      have h9 := Option.some.inj h
      subst h9
      exact go_iret dc_X8_measureNow_91 rfl
    refine go_ops ok_X8_measureNow_0_2 (L' := [some (.inr 5), some (.inl a1), none, none, none, none]) (st' := [.inl a1, .inr 5]) (σ1 := σ) rfl ?_
    refine go_V (M1 := m_X8_kindOf) (as := [.inl a1]) (st := []) (k := 5) (ci := 8) dc_X8_measureNow_2 ln_8_54 im_X8_kindOf (by decide) rfl rfl mk_X8_kindOf rfl (Nat.le_of_ble_eq_true rfl) (Nat.le_refl _) (v := (some (.inl (F_X8_kindOf a1 σ)))) (σ1 := σ) (lk_X8_kindOf l d (by omega) a1 σ _ rfl) _ rfl ?_
    obtain ⟨v1, e2, h⟩ := bnd_inv h
    refine go_ops ok_X8_measureNow_5_3 (L' := [some (.inr 5), some (.inl a1), some (.inl v1), none, none, none]) (st' := [.inl 4, .inl v1]) (σ1 := σ) (by subst e2; rfl) ?_
    refine go_icmp_ne dc_X8_measureNow_8 (by rfl) (fun hc => ?_) (fun hc => ?_)
    · replace h := (if_neg hc).symm.trans h
      refine go_ops ok_X8_measureNow_17_2 (L' := [some (.inr 5), some (.inl a1), some (.inl v1), none, none, none]) (st' := [.inl a1, .inr 5]) (σ1 := σ) rfl ?_
      refine go_V (M1 := m_X8_headOf) (as := [.inl a1]) (st := []) (k := 5) (ci := 8) dc_X8_measureNow_19 ln_8_57 im_X8_headOf (by decide) rfl rfl mk_X8_headOf rfl (Nat.le_of_ble_eq_true rfl) (Nat.le_refl _) (v := (some (.inl (F_X8_headOf a1 σ)))) (σ1 := σ) (lk_X8_headOf l d (by omega) a1 σ _ rfl) _ rfl ?_
      refine go_ops ok_X8_measureNow_22_2 (L' := [some (.inr 5), some (.inl a1), some (.inl v1), none, none, none]) (st' := [.inl 5, .inl v1, .inl (F_X8_headOf a1 σ)]) (σ1 := σ) rfl ?_
      refine go_icmp_ne dc_X8_measureNow_24 (by rfl) (fun hc => ?_) (fun hc => ?_)
      · replace h := (if_neg hc).symm.trans h
        refine go_ops ok_X8_measureNow_31_1 (L' := [some (.inr 5), some (.inl a1), some (.inl v1), none, none, none]) (st' := [.inl 5, .inl (F_X8_headOf a1 σ)]) (σ1 := σ) rfl ?_
        exact hB_X8_measureNow_32 a1 v1 5 (F_X8_headOf a1 σ) σ h
      · replace h := (if_pos hc).symm.trans h
        refine go_ops ok_X8_measureNow_27_1 (L' := [some (.inr 5), some (.inl a1), some (.inl v1), none, none, none]) (st' := [.inl 3, .inl (F_X8_headOf a1 σ)]) (σ1 := σ) rfl ?_
        refine go_goto dc_X8_measureNow_28 (by rfl) ?_
        exact hB_X8_measureNow_32 a1 v1 3 (F_X8_headOf a1 σ) σ h
    · replace h := (if_pos hc).symm.trans h
      refine go_ops ok_X8_measureNow_11_2 (L' := [some (.inr 5), some (.inl a1), some (.inl v1), none, none, none]) (st' := [.inl a1, .inr 5]) (σ1 := σ) rfl ?_
      refine go_V (M1 := m_X8_headOf) (as := [.inl a1]) (st := []) (k := 5) (ci := 8) dc_X8_measureNow_13 ln_8_57 im_X8_headOf (by decide) rfl rfl mk_X8_headOf rfl (Nat.le_of_ble_eq_true rfl) (Nat.le_refl _) (v := (some (.inl (F_X8_headOf a1 σ)))) (σ1 := σ) (lk_X8_headOf l d (by omega) a1 σ _ rfl) _ rfl ?_
      have h9 := Option.some.inj h
      subst h9
      exact go_iret dc_X8_measureNow_16 rfl
  have hf := go_ct (as := [.inr 5, .inl a1]) mk_X8_measureNow (by rfl) (Nat.le_of_ble_eq_true rfl) key
  exact hf
theorem dc_X8_keep_20 : decode m_X8_keep.2.2.1 20 = .ok (.invokestatic 34, 3) := by decide +kernel
theorem dc_X8_keep_30 : decode m_X8_keep.2.2.1 30 = .ok (.invokestatic 34, 3) := by decide +kernel
theorem dc_X8_keep_39 : decode m_X8_keep.2.2.1 39 = .ok (.if_icmp .ge 33, 3) := by decide +kernel
theorem dc_X8_keep_60 : decode m_X8_keep.2.2.1 60 = .ok (.invokestatic 46, 3) := by decide +kernel
theorem dc_X8_keep_63 : decode m_X8_keep.2.2.1 63 = .ok (.invokestatic 34, 3) := by decide +kernel
theorem dc_X8_keep_69 : decode m_X8_keep.2.2.1 69 = .ok (.goto (-33), 3) := by decide +kernel
theorem dc_X8_keep_81 : decode m_X8_keep.2.2.1 81 = .ok (.invokevirtual 50, 3) := by decide +kernel
theorem dc_X8_keep_84 : decode m_X8_keep.2.2.1 84 = .ok (.invokestatic 34, 3) := by decide +kernel
theorem dc_X8_keep_89 : decode m_X8_keep.2.2.1 89 = .ok (.ireturn, 1) := by decide +kernel
theorem ok_X8_keep_0_12 : oks m_X8_keep.1 m_X8_keep.2.2.1 0 [(.aload_n 0, 1, (0, 0, 0)), (.dup, 1, (0, 0, 0)), (.getfield 9, 3, (8, 0, 0)), (.dup_x1, 1, (0, 0, 0)), (.iconst 1, 1, (0, 0, 0)), (.iadd, 1, (0, 0, 0)), (.putfield 9, 3, (8, 0, 0)), (.istore 6, 2, (0, 0, 0)), (.aload_n 0, 1, (0, 0, 0)), (.getfield 15, 3, (8, 1, 0)), (.iload 6, 2, (0, 0, 0)), (.iload_n 1, 1, (0, 0, 0))] = true ∧ plen 0 [(.aload_n 0, 1, (0, 0, 0)), (.dup, 1, (0, 0, 0)), (.getfield 9, 3, (8, 0, 0)), (.dup_x1, 1, (0, 0, 0)), (.iconst 1, 1, (0, 0, 0)), (.iadd, 1, (0, 0, 0)), (.putfield 9, 3, (8, 0, 0)), (.istore 6, 2, (0, 0, 0)), (.aload_n 0, 1, (0, 0, 0)), (.getfield 15, 3, (8, 1, 0)), (.iload 6, 2, (0, 0, 0)), (.iload_n 1, 1, (0, 0, 0))] = 20 := by decide +kernel
theorem ok_X8_keep_23_4 : oks m_X8_keep.1 m_X8_keep.2.2.1 23 [(.aload_n 0, 1, (0, 0, 0)), (.getfield 19, 3, (8, 2, 0)), (.iload 6, 2, (0, 0, 0)), (.iload_n 2, 1, (0, 0, 0))] = true ∧ plen 23 [(.aload_n 0, 1, (0, 0, 0)), (.getfield 19, 3, (8, 2, 0)), (.iload 6, 2, (0, 0, 0)), (.iload_n 2, 1, (0, 0, 0))] = 30 := by decide +kernel
theorem ok_X8_keep_33_2 : oks m_X8_keep.1 m_X8_keep.2.2.1 33 [(.iconst 0, 1, (0, 0, 0)), (.istore 7, 2, (0, 0, 0))] = true ∧ plen 33 [(.iconst 0, 1, (0, 0, 0)), (.istore 7, 2, (0, 0, 0))] = 36 := by decide +kernel
theorem ok_X8_keep_36_2 : oks m_X8_keep.1 m_X8_keep.2.2.1 36 [(.iload 7, 2, (0, 0, 0)), (.iconst 3, 1, (0, 0, 0))] = true ∧ plen 36 [(.iload 7, 2, (0, 0, 0)), (.iconst 3, 1, (0, 0, 0))] = 39 := by decide +kernel
theorem ok_X8_keep_42_11 : oks m_X8_keep.1 m_X8_keep.2.2.1 42 [(.aload_n 0, 1, (0, 0, 0)), (.getfield 25, 3, (8, 4, 0)), (.iload 6, 2, (0, 0, 0)), (.iconst 3, 1, (0, 0, 0)), (.imul, 1, (0, 0, 0)), (.iload 7, 2, (0, 0, 0)), (.iadd, 1, (0, 0, 0)), (.iload 7, 2, (0, 0, 0)), (.iload_n 3, 1, (0, 0, 0)), (.iload 4, 2, (0, 0, 0)), (.iload 5, 2, (0, 0, 0))] = true ∧ plen 42 [(.aload_n 0, 1, (0, 0, 0)), (.getfield 25, 3, (8, 4, 0)), (.iload 6, 2, (0, 0, 0)), (.iconst 3, 1, (0, 0, 0)), (.imul, 1, (0, 0, 0)), (.iload 7, 2, (0, 0, 0)), (.iadd, 1, (0, 0, 0)), (.iload 7, 2, (0, 0, 0)), (.iload_n 3, 1, (0, 0, 0)), (.iload 4, 2, (0, 0, 0)), (.iload 5, 2, (0, 0, 0))] = 60 := by decide +kernel
theorem ok_X8_keep_66_1 : oks m_X8_keep.1 m_X8_keep.2.2.1 66 [(.iinc 7 1, 3, (0, 0, 0))] = true ∧ plen 66 [(.iinc 7 1, 3, (0, 0, 0))] = 69 := by decide +kernel
theorem ok_X8_keep_72_5 : oks m_X8_keep.1 m_X8_keep.2.2.1 72 [(.aload_n 0, 1, (0, 0, 0)), (.getfield 22, 3, (8, 3, 0)), (.iload 6, 2, (0, 0, 0)), (.aload_n 0, 1, (0, 0, 0)), (.iload 6, 2, (0, 0, 0))] = true ∧ plen 72 [(.aload_n 0, 1, (0, 0, 0)), (.getfield 22, 3, (8, 3, 0)), (.iload 6, 2, (0, 0, 0)), (.aload_n 0, 1, (0, 0, 0)), (.iload 6, 2, (0, 0, 0))] = 81 := by decide +kernel
theorem ok_X8_keep_87_1 : oks m_X8_keep.1 m_X8_keep.2.2.1 87 [(.iload 6, 2, (0, 0, 0))] = true ∧ plen 87 [(.iload 6, 2, (0, 0, 0))] = 89 := by decide +kernel
def L_X8_keep_36 (x3 : Int) (x4 : Int) (x5 : Int) (x6 : Int) (x7 : Int) (σ : Sg) : Option ((Int × Sg) ⊕ Sg) :=
if 3 ≤ x7 then
some (.inr σ)
else
bnd (wrD σ 9 150 (wrap ((wrap (x6 * 3)) + x7)) (F_X10_pick x7 x3 x4 x5)) fun s9 =>
some (.inl (wrap (x7 + 1), s9))
def F_X8_keep (a1 : Int) (a2 : Int) (a3 : Int) (a4 : Int) (a5 : Int) (σ : Sg) : Option (Int × Sg) :=
bnd (up2 σ 5 0 (wrap ((σ 5 0) + 1))) fun s1 =>
bnd (σ 5 0) fun v3 =>
bnd (wrD s1 6 50 v3 a1) fun s5 =>
bnd (wrD s5 7 50 v3 a2) fun s7 =>
(iter (fun a : (Int × Sg) => L_X8_keep_36 a3 a4 a5 v3 a.1 a.2) 4 (0, s7)).bind fun y11 =>
(F_X8_measureNow v3 y11).bind fun q13 =>
bnd (wrD y11 8 50 v3 q13) fun s15 =>
some (v3, s15)
theorem lk_X8_keep (l : Launch) (d : Nat) (hd : 3 ≤ d) (a1 : Int) (a2 : Int) (a3 : Int) (a4 : Int) (a5 : Int) (σ : Sg) (q : (Int × Sg)) (h : F_X8_keep a1 a2 a3 a4 a5 σ = some q) : CT l d m_X8_keep.2.1 m_X8_keep.2.2.1 m_X8_keep.2.2.2.1 m_X8_keep.2.2.2.2 [.inr 5, .inl a1, .inl a2, .inl a3, .inl a4, .inl a5] (LAYC, σ) (some (.inl q.1)) (LAYC, q.2) := by
  obtain ⟨d, rfl⟩ : ∃ e, d = e + 1 := ⟨d - 1, by omega⟩
  have key : Go l m_X8_keep (d + 1) LAYC (.inl (some (.inl q.1))) q.2 0 [some (.inr 5), some (.inl a1), some (.inl a2), some (.inl a3), some (.inl a4), some (.inl a5), none, none] [] σ := by
    unfold F_X8_keep at h
    have hL_X8_keep_36 : ∀ (x3 : Int) (x4 : Int) (x5 : Int) (x6 : Int) (n : Nat) (a : (Int × Sg)) (y : Sg), iter (fun a : (Int × Sg) => L_X8_keep_36 x3 x4 x5 x6 a.1 a.2) n a = some y → (fun y : Sg => Go l m_X8_keep (d + 1) LAYC (.inl (some (.inl q.1))) q.2 72 [some (.inr 5), none, none, none, none, none, some (.inl x6), none] [] y) y → (fun a : (Int × Sg) => Go l m_X8_keep (d + 1) LAYC (.inl (some (.inl q.1))) q.2 36 [some (.inr 5), none, none, some (.inl x3), some (.inl x4), some (.inl x5), some (.inl x6), some (.inl a.1)] [] a.2) a := by
      intro x3 x4 x5 x6
      refine go_iter (G := fun a : (Int × Sg) => Go l m_X8_keep (d + 1) LAYC (.inl (some (.inl q.1))) q.2 36 [some (.inr 5), none, none, some (.inl x3), some (.inl x4), some (.inl x5), some (.inl x6), some (.inl a.1)] [] a.2) (K := fun y : Sg => Go l m_X8_keep (d + 1) LAYC (.inl (some (.inl q.1))) q.2 72 [some (.inr 5), none, none, none, none, none, some (.inl x6), none] [] y) ?_
      rintro ⟨x7, σ⟩ w h hK
      replace h : L_X8_keep_36 x3 x4 x5 x6 x7 σ = some w := h
      show Go l m_X8_keep (d + 1) LAYC (.inl (some (.inl q.1))) q.2 36 [some (.inr 5), none, none, some (.inl x3), some (.inl x4), some (.inl x5), some (.inl x6), some (.inl x7)] [] σ
      unfold L_X8_keep_36 at h
      refine go_ops ok_X8_keep_36_2 (L' := [some (.inr 5), none, none, some (.inl x3), some (.inl x4), some (.inl x5), some (.inl x6), some (.inl x7)]) (st' := [.inl 3, .inl x7]) (σ1 := σ) rfl ?_
      refine go_icmp_ge dc_X8_keep_39 (by rfl) (fun hc => ?_) (fun hc => ?_)
      · replace h := (if_pos hc).symm.trans h
        cases h
        refine go_wk (L' := [some (.inr 5), none, none, none, none, none, some (.inl x6), none]) ⟨rfl, rfl, trivial⟩ ?_
        exact hK
      · replace h := (if_neg hc).symm.trans h
        refine go_ops ok_X8_keep_42_11 (L' := [some (.inr 5), none, none, some (.inl x3), some (.inl x4), some (.inl x5), some (.inl x6), some (.inl x7)]) (st' := [.inl x5, .inl x4, .inl x3, .inl x7, .inl (wrap ((wrap (x6 * 3)) + x7)), .inr 9]) (σ1 := σ) rfl ?_
        refine go_SN (M1 := m_X10_pick) (as := [.inl x7, .inl x3, .inl x4, .inl x5]) (st := [.inl (wrap ((wrap (x6 * 3)) + x7)), .inr 9]) dc_X8_keep_60 ln_8_46 sm_X10_pick mk_X10_pick rfl (Nat.le_of_ble_eq_true rfl) (Nat.le_refl _) (v := (some (.inl (F_X10_pick x7 x3 x4 x5)))) (σ1 := σ) (lk_X10_pick l d (by omega) x7 x3 x4 x5 σ _ rfl) _ rfl ?_
        obtain ⟨s9, e10, h⟩ := bnd_inv h
        refine go_SN (M1 := m_X10_put) (as := [.inr 9, .inl (wrap ((wrap (x6 * 3)) + x7)), .inl (F_X10_pick x7 x3 x4 x5)]) (st := []) dc_X8_keep_63 ln_8_34 sm_X10_put mk_X10_put rfl (Nat.le_of_ble_eq_true rfl) (Nat.le_refl _) (v := none) (σ1 := s9) (lk_X10_put l d LAYC 9 150 rfl _ _ s9 e10) _ rfl ?_
        refine go_ops ok_X8_keep_66_1 (L' := [some (.inr 5), none, none, some (.inl x3), some (.inl x4), some (.inl x5), some (.inl x6), some (.inl (wrap (x7 + 1)))]) (st' := []) (σ1 := s9) rfl ?_
        refine go_goto dc_X8_keep_69 (by rfl) ?_
        cases h
        exact hK
    obtain ⟨s1, e2, h⟩ := bnd_inv h
    obtain ⟨v3, e4, h⟩ := bnd_inv h
    refine go_ops ok_X8_keep_0_12 (L' := [some (.inr 5), some (.inl a1), some (.inl a2), some (.inl a3), some (.inl a4), some (.inl a5), some (.inl v3), none]) (st' := [.inl a1, .inl v3, .inr 6]) (σ1 := s1) (by subst e4; subst e2; rfl) ?_
    obtain ⟨s5, e6, h⟩ := bnd_inv h
    refine go_SN (M1 := m_X10_put) (as := [.inr 6, .inl v3, .inl a1]) (st := []) dc_X8_keep_20 ln_8_34 sm_X10_put mk_X10_put rfl (Nat.le_of_ble_eq_true rfl) (Nat.le_refl _) (v := none) (σ1 := s5) (lk_X10_put l d LAYC 6 50 rfl _ _ s5 e6) _ rfl ?_
    refine go_ops ok_X8_keep_23_4 (L' := [some (.inr 5), some (.inl a1), some (.inl a2), some (.inl a3), some (.inl a4), some (.inl a5), some (.inl v3), none]) (st' := [.inl a2, .inl v3, .inr 7]) (σ1 := s5) rfl ?_
    obtain ⟨s7, e8, h⟩ := bnd_inv h
    refine go_SN (M1 := m_X10_put) (as := [.inr 7, .inl v3, .inl a2]) (st := []) dc_X8_keep_30 ln_8_34 sm_X10_put mk_X10_put rfl (Nat.le_of_ble_eq_true rfl) (Nat.le_refl _) (v := none) (σ1 := s7) (lk_X10_put l d LAYC 7 50 rfl _ _ s7 e8) _ rfl ?_
    refine go_ops ok_X8_keep_33_2 (L' := [some (.inr 5), some (.inl a1), some (.inl a2), some (.inl a3), some (.inl a4), some (.inl a5), some (.inl v3), some (.inl 0)]) (st' := []) (σ1 := s7) rfl ?_
    refine go_wk (L' := [some (.inr 5), none, none, some (.inl a3), some (.inl a4), some (.inl a5), some (.inl v3), some (.inl 0)]) ⟨rfl, rfl, rfl, rfl, rfl, rfl, trivial⟩ ?_
    obtain ⟨y11, e12, h⟩ := bind_inv h
    refine hL_X8_keep_36 a3 a4 a5 v3 4 (0, s7) y11 e12 ?_
    show Go l m_X8_keep (d + 1) LAYC (.inl (some (.inl q.1))) q.2 72 [some (.inr 5), none, none, none, none, none, some (.inl v3), none] [] y11
    refine go_ops ok_X8_keep_72_5 (L' := [some (.inr 5), none, none, none, none, none, some (.inl v3), none]) (st' := [.inl v3, .inr 5, .inl v3, .inr 8]) (σ1 := y11) rfl ?_
    obtain ⟨q13, e14, h⟩ := bind_inv h
    refine go_V (M1 := m_X8_measureNow) (as := [.inl v3]) (st := [.inl v3, .inr 8]) (k := 5) (ci := 8) dc_X8_keep_81 ln_8_50 im_X8_measureNow (by decide) rfl rfl mk_X8_measureNow rfl (Nat.le_of_ble_eq_true rfl) (Nat.le_refl _) (v := (some (.inl q13))) (σ1 := y11) (lk_X8_measureNow l d (by omega) v3 y11 q13 e14) _ rfl ?_
    obtain ⟨s15, e16, h⟩ := bnd_inv h
    refine go_SN (M1 := m_X10_put) (as := [.inr 8, .inl v3, .inl q13]) (st := []) dc_X8_keep_84 ln_8_34 sm_X10_put mk_X10_put rfl (Nat.le_of_ble_eq_true rfl) (Nat.le_refl _) (v := none) (σ1 := s15) (lk_X10_put l d LAYC 8 50 rfl _ _ s15 e16) _ rfl ?_
    refine go_ops ok_X8_keep_87_1 (L' := [some (.inr 5), none, none, none, none, none, some (.inl v3), none]) (st' := [.inl v3]) (σ1 := s15) rfl ?_
    have h9 := Option.some.inj h
    subst h9
    exact go_iret dc_X8_keep_89 rfl
  have hf := go_ct (as := [.inr 5, .inl a1, .inl a2, .inl a3, .inl a4, .inl a5]) mk_X8_keep (by rfl) (Nat.le_of_ble_eq_true rfl) key
  exact hf
theorem dc_X9_change_2 : decode m_X9_change.2.2.1 2 = .ok (.invokevirtual 23, 3) := by decide +kernel
theorem dc_X9_change_17 : decode m_X9_change.2.2.1 17 = .ok (.invokestatic 15, 3) := by decide +kernel
theorem dc_X9_change_30 : decode m_X9_change.2.2.1 30 = .ok (.invokestatic 15, 3) := by decide +kernel
theorem dc_X9_change_44 : decode m_X9_change.2.2.1 44 = .ok (.invokestatic 15, 3) := by decide +kernel
theorem dc_X9_change_58 : decode m_X9_change.2.2.1 58 = .ok (.invokestatic 15, 3) := by decide +kernel
theorem dc_X9_change_63 : decode m_X9_change.2.2.1 63 = .ok (.ireturn, 1) := by decide +kernel
theorem ok_X9_change_0_2 : oks m_X9_change.1 m_X9_change.2.2.1 0 [(.aload_n 0, 1, (0, 0, 0)), (.iload_n 1, 1, (0, 0, 0))] = true ∧ plen 0 [(.aload_n 0, 1, (0, 0, 0)), (.iload_n 1, 1, (0, 0, 0))] = 2 := by decide +kernel
theorem ok_X9_change_5_9 : oks m_X9_change.1 m_X9_change.2.2.1 5 [(.istore 6, 2, (0, 0, 0)), (.aload_n 0, 1, (0, 0, 0)), (.getfield 11, 3, (9, 0, 0)), (.iload_n 1, 1, (0, 0, 0)), (.iconst 4, 1, (0, 0, 0)), (.imul, 1, (0, 0, 0)), (.iconst 0, 1, (0, 0, 0)), (.iadd, 1, (0, 0, 0)), (.iload_n 2, 1, (0, 0, 0))] = true ∧ plen 5 [(.istore 6, 2, (0, 0, 0)), (.aload_n 0, 1, (0, 0, 0)), (.getfield 11, 3, (9, 0, 0)), (.iload_n 1, 1, (0, 0, 0)), (.iconst 4, 1, (0, 0, 0)), (.imul, 1, (0, 0, 0)), (.iconst 0, 1, (0, 0, 0)), (.iadd, 1, (0, 0, 0)), (.iload_n 2, 1, (0, 0, 0))] = 17 := by decide +kernel
theorem ok_X9_change_20_8 : oks m_X9_change.1 m_X9_change.2.2.1 20 [(.aload_n 0, 1, (0, 0, 0)), (.getfield 11, 3, (9, 0, 0)), (.iload_n 1, 1, (0, 0, 0)), (.iconst 4, 1, (0, 0, 0)), (.imul, 1, (0, 0, 0)), (.iconst 1, 1, (0, 0, 0)), (.iadd, 1, (0, 0, 0)), (.iload_n 3, 1, (0, 0, 0))] = true ∧ plen 20 [(.aload_n 0, 1, (0, 0, 0)), (.getfield 11, 3, (9, 0, 0)), (.iload_n 1, 1, (0, 0, 0)), (.iconst 4, 1, (0, 0, 0)), (.imul, 1, (0, 0, 0)), (.iconst 1, 1, (0, 0, 0)), (.iadd, 1, (0, 0, 0)), (.iload_n 3, 1, (0, 0, 0))] = 30 := by decide +kernel
theorem ok_X9_change_33_8 : oks m_X9_change.1 m_X9_change.2.2.1 33 [(.aload_n 0, 1, (0, 0, 0)), (.getfield 11, 3, (9, 0, 0)), (.iload_n 1, 1, (0, 0, 0)), (.iconst 4, 1, (0, 0, 0)), (.imul, 1, (0, 0, 0)), (.iconst 2, 1, (0, 0, 0)), (.iadd, 1, (0, 0, 0)), (.iload 4, 2, (0, 0, 0))] = true ∧ plen 33 [(.aload_n 0, 1, (0, 0, 0)), (.getfield 11, 3, (9, 0, 0)), (.iload_n 1, 1, (0, 0, 0)), (.iconst 4, 1, (0, 0, 0)), (.imul, 1, (0, 0, 0)), (.iconst 2, 1, (0, 0, 0)), (.iadd, 1, (0, 0, 0)), (.iload 4, 2, (0, 0, 0))] = 44 := by decide +kernel
theorem ok_X9_change_47_8 : oks m_X9_change.1 m_X9_change.2.2.1 47 [(.aload_n 0, 1, (0, 0, 0)), (.getfield 11, 3, (9, 0, 0)), (.iload_n 1, 1, (0, 0, 0)), (.iconst 4, 1, (0, 0, 0)), (.imul, 1, (0, 0, 0)), (.iconst 3, 1, (0, 0, 0)), (.iadd, 1, (0, 0, 0)), (.iload 5, 2, (0, 0, 0))] = true ∧ plen 47 [(.aload_n 0, 1, (0, 0, 0)), (.getfield 11, 3, (9, 0, 0)), (.iload_n 1, 1, (0, 0, 0)), (.iconst 4, 1, (0, 0, 0)), (.imul, 1, (0, 0, 0)), (.iconst 3, 1, (0, 0, 0)), (.iadd, 1, (0, 0, 0)), (.iload 5, 2, (0, 0, 0))] = 58 := by decide +kernel
theorem ok_X9_change_61_1 : oks m_X9_change.1 m_X9_change.2.2.1 61 [(.iload 6, 2, (0, 0, 0))] = true ∧ plen 61 [(.iload 6, 2, (0, 0, 0))] = 63 := by decide +kernel
def F_X9_change (a1 : Int) (a2 : Int) (a3 : Int) (a4 : Int) (a5 : Int) (σ : Sg) : (Int × Sg) :=
bnd (F_X9_manyOf a1 σ) fun v1 =>
bnd (wrD σ 23 12 (wrap ((wrap (a1 * 4)) + 0)) a2) fun s3 =>
bnd (wrD s3 23 12 (wrap ((wrap (a1 * 4)) + 1)) a3) fun s5 =>
bnd (wrD s5 23 12 (wrap ((wrap (a1 * 4)) + 2)) a4) fun s7 =>
bnd (wrD s7 23 12 (wrap ((wrap (a1 * 4)) + 3)) a5) fun s9 =>
(v1, s9)
theorem lk_X9_change (l : Launch) (d : Nat) (hd : 2 ≤ d) (a1 : Int) (a2 : Int) (a3 : Int) (a4 : Int) (a5 : Int) (σ : Sg) (q : (Int × Sg)) (h : F_X9_change a1 a2 a3 a4 a5 σ = q) : CT l d m_X9_change.2.1 m_X9_change.2.2.1 m_X9_change.2.2.2.1 m_X9_change.2.2.2.2 [.inr 22, .inl a1, .inl a2, .inl a3, .inl a4, .inl a5] (LAYC, σ) (some (.inl q.1)) (LAYC, q.2) := by
  obtain ⟨d, rfl⟩ : ∃ e, d = e + 1 := ⟨d - 1, by omega⟩
  have key : Go l m_X9_change (d + 1) LAYC (.inl (some (.inl q.1))) q.2 0 [some (.inr 22), some (.inl a1), some (.inl a2), some (.inl a3), some (.inl a4), some (.inl a5), none] [] σ := by
    unfold F_X9_change at h
    refine go_ops ok_X9_change_0_2 (L' := [some (.inr 22), some (.inl a1), some (.inl a2), some (.inl a3), some (.inl a4), some (.inl a5), none]) (st' := [.inl a1, .inr 22]) (σ1 := σ) rfl ?_
    refine go_V (M1 := m_X9_manyOf) (as := [.inl a1]) (st := []) (k := 22) (ci := 9) dc_X9_change_2 ln_9_23 im_X9_manyOf (by decide) rfl rfl mk_X9_manyOf rfl (Nat.le_of_ble_eq_true rfl) (Nat.le_refl _) (v := (some (.inl (F_X9_manyOf a1 σ)))) (σ1 := σ) (lk_X9_manyOf l d (by omega) a1 σ _ rfl) _ rfl ?_
    obtain ⟨v1, e2, h⟩ := bnd_inv h
    refine go_ops ok_X9_change_5_9 (L' := [some (.inr 22), some (.inl a1), some (.inl a2), some (.inl a3), some (.inl a4), some (.inl a5), some (.inl v1)]) (st' := [.inl a2, .inl (wrap ((wrap (a1 * 4)) + 0)), .inr 23]) (σ1 := σ) (by subst e2; rfl) ?_
    obtain ⟨s3, e4, h⟩ := bnd_inv h
    refine go_SN (M1 := m_X10_put) (as := [.inr 23, .inl (wrap ((wrap (a1 * 4)) + 0)), .inl a2]) (st := []) dc_X9_change_17 ln_9_15 sm_X10_put mk_X10_put rfl (Nat.le_of_ble_eq_true rfl) (Nat.le_refl _) (v := none) (σ1 := s3) (lk_X10_put l d LAYC 23 12 rfl _ _ s3 e4) _ rfl ?_
    refine go_ops ok_X9_change_20_8 (L' := [some (.inr 22), some (.inl a1), some (.inl a2), some (.inl a3), some (.inl a4), some (.inl a5), some (.inl v1)]) (st' := [.inl a3, .inl (wrap ((wrap (a1 * 4)) + 1)), .inr 23]) (σ1 := s3) rfl ?_
    obtain ⟨s5, e6, h⟩ := bnd_inv h
    refine go_SN (M1 := m_X10_put) (as := [.inr 23, .inl (wrap ((wrap (a1 * 4)) + 1)), .inl a3]) (st := []) dc_X9_change_30 ln_9_15 sm_X10_put mk_X10_put rfl (Nat.le_of_ble_eq_true rfl) (Nat.le_refl _) (v := none) (σ1 := s5) (lk_X10_put l d LAYC 23 12 rfl _ _ s5 e6) _ rfl ?_
    refine go_ops ok_X9_change_33_8 (L' := [some (.inr 22), some (.inl a1), some (.inl a2), some (.inl a3), some (.inl a4), some (.inl a5), some (.inl v1)]) (st' := [.inl a4, .inl (wrap ((wrap (a1 * 4)) + 2)), .inr 23]) (σ1 := s5) rfl ?_
    obtain ⟨s7, e8, h⟩ := bnd_inv h
    refine go_SN (M1 := m_X10_put) (as := [.inr 23, .inl (wrap ((wrap (a1 * 4)) + 2)), .inl a4]) (st := []) dc_X9_change_44 ln_9_15 sm_X10_put mk_X10_put rfl (Nat.le_of_ble_eq_true rfl) (Nat.le_refl _) (v := none) (σ1 := s7) (lk_X10_put l d LAYC 23 12 rfl _ _ s7 e8) _ rfl ?_
    refine go_ops ok_X9_change_47_8 (L' := [some (.inr 22), some (.inl a1), some (.inl a2), some (.inl a3), some (.inl a4), some (.inl a5), some (.inl v1)]) (st' := [.inl a5, .inl (wrap ((wrap (a1 * 4)) + 3)), .inr 23]) (σ1 := s7) rfl ?_
    obtain ⟨s9, e10, h⟩ := bnd_inv h
    refine go_SN (M1 := m_X10_put) (as := [.inr 23, .inl (wrap ((wrap (a1 * 4)) + 3)), .inl a5]) (st := []) dc_X9_change_58 ln_9_15 sm_X10_put mk_X10_put rfl (Nat.le_of_ble_eq_true rfl) (Nat.le_refl _) (v := none) (σ1 := s9) (lk_X10_put l d LAYC 23 12 rfl _ _ s9 e10) _ rfl ?_
    refine go_ops ok_X9_change_61_1 (L' := [some (.inr 22), some (.inl a1), some (.inl a2), some (.inl a3), some (.inl a4), some (.inl a5), some (.inl v1)]) (st' := [.inl v1]) (σ1 := s9) rfl ?_
    subst h
    exact go_iret dc_X9_change_63 rfl
  have hf := go_ct (as := [.inr 22, .inl a1, .inl a2, .inl a3, .inl a4, .inl a5]) mk_X9_change (by rfl) (Nat.le_of_ble_eq_true rfl) key
  exact hf
theorem dc_X10_forgetEngines_4 : decode m_X10_forgetEngines.2.2.1 4 = .ok (.invokevirtual 293, 3) := by decide +kernel
theorem dc_X10_forgetEngines_11 : decode m_X10_forgetEngines.2.2.1 11 = .ok (.invokevirtual 296, 3) := by decide +kernel
theorem dc_X10_forgetEngines_18 : decode m_X10_forgetEngines.2.2.1 18 = .ok (.invokevirtual 296, 3) := by decide +kernel
theorem dc_X10_forgetEngines_21 : decode m_X10_forgetEngines.2.2.1 21 = .ok (.return_, 1) := by decide +kernel
theorem ok_X10_forgetEngines_0_2 : oks m_X10_forgetEngines.1 m_X10_forgetEngines.2.2.1 0 [(.aload_n 0, 1, (0, 0, 0)), (.getfield 65, 3, (10, 7, 0))] = true ∧ plen 0 [(.aload_n 0, 1, (0, 0, 0)), (.getfield 65, 3, (10, 7, 0))] = 4 := by decide +kernel
theorem ok_X10_forgetEngines_7_2 : oks m_X10_forgetEngines.1 m_X10_forgetEngines.2.2.1 7 [(.aload_n 0, 1, (0, 0, 0)), (.getfield 79, 3, (10, 8, 0))] = true ∧ plen 7 [(.aload_n 0, 1, (0, 0, 0)), (.getfield 79, 3, (10, 8, 0))] = 11 := by decide +kernel
theorem ok_X10_forgetEngines_14_2 : oks m_X10_forgetEngines.1 m_X10_forgetEngines.2.2.1 14 [(.aload_n 0, 1, (0, 0, 0)), (.getfield 83, 3, (10, 9, 0))] = true ∧ plen 14 [(.aload_n 0, 1, (0, 0, 0)), (.getfield 83, 3, (10, 9, 0))] = 18 := by decide +kernel
def F_X10_forgetEngines (σ : Sg) : Sg :=
bnd (F_X0_forget σ) fun q1 =>
bnd (F_X7_forget 43 q1) fun q3 =>
bnd (F_X7_forget 49 q3) fun q5 =>
q5
theorem lk_X10_forgetEngines (l : Launch) (d : Nat) (hd : 1 ≤ d) (σ : Sg) (q : Sg) (h : F_X10_forgetEngines σ = q) : CT l d m_X10_forgetEngines.2.1 m_X10_forgetEngines.2.2.1 m_X10_forgetEngines.2.2.2.1 m_X10_forgetEngines.2.2.2.2 [.inr 0] (LAYC, σ) none (LAYC, q) := by
  obtain ⟨d, rfl⟩ : ∃ e, d = e + 1 := ⟨d - 1, by omega⟩
  have key : Go l m_X10_forgetEngines (d + 1) LAYC (.inl none) q 0 [some (.inr 0)] [] σ := by
    unfold F_X10_forgetEngines at h
    refine go_ops ok_X10_forgetEngines_0_2 (L' := [some (.inr 0)]) (st' := [.inr 33]) (σ1 := σ) rfl ?_
    obtain ⟨q1, e2, h⟩ := bnd_inv h
    refine go_V (M1 := m_X0_forget) (as := []) (st := []) (k := 33) (ci := 0) dc_X10_forgetEngines_4 ln_10_293 im_X0_forget (by decide) rfl rfl mk_X0_forget rfl (Nat.le_of_ble_eq_true rfl) (Nat.le_refl _) (v := none) (σ1 := q1) (lk_X0_forget l d (by omega) σ q1 e2.symm) _ rfl ?_
    refine go_ops ok_X10_forgetEngines_7_2 (L' := [some (.inr 0)]) (st' := [.inr 43]) (σ1 := q1) rfl ?_
    obtain ⟨q3, e4, h⟩ := bnd_inv h
    refine go_V (M1 := m_X7_forget) (as := []) (st := []) (k := 43) (ci := 7) dc_X10_forgetEngines_11 ln_10_296 im_X7_forget (by decide) rfl rfl mk_X7_forget rfl (Nat.le_of_ble_eq_true rfl) (Nat.le_refl _) (v := none) (σ1 := q3) (lk_X7_forget_43 l d (by omega) q1 q3 e4.symm) _ rfl ?_
    refine go_ops ok_X10_forgetEngines_14_2 (L' := [some (.inr 0)]) (st' := [.inr 49]) (σ1 := q3) rfl ?_
    obtain ⟨q5, e6, h⟩ := bnd_inv h
    refine go_V (M1 := m_X7_forget) (as := []) (st := []) (k := 49) (ci := 7) dc_X10_forgetEngines_18 ln_10_296 im_X7_forget (by decide) rfl rfl mk_X7_forget rfl (Nat.le_of_ble_eq_true rfl) (Nat.le_refl _) (v := none) (σ1 := q5) (lk_X7_forget_49 l d (by omega) q3 q5 e6.symm) _ rfl ?_
    subst h
    exact go_vret dc_X10_forgetEngines_21 rfl
  have hf := go_ct (as := [.inr 0]) mk_X10_forgetEngines (by rfl) (Nat.le_of_ble_eq_true rfl) key
  exact hf
theorem dc_X10_constructor_1 : decode m_X10_constructor.2.2.1 1 = .ok (.invokestatic 86, 3) := by decide +kernel
theorem dc_X10_constructor_4 : decode m_X10_constructor.2.2.1 4 = .ok (.invokestatic 90, 3) := by decide +kernel
theorem dc_X10_constructor_10 : decode m_X10_constructor.2.2.1 10 = .ok (.invokestatic 94, 3) := by decide +kernel
theorem dc_X10_constructor_13 : decode m_X10_constructor.2.2.1 13 = .ok (.invokestatic 98, 3) := by decide +kernel
theorem dc_X10_constructor_22 : decode m_X10_constructor.2.2.1 22 = .ok (.if_icmp .ge 48, 3) := by decide +kernel
theorem dc_X10_constructor_32 : decode m_X10_constructor.2.2.1 32 = .ok (.invokestatic 101, 3) := by decide +kernel
theorem dc_X10_constructor_40 : decode m_X10_constructor.2.2.1 40 = .ok (.if_icmp .ge 11, 3) := by decide +kernel
theorem dc_X10_constructor_45 : decode m_X10_constructor.2.2.1 45 = .ok (.invokestatic 105, 3) := by decide +kernel
theorem dc_X10_constructor_48 : decode m_X10_constructor.2.2.1 48 = .ok (.goto 13, 3) := by decide +kernel
theorem dc_X10_constructor_53 : decode m_X10_constructor.2.2.1 53 = .ok (.ifCond .ne 7, 3) := by decide +kernel
theorem dc_X10_constructor_57 : decode m_X10_constructor.2.2.1 57 = .ok (.goto 4, 3) := by decide +kernel
theorem dc_X10_constructor_61 : decode m_X10_constructor.2.2.1 61 = .ok (.invokestatic 98, 3) := by decide +kernel
theorem dc_X10_constructor_67 : decode m_X10_constructor.2.2.1 67 = .ok (.goto (-48), 3) := by decide +kernel
theorem dc_X10_constructor_75 : decode m_X10_constructor.2.2.1 75 = .ok (.invokevirtual 108, 3) := by decide +kernel
theorem dc_X10_constructor_79 : decode m_X10_constructor.2.2.1 79 = .ok (.if_icmp .ge 7, 3) := by decide +kernel
theorem dc_X10_constructor_83 : decode m_X10_constructor.2.2.1 83 = .ok (.goto 4, 3) := by decide +kernel
theorem dc_X10_constructor_87 : decode m_X10_constructor.2.2.1 87 = .ok (.invokestatic 112, 3) := by decide +kernel
theorem dc_X10_constructor_91 : decode m_X10_constructor.2.2.1 91 = .ok (.invokevirtual 115, 3) := by decide +kernel
theorem dc_X10_constructor_105 : decode m_X10_constructor.2.2.1 105 = .ok (.invokevirtual 118, 3) := by decide +kernel
theorem dc_X10_constructor_108 : decode m_X10_constructor.2.2.1 108 = .ok (.ireturn, 1) := by decide +kernel
theorem ok_X10_constructor_0_1 : oks m_X10_constructor.1 m_X10_constructor.2.2.1 0 [(.iload_n 1, 1, (0, 0, 0))] = true ∧ plen 0 [(.iload_n 1, 1, (0, 0, 0))] = 1 := by decide +kernel
theorem ok_X10_constructor_7_3 : oks m_X10_constructor.1 m_X10_constructor.2.2.1 7 [(.iload_n 2, 1, (0, 0, 0)), (.iconst 0, 1, (0, 0, 0)), (.iconst 3, 1, (0, 0, 0))] = true ∧ plen 7 [(.iload_n 2, 1, (0, 0, 0)), (.iconst 0, 1, (0, 0, 0)), (.iconst 3, 1, (0, 0, 0))] = 10 := by decide +kernel
theorem ok_X10_constructor_16_2 : oks m_X10_constructor.1 m_X10_constructor.2.2.1 16 [(.iconst 0, 1, (0, 0, 0)), (.istore 6, 2, (0, 0, 0))] = true ∧ plen 16 [(.iconst 0, 1, (0, 0, 0)), (.istore 6, 2, (0, 0, 0))] = 19 := by decide +kernel
theorem ok_X10_constructor_19_2 : oks m_X10_constructor.1 m_X10_constructor.2.2.1 19 [(.iload 6, 2, (0, 0, 0)), (.iconst 3, 1, (0, 0, 0))] = true ∧ plen 19 [(.iload 6, 2, (0, 0, 0)), (.iconst 3, 1, (0, 0, 0))] = 22 := by decide +kernel
theorem ok_X10_constructor_25_4 : oks m_X10_constructor.1 m_X10_constructor.2.2.1 25 [(.iload 6, 2, (0, 0, 0)), (.iload_n 3, 1, (0, 0, 0)), (.iload 4, 2, (0, 0, 0)), (.iload 5, 2, (0, 0, 0))] = true ∧ plen 25 [(.iload 6, 2, (0, 0, 0)), (.iload_n 3, 1, (0, 0, 0)), (.iload 4, 2, (0, 0, 0)), (.iload 5, 2, (0, 0, 0))] = 32 := by decide +kernel
theorem ok_X10_constructor_35_3 : oks m_X10_constructor.1 m_X10_constructor.2.2.1 35 [(.istore 7, 2, (0, 0, 0)), (.iload 6, 2, (0, 0, 0)), (.iload_n 2, 1, (0, 0, 0))] = true ∧ plen 35 [(.istore 7, 2, (0, 0, 0)), (.iload 6, 2, (0, 0, 0)), (.iload_n 2, 1, (0, 0, 0))] = 40 := by decide +kernel
theorem ok_X10_constructor_43_1 : oks m_X10_constructor.1 m_X10_constructor.2.2.1 43 [(.iload 7, 2, (0, 0, 0))] = true ∧ plen 43 [(.iload 7, 2, (0, 0, 0))] = 45 := by decide +kernel
theorem ok_X10_constructor_51_1 : oks m_X10_constructor.1 m_X10_constructor.2.2.1 51 [(.iload 7, 2, (0, 0, 0))] = true ∧ plen 51 [(.iload 7, 2, (0, 0, 0))] = 53 := by decide +kernel
theorem ok_X10_constructor_56_1 : oks m_X10_constructor.1 m_X10_constructor.2.2.1 56 [(.iconst 1, 1, (0, 0, 0))] = true ∧ plen 56 [(.iconst 1, 1, (0, 0, 0))] = 57 := by decide +kernel
theorem ok_X10_constructor_60_1 : oks m_X10_constructor.1 m_X10_constructor.2.2.1 60 [(.iconst 0, 1, (0, 0, 0))] = true ∧ plen 60 [(.iconst 0, 1, (0, 0, 0))] = 61 := by decide +kernel
theorem ok_X10_constructor_64_1 : oks m_X10_constructor.1 m_X10_constructor.2.2.1 64 [(.iinc 6 1, 3, (0, 0, 0))] = true ∧ plen 64 [(.iinc 6 1, 3, (0, 0, 0))] = 67 := by decide +kernel
theorem ok_X10_constructor_70_3 : oks m_X10_constructor.1 m_X10_constructor.2.2.1 70 [(.aload_n 0, 1, (0, 0, 0)), (.getfield 10, 3, (10, 0, 0)), (.iload_n 1, 1, (0, 0, 0))] = true ∧ plen 70 [(.aload_n 0, 1, (0, 0, 0)), (.getfield 10, 3, (10, 0, 0)), (.iload_n 1, 1, (0, 0, 0))] = 75 := by decide +kernel
theorem ok_X10_constructor_78_1 : oks m_X10_constructor.1 m_X10_constructor.2.2.1 78 [(.iconst 4, 1, (0, 0, 0))] = true ∧ plen 78 [(.iconst 4, 1, (0, 0, 0))] = 79 := by decide +kernel
theorem ok_X10_constructor_82_1 : oks m_X10_constructor.1 m_X10_constructor.2.2.1 82 [(.iconst 1, 1, (0, 0, 0))] = true ∧ plen 82 [(.iconst 1, 1, (0, 0, 0))] = 83 := by decide +kernel
theorem ok_X10_constructor_86_1 : oks m_X10_constructor.1 m_X10_constructor.2.2.1 86 [(.iconst 0, 1, (0, 0, 0))] = true ∧ plen 86 [(.iconst 0, 1, (0, 0, 0))] = 87 := by decide +kernel
theorem ok_X10_constructor_90_1 : oks m_X10_constructor.1 m_X10_constructor.2.2.1 90 [(.aload_n 0, 1, (0, 0, 0))] = true ∧ plen 90 [(.aload_n 0, 1, (0, 0, 0))] = 91 := by decide +kernel
theorem ok_X10_constructor_94_7 : oks m_X10_constructor.1 m_X10_constructor.2.2.1 94 [(.aload_n 0, 1, (0, 0, 0)), (.getfield 10, 3, (10, 0, 0)), (.iload_n 1, 1, (0, 0, 0)), (.iload_n 2, 1, (0, 0, 0)), (.iload_n 3, 1, (0, 0, 0)), (.iload 4, 2, (0, 0, 0)), (.iload 5, 2, (0, 0, 0))] = true ∧ plen 94 [(.aload_n 0, 1, (0, 0, 0)), (.getfield 10, 3, (10, 0, 0)), (.iload_n 1, 1, (0, 0, 0)), (.iload_n 2, 1, (0, 0, 0)), (.iload_n 3, 1, (0, 0, 0)), (.iload 4, 2, (0, 0, 0)), (.iload 5, 2, (0, 0, 0))] = 105 := by decide +kernel
def B_X10_constructor_61 (x6 : Int) (y0 : Bool) (σ : Sg) : Option (Int ⊕ (Unit ⊕ ((Int ⊕ Nat) × Sg))) :=
if y0 = true then
some (.inl (wrap (x6 + 1)))
else some (.inr (.inr (.inr 1, σ)))
def L_X10_constructor_19 (x2 : Int) (x3 : Int) (x4 : Int) (x5 : Int) (σ : Sg) (x6 : Int) : Option (Int ⊕ (Unit ⊕ ((Int ⊕ Nat) × Sg))) :=
if 3 ≤ x6 then
some (.inr (.inl ()))
else
bnd (F_X10_pick x6 x3 x4 x5) fun v1 =>
if x2 ≤ x6 then
if v1 = 0 then
B_X10_constructor_61 x6 true σ
else
B_X10_constructor_61 x6 false σ
else
B_X10_constructor_61 x6 (F_X2_isKind v1) σ
def B_X10_constructor_87 (x1 : Int) (x2 : Int) (x3 : Int) (x4 : Int) (x5 : Int) (y0 : Bool) (σ : Sg) : Option ((Int ⊕ Nat) × Sg) :=
if y0 = true then
bnd (F_X10_forgetEngines σ) fun q7 =>
(F_X2_extend x1 x2 x3 x4 x5 q7).bind fun q9 =>
some (.inl q9.1, q9.2)
else some (.inr 2, σ)
def F_X10_constructor (a1 : Int) (a2 : Int) (a3 : Int) (a4 : Int) (a5 : Int) (σ : Sg) : Option ((Int ⊕ Nat) × Sg) :=
if (F_X2_isType a1) = true then
if (F_X10_isIn a2 0 3) = true then
(iter (fun a : Int => L_X10_constructor_19 a2 a3 a4 a5 σ a) 4 0).bind fun y3 => Sum.elim (fun z5 =>
if 4 ≤ (F_X2_countOf a1 σ) then
B_X10_constructor_87 a1 a2 a3 a4 a5 false σ
else
B_X10_constructor_87 a1 a2 a3 a4 a5 true σ) (fun r6 => some r6) y3
else some (.inr 1, σ)
else some (.inr 0, σ)
theorem lk_X10_constructor (l : Launch) (hl : l.stackTraces = false) (d : Nat) (hd : 7 ≤ d) (a1 : Int) (a2 : Int) (a3 : Int) (a4 : Int) (a5 : Int) (σ : Sg) (q : ((Int ⊕ Nat) × Sg)) (h : F_X10_constructor a1 a2 a3 a4 a5 σ = some q) : outZ (ozI q.1) l d m_X10_constructor.2.1 m_X10_constructor.2.2.1 m_X10_constructor.2.2.2.1 m_X10_constructor.2.2.2.2 [.inr 0, .inl a1, .inl a2, .inl a3, .inl a4, .inl a5] (LAYC, σ) (LAYC, q.2) := by
  obtain ⟨d, rfl⟩ : ∃ e, d = e + 1 := ⟨d - 1, by omega⟩
  have key : Go l m_X10_constructor (d + 1) LAYC (ozI q.1) q.2 0 [some (.inr 0), some (.inl a1), some (.inl a2), some (.inl a3), some (.inl a4), some (.inl a5), none, none] [] σ := by
    unfold F_X10_constructor at h
    have hL_X10_constructor_19 : ∀ (x1 : Int) (x2 : Int) (x3 : Int) (x4 : Int) (x5 : Int) (σ : Sg) (n : Nat) (a : Int) (y : (Unit ⊕ ((Int ⊕ Nat) × Sg))), iter (fun a : Int => L_X10_constructor_19 x2 x3 x4 x5 σ a) n a = some y → (Sum.elim (fun y : Unit => Go l m_X10_constructor (d + 1) LAYC (ozI q.1) q.2 70 [some (.inr 0), some (.inl x1), some (.inl x2), some (.inl x3), some (.inl x4), some (.inl x5), none, none] [] σ) (fun r : ((Int ⊕ Nat) × Sg) => r = q)) y → (fun a : Int => Go l m_X10_constructor (d + 1) LAYC (ozI q.1) q.2 19 [some (.inr 0), some (.inl x1), some (.inl x2), some (.inl x3), some (.inl x4), some (.inl x5), some (.inl a), none] [] σ) a := by
      intro x1 x2 x3 x4 x5 σ
      refine go_iter (G := fun a : Int => Go l m_X10_constructor (d + 1) LAYC (ozI q.1) q.2 19 [some (.inr 0), some (.inl x1), some (.inl x2), some (.inl x3), some (.inl x4), some (.inl x5), some (.inl a), none] [] σ) (K := Sum.elim (fun y : Unit => Go l m_X10_constructor (d + 1) LAYC (ozI q.1) q.2 70 [some (.inr 0), some (.inl x1), some (.inl x2), some (.inl x3), some (.inl x4), some (.inl x5), none, none] [] σ) (fun r : ((Int ⊕ Nat) × Sg) => r = q)) ?_
      rintro x6 w h hK
      replace h : L_X10_constructor_19 x2 x3 x4 x5 σ x6 = some w := h
      show Go l m_X10_constructor (d + 1) LAYC (ozI q.1) q.2 19 [some (.inr 0), some (.inl x1), some (.inl x2), some (.inl x3), some (.inl x4), some (.inl x5), some (.inl x6), none] [] σ
      unfold L_X10_constructor_19 at h
      have hB_X10_constructor_61 : ∀ (x6 : Int) (y0 : Bool), B_X10_constructor_61 x6 y0 σ = some w → Go l m_X10_constructor (d + 1) LAYC (ozI q.1) q.2 61 [some (.inr 0), some (.inl x1), some (.inl x2), some (.inl x3), some (.inl x4), some (.inl x5), some (.inl x6), none] [.inl (b2i y0)] σ := by
        intro x6 y0 h
        unfold B_X10_constructor_61 at h
        rcases Decidable.em (¬ y0 = true) with hc | hc
        · replace h := (if_neg hc).symm.trans h
          cases h
          have hK2 : _ = q := hK
          subst hK2
          exact go_SX (M1 := m_X10_demandArgument) (as := [.inl (b2i y0)]) (st := []) dc_X10_constructor_61 ln_10_98 sm_X10_demandArgument rfl mk_X10_demandArgument rfl (Nat.le_of_ble_eq_true rfl) (Nat.le_refl _) (lkX_X10_demandArgument l d hl (by omega) _ hc LAYC σ) _ rfl
        replace hc := Decidable.not_not.mp hc
        replace h := (if_pos hc).symm.trans h
        refine go_S (M1 := m_X10_demandArgument) (as := [.inl (b2i y0)]) (st := []) dc_X10_constructor_61 ln_10_98 sm_X10_demandArgument mk_X10_demandArgument rfl (Nat.le_of_ble_eq_true rfl) (Nat.le_refl _) (v := none) (σ1 := σ) (lk_X10_demandArgument l d _ hc _ σ) _ rfl ?_
        refine go_ops ok_X10_constructor_64_1 (L' := [some (.inr 0), some (.inl x1), some (.inl x2), some (.inl x3), some (.inl x4), some (.inl x5), some (.inl (wrap (x6 + 1))), none]) (st' := []) (σ1 := σ) rfl ?_
        refine go_goto dc_X10_constructor_67 (by rfl) ?_
        cases h
        exact hK
      refine go_ops ok_X10_constructor_19_2 (L' := [some (.inr 0), some (.inl x1), some (.inl x2), some (.inl x3), some (.inl x4), some (.inl x5), some (.inl x6), none]) (st' := [.inl 3, .inl x6]) (σ1 := σ) rfl ?_
      refine go_icmp_ge dc_X10_constructor_22 (by rfl) (fun hc => ?_) (fun hc => ?_)
      · replace h := (if_pos hc).symm.trans h
        cases h
        refine go_wk (L' := [some (.inr 0), some (.inl x1), some (.inl x2), some (.inl x3), some (.inl x4), some (.inl x5), none, none]) ⟨rfl, rfl, rfl, rfl, rfl, rfl, trivial⟩ ?_
        exact hK
      · replace h := (if_neg hc).symm.trans h
        refine go_ops ok_X10_constructor_25_4 (L' := [some (.inr 0), some (.inl x1), some (.inl x2), some (.inl x3), some (.inl x4), some (.inl x5), some (.inl x6), none]) (st' := [.inl x5, .inl x4, .inl x3, .inl x6]) (σ1 := σ) rfl ?_
        refine go_S (M1 := m_X10_pick) (as := [.inl x6, .inl x3, .inl x4, .inl x5]) (st := []) dc_X10_constructor_32 ln_10_101 sm_X10_pick mk_X10_pick rfl (Nat.le_of_ble_eq_true rfl) (Nat.le_refl _) (v := (some (.inl (F_X10_pick x6 x3 x4 x5)))) (σ1 := σ) (lk_X10_pick l d (by omega) x6 x3 x4 x5 σ _ rfl) _ rfl ?_
        obtain ⟨v1, e2, h⟩ := bnd_inv h
        refine go_ops ok_X10_constructor_35_3 (L' := [some (.inr 0), some (.inl x1), some (.inl x2), some (.inl x3), some (.inl x4), some (.inl x5), some (.inl x6), some (.inl v1)]) (st' := [.inl x2, .inl x6]) (σ1 := σ) (by subst e2; rfl) ?_
        refine go_icmp_ge dc_X10_constructor_40 (by rfl) (fun hc => ?_) (fun hc => ?_)
        · replace h := (if_pos hc).symm.trans h
          refine go_ops ok_X10_constructor_51_1 (L' := [some (.inr 0), some (.inl x1), some (.inl x2), some (.inl x3), some (.inl x4), some (.inl x5), some (.inl x6), some (.inl v1)]) (st' := [.inl v1]) (σ1 := σ) rfl ?_
          refine go_if_ne dc_X10_constructor_53 (by rfl) (fun hc => ?_) (fun hc => ?_)
          · replace h := (if_neg hc).symm.trans h
            refine go_ops ok_X10_constructor_60_1 (L' := [some (.inr 0), some (.inl x1), some (.inl x2), some (.inl x3), some (.inl x4), some (.inl x5), some (.inl x6), some (.inl v1)]) (st' := [.inl 0]) (σ1 := σ) rfl ?_
            refine go_wk (L' := [some (.inr 0), some (.inl x1), some (.inl x2), some (.inl x3), some (.inl x4), some (.inl x5), some (.inl x6), none]) ⟨rfl, rfl, rfl, rfl, rfl, rfl, rfl, trivial⟩ ?_
            exact hB_X10_constructor_61 x6 false h
          · replace h := (if_pos hc).symm.trans h
            refine go_ops ok_X10_constructor_56_1 (L' := [some (.inr 0), some (.inl x1), some (.inl x2), some (.inl x3), some (.inl x4), some (.inl x5), some (.inl x6), some (.inl v1)]) (st' := [.inl 1]) (σ1 := σ) rfl ?_
            refine go_goto dc_X10_constructor_57 (by rfl) ?_
            refine go_wk (L' := [some (.inr 0), some (.inl x1), some (.inl x2), some (.inl x3), some (.inl x4), some (.inl x5), some (.inl x6), none]) ⟨rfl, rfl, rfl, rfl, rfl, rfl, rfl, trivial⟩ ?_
            exact hB_X10_constructor_61 x6 true h
        · replace h := (if_neg hc).symm.trans h
          refine go_ops ok_X10_constructor_43_1 (L' := [some (.inr 0), some (.inl x1), some (.inl x2), some (.inl x3), some (.inl x4), some (.inl x5), some (.inl x6), some (.inl v1)]) (st' := [.inl v1]) (σ1 := σ) rfl ?_
          refine go_S (M1 := m_X2_isKind) (as := [.inl v1]) (st := []) dc_X10_constructor_45 ln_10_105 sm_X2_isKind mk_X2_isKind rfl (Nat.le_of_ble_eq_true rfl) (Nat.le_refl _) (v := (some (.inl (b2i (F_X2_isKind v1))))) (σ1 := σ) (lk_X2_isKind l d (by omega) v1 σ _ rfl) _ rfl ?_
          refine go_goto dc_X10_constructor_48 (by rfl) ?_
          refine go_wk (L' := [some (.inr 0), some (.inl x1), some (.inl x2), some (.inl x3), some (.inl x4), some (.inl x5), some (.inl x6), none]) ⟨rfl, rfl, rfl, rfl, rfl, rfl, rfl, trivial⟩ ?_
          exact hB_X10_constructor_61 x6 (F_X2_isKind v1) h
    have hB_X10_constructor_87 : ∀ (x1 : Int) (x2 : Int) (x3 : Int) (x4 : Int) (x5 : Int) (y0 : Bool) (σ : Sg), B_X10_constructor_87 x1 x2 x3 x4 x5 y0 σ = some q → Go l m_X10_constructor (d + 1) LAYC (ozI q.1) q.2 87 [some (.inr 0), some (.inl x1), some (.inl x2), some (.inl x3), some (.inl x4), some (.inl x5), none, none] [.inl (b2i y0)] σ := by
      intro x1 x2 x3 x4 x5 y0 σ h
      unfold B_X10_constructor_87 at h
      rcases Decidable.em (¬ y0 = true) with hc | hc
      · replace h := (if_neg hc).symm.trans h
        have h9 := Option.some.inj h
        subst h9
        exact go_SX (M1 := m_X10_demandState) (as := [.inl (b2i y0)]) (st := []) dc_X10_constructor_87 ln_10_112 sm_X10_demandState rfl mk_X10_demandState rfl (Nat.le_of_ble_eq_true rfl) (Nat.le_refl _) (lkX_X10_demandState l d hl (by omega) _ hc LAYC σ) _ rfl
      replace hc := Decidable.not_not.mp hc
      replace h := (if_pos hc).symm.trans h
      refine go_S (M1 := m_X10_demandState) (as := [.inl (b2i y0)]) (st := []) dc_X10_constructor_87 ln_10_112 sm_X10_demandState mk_X10_demandState rfl (Nat.le_of_ble_eq_true rfl) (Nat.le_refl _) (v := none) (σ1 := σ) (lk_X10_demandState l d _ hc _ σ) _ rfl ?_
      refine go_ops ok_X10_constructor_90_1 (L' := [some (.inr 0), some (.inl x1), some (.inl x2), some (.inl x3), some (.inl x4), some (.inl x5), none, none]) (st' := [.inr 0]) (σ1 := σ) rfl ?_
      obtain ⟨q7, e8, h⟩ := bnd_inv h
      refine go_V (M1 := m_X10_forgetEngines) (as := []) (st := []) (k := 0) (ci := 10) dc_X10_constructor_91 ln_10_115 im_X10_forgetEngines (by decide) rfl rfl mk_X10_forgetEngines rfl (Nat.le_of_ble_eq_true rfl) (Nat.le_refl _) (v := none) (σ1 := q7) (lk_X10_forgetEngines l d (by omega) σ q7 e8.symm) _ rfl ?_
      refine go_ops ok_X10_constructor_94_7 (L' := [some (.inr 0), some (.inl x1), some (.inl x2), some (.inl x3), some (.inl x4), some (.inl x5), none, none]) (st' := [.inl x5, .inl x4, .inl x3, .inl x2, .inl x1, .inr 1]) (σ1 := q7) rfl ?_
      obtain ⟨q9, e10, h⟩ := bind_inv h
      refine go_V (M1 := m_X2_extend) (as := [.inl x1, .inl x2, .inl x3, .inl x4, .inl x5]) (st := []) (k := 1) (ci := 2) dc_X10_constructor_105 ln_10_118 im_X2_extend (by decide) rfl rfl mk_X2_extend rfl (Nat.le_of_ble_eq_true rfl) (Nat.le_refl _) (v := (some (.inl q9.1))) (σ1 := q9.2) (lk_X2_extend l d (by omega) x1 x2 x3 x4 x5 q7 q9 e10) _ rfl ?_
      have h9 := Option.some.inj h
      subst h9
      exact go_iret dc_X10_constructor_108 rfl
    refine go_ops ok_X10_constructor_0_1 (L' := [some (.inr 0), some (.inl a1), some (.inl a2), some (.inl a3), some (.inl a4), some (.inl a5), none, none]) (st' := [.inl a1]) (σ1 := σ) rfl ?_
    refine go_S (M1 := m_X2_isType) (as := [.inl a1]) (st := []) dc_X10_constructor_1 ln_10_86 sm_X2_isType mk_X2_isType rfl (Nat.le_of_ble_eq_true rfl) (Nat.le_refl _) (v := (some (.inl (b2i (F_X2_isType a1))))) (σ1 := σ) (lk_X2_isType l d (by omega) a1 σ _ rfl) _ rfl ?_
    rcases Decidable.em (¬ (F_X2_isType a1) = true) with hc | hc
    · replace h := (if_neg hc).symm.trans h
      have h9 := Option.some.inj h
      subst h9
      exact go_SX (M1 := m_X10_demandIndex) (as := [.inl (b2i (F_X2_isType a1))]) (st := []) dc_X10_constructor_4 ln_10_90 sm_X10_demandIndex rfl mk_X10_demandIndex rfl (Nat.le_of_ble_eq_true rfl) (Nat.le_refl _) (lkX_X10_demandIndex l d hl (by omega) _ hc LAYC σ) _ rfl
    replace hc := Decidable.not_not.mp hc
    replace h := (if_pos hc).symm.trans h
    refine go_S (M1 := m_X10_demandIndex) (as := [.inl (b2i (F_X2_isType a1))]) (st := []) dc_X10_constructor_4 ln_10_90 sm_X10_demandIndex mk_X10_demandIndex rfl (Nat.le_of_ble_eq_true rfl) (Nat.le_refl _) (v := none) (σ1 := σ) (lk_X10_demandIndex l d _ hc _ σ) _ rfl ?_
    refine go_ops ok_X10_constructor_7_3 (L' := [some (.inr 0), some (.inl a1), some (.inl a2), some (.inl a3), some (.inl a4), some (.inl a5), none, none]) (st' := [.inl 3, .inl 0, .inl a2]) (σ1 := σ) rfl ?_
    refine go_S (M1 := m_X10_isIn) (as := [.inl a2, .inl 0, .inl 3]) (st := []) dc_X10_constructor_10 ln_10_94 sm_X10_isIn mk_X10_isIn rfl (Nat.le_of_ble_eq_true rfl) (Nat.le_refl _) (v := (some (.inl (b2i (F_X10_isIn a2 0 3))))) (σ1 := σ) (lk_X10_isIn l d (by omega) a2 0 3 σ _ rfl) _ rfl ?_
    rcases Decidable.em (¬ (F_X10_isIn a2 0 3) = true) with hc | hc
    · replace h := (if_neg hc).symm.trans h
      have h9 := Option.some.inj h
      subst h9
      exact go_SX (M1 := m_X10_demandArgument) (as := [.inl (b2i (F_X10_isIn a2 0 3))]) (st := []) dc_X10_constructor_13 ln_10_98 sm_X10_demandArgument rfl mk_X10_demandArgument rfl (Nat.le_of_ble_eq_true rfl) (Nat.le_refl _) (lkX_X10_demandArgument l d hl (by omega) _ hc LAYC σ) _ rfl
    replace hc := Decidable.not_not.mp hc
    replace h := (if_pos hc).symm.trans h
    refine go_S (M1 := m_X10_demandArgument) (as := [.inl (b2i (F_X10_isIn a2 0 3))]) (st := []) dc_X10_constructor_13 ln_10_98 sm_X10_demandArgument mk_X10_demandArgument rfl (Nat.le_of_ble_eq_true rfl) (Nat.le_refl _) (v := none) (σ1 := σ) (lk_X10_demandArgument l d _ hc _ σ) _ rfl ?_
    refine go_ops ok_X10_constructor_16_2 (L' := [some (.inr 0), some (.inl a1), some (.inl a2), some (.inl a3), some (.inl a4), some (.inl a5), some (.inl 0), none]) (st' := []) (σ1 := σ) rfl ?_
    obtain ⟨y3, e4, h⟩ := bind_inv h
    refine hL_X10_constructor_19 a1 a2 a3 a4 a5 σ 4 0 y3 e4 ?_
    rcases y3 with z5 | r6
    rotate_left
    · show r6 = q
      cases h; rfl
    show Go l m_X10_constructor (d + 1) LAYC (ozI q.1) q.2 70 [some (.inr 0), some (.inl a1), some (.inl a2), some (.inl a3), some (.inl a4), some (.inl a5), none, none] [] σ
    rw [Sum.elim_inl] at h
    refine go_ops ok_X10_constructor_70_3 (L' := [some (.inr 0), some (.inl a1), some (.inl a2), some (.inl a3), some (.inl a4), some (.inl a5), none, none]) (st' := [.inl a1, .inr 1]) (σ1 := σ) rfl ?_
    refine go_V (M1 := m_X2_countOf) (as := [.inl a1]) (st := []) (k := 1) (ci := 2) dc_X10_constructor_75 ln_10_108 im_X2_countOf (by decide) rfl rfl mk_X2_countOf rfl (Nat.le_of_ble_eq_true rfl) (Nat.le_refl _) (v := (some (.inl (F_X2_countOf a1 σ)))) (σ1 := σ) (lk_X2_countOf l d (by omega) a1 σ _ rfl) _ rfl ?_
    refine go_ops ok_X10_constructor_78_1 (L' := [some (.inr 0), some (.inl a1), some (.inl a2), some (.inl a3), some (.inl a4), some (.inl a5), none, none]) (st' := [.inl 4, .inl (F_X2_countOf a1 σ)]) (σ1 := σ) rfl ?_
    refine go_icmp_ge dc_X10_constructor_79 (by rfl) (fun hc => ?_) (fun hc => ?_)
    · replace h := (if_pos hc).symm.trans h
      refine go_ops ok_X10_constructor_86_1 (L' := [some (.inr 0), some (.inl a1), some (.inl a2), some (.inl a3), some (.inl a4), some (.inl a5), none, none]) (st' := [.inl 0]) (σ1 := σ) rfl ?_
      exact hB_X10_constructor_87 a1 a2 a3 a4 a5 false σ h
    · replace h := (if_neg hc).symm.trans h
      refine go_ops ok_X10_constructor_82_1 (L' := [some (.inr 0), some (.inl a1), some (.inl a2), some (.inl a3), some (.inl a4), some (.inl a5), none, none]) (st' := [.inl 1]) (σ1 := σ) rfl ?_
      refine go_goto dc_X10_constructor_83 (by rfl) ?_
      exact hB_X10_constructor_87 a1 a2 a3 a4 a5 true σ h
  have hf := go_co (as := [.inr 0, .inl a1, .inl a2, .inl a3, .inl a4, .inl a5]) mk_X10_constructor (fun _ _ => by decide +kernel) (by rfl) (Nat.le_of_ble_eq_true rfl) key
  exact hf
theorem dc_X10_isDigit_4 : decode m_X10_isDigit.2.2.1 4 = .ok (.invokestatic 94, 3) := by decide +kernel
theorem dc_X10_isDigit_7 : decode m_X10_isDigit.2.2.1 7 = .ok (.ireturn, 1) := by decide +kernel
theorem ok_X10_isDigit_0_3 : oks m_X10_isDigit.1 m_X10_isDigit.2.2.1 0 [(.iload_n 0, 1, (0, 0, 0)), (.iconst 0, 1, (0, 0, 0)), (.bipush 9, 2, (0, 0, 0))] = true ∧ plen 0 [(.iload_n 0, 1, (0, 0, 0)), (.iconst 0, 1, (0, 0, 0)), (.bipush 9, 2, (0, 0, 0))] = 4 := by decide +kernel
def F_X10_isDigit (a0 : Int) : Bool :=
F_X10_isIn a0 0 9
theorem lk_X10_isDigit (l : Launch) (d : Nat) (hd : 1 ≤ d) (a0 : Int) (σ : Sg) (q : Bool) (h : F_X10_isDigit a0 = q) : CT l d m_X10_isDigit.2.1 m_X10_isDigit.2.2.1 m_X10_isDigit.2.2.2.1 m_X10_isDigit.2.2.2.2 [.inl a0] (LAYC, σ) (some (.inl (b2i q))) (LAYC, σ) := by
  obtain ⟨d, rfl⟩ : ∃ e, d = e + 1 := ⟨d - 1, by omega⟩
  have key : Go l m_X10_isDigit (d + 1) LAYC (.inl (some (.inl (b2i q)))) σ 0 [some (.inl a0)] [] σ := by
    unfold F_X10_isDigit at h
    refine go_ops ok_X10_isDigit_0_3 (L' := [some (.inl a0)]) (st' := [.inl 9, .inl 0, .inl a0]) (σ1 := σ) rfl ?_
    refine go_S (M1 := m_X10_isIn) (as := [.inl a0, .inl 0, .inl 9]) (st := []) dc_X10_isDigit_4 ln_10_94 sm_X10_isIn mk_X10_isIn rfl (Nat.le_of_ble_eq_true rfl) (Nat.le_refl _) (v := (some (.inl (b2i (F_X10_isIn a0 0 9))))) (σ1 := σ) (lk_X10_isIn l d (by omega) a0 0 9 σ _ rfl) _ rfl ?_
    subst h
    exact go_zret (x := (F_X10_isIn a0 0 9)) dc_X10_isDigit_7 rfl
  have hf := go_ct (as := [.inl a0]) mk_X10_isDigit (by rfl) (Nat.le_of_ble_eq_true rfl) key
  exact hf
theorem dc_X10_num_1 : decode m_X10_num.2.2.1 1 = .ok (.invokestatic 122, 3) := by decide +kernel
theorem dc_X10_num_4 : decode m_X10_num.2.2.1 4 = .ok (.invokestatic 98, 3) := by decide +kernel
theorem dc_X10_num_11 : decode m_X10_num.2.2.1 11 = .ok (.invokevirtual 125, 3) := by decide +kernel
theorem dc_X10_num_14 : decode m_X10_num.2.2.1 14 = .ok (.invokestatic 112, 3) := by decide +kernel
theorem dc_X10_num_26 : decode m_X10_num.2.2.1 26 = .ok (.invokevirtual 129, 3) := by decide +kernel
theorem dc_X10_num_29 : decode m_X10_num.2.2.1 29 = .ok (.ireturn, 1) := by decide +kernel
theorem ok_X10_num_0_1 : oks m_X10_num.1 m_X10_num.2.2.1 0 [(.iload_n 1, 1, (0, 0, 0))] = true ∧ plen 0 [(.iload_n 1, 1, (0, 0, 0))] = 1 := by decide +kernel
theorem ok_X10_num_7_2 : oks m_X10_num.1 m_X10_num.2.2.1 7 [(.aload_n 0, 1, (0, 0, 0)), (.getfield 19, 3, (10, 1, 0))] = true ∧ plen 7 [(.aload_n 0, 1, (0, 0, 0)), (.getfield 19, 3, (10, 1, 0))] = 11 := by decide +kernel
theorem ok_X10_num_17_7 : oks m_X10_num.1 m_X10_num.2.2.1 17 [(.aload_n 0, 1, (0, 0, 0)), (.getfield 19, 3, (10, 1, 0)), (.iconst 4, 1, (0, 0, 0)), (.iload_n 1, 1, (0, 0, 0)), (.iconst (-1), 1, (0, 0, 0)), (.iconst (-1), 1, (0, 0, 0)), (.iconst (-1), 1, (0, 0, 0))] = true ∧ plen 17 [(.aload_n 0, 1, (0, 0, 0)), (.getfield 19, 3, (10, 1, 0)), (.iconst 4, 1, (0, 0, 0)), (.iload_n 1, 1, (0, 0, 0)), (.iconst (-1), 1, (0, 0, 0)), (.iconst (-1), 1, (0, 0, 0)), (.iconst (-1), 1, (0, 0, 0))] = 26 := by decide +kernel
def F_X10_num (a1 : Int) (σ : Sg) : Option ((Int ⊕ Nat) × Sg) :=
if (F_X10_isDigit a1) = true then
if (F_X8_hasRoom σ) = true then
(F_X8_keep 4 a1 (-1) (-1) (-1) σ).bind fun q1 =>
some (.inl q1.1, q1.2)
else some (.inr 2, σ)
else some (.inr 1, σ)
theorem lk_X10_num (l : Launch) (hl : l.stackTraces = false) (d : Nat) (hd : 7 ≤ d) (a1 : Int) (σ : Sg) (q : ((Int ⊕ Nat) × Sg)) (h : F_X10_num a1 σ = some q) : outZ (ozI q.1) l d m_X10_num.2.1 m_X10_num.2.2.1 m_X10_num.2.2.2.1 m_X10_num.2.2.2.2 [.inr 0, .inl a1] (LAYC, σ) (LAYC, q.2) := by
  obtain ⟨d, rfl⟩ : ∃ e, d = e + 1 := ⟨d - 1, by omega⟩
  have key : Go l m_X10_num (d + 1) LAYC (ozI q.1) q.2 0 [some (.inr 0), some (.inl a1)] [] σ := by
    unfold F_X10_num at h
    refine go_ops ok_X10_num_0_1 (L' := [some (.inr 0), some (.inl a1)]) (st' := [.inl a1]) (σ1 := σ) rfl ?_
    refine go_S (M1 := m_X10_isDigit) (as := [.inl a1]) (st := []) dc_X10_num_1 ln_10_122 sm_X10_isDigit mk_X10_isDigit rfl (Nat.le_of_ble_eq_true rfl) (Nat.le_refl _) (v := (some (.inl (b2i (F_X10_isDigit a1))))) (σ1 := σ) (lk_X10_isDigit l d (by omega) a1 σ _ rfl) _ rfl ?_
    rcases Decidable.em (¬ (F_X10_isDigit a1) = true) with hc | hc
    · replace h := (if_neg hc).symm.trans h
      have h9 := Option.some.inj h
      subst h9
      exact go_SX (M1 := m_X10_demandArgument) (as := [.inl (b2i (F_X10_isDigit a1))]) (st := []) dc_X10_num_4 ln_10_98 sm_X10_demandArgument rfl mk_X10_demandArgument rfl (Nat.le_of_ble_eq_true rfl) (Nat.le_refl _) (lkX_X10_demandArgument l d hl (by omega) _ hc LAYC σ) _ rfl
    replace hc := Decidable.not_not.mp hc
    replace h := (if_pos hc).symm.trans h
    refine go_S (M1 := m_X10_demandArgument) (as := [.inl (b2i (F_X10_isDigit a1))]) (st := []) dc_X10_num_4 ln_10_98 sm_X10_demandArgument mk_X10_demandArgument rfl (Nat.le_of_ble_eq_true rfl) (Nat.le_refl _) (v := none) (σ1 := σ) (lk_X10_demandArgument l d _ hc _ σ) _ rfl ?_
    refine go_ops ok_X10_num_7_2 (L' := [some (.inr 0), some (.inl a1)]) (st' := [.inr 5]) (σ1 := σ) rfl ?_
    refine go_V (M1 := m_X8_hasRoom) (as := []) (st := []) (k := 5) (ci := 8) dc_X10_num_11 ln_10_125 im_X8_hasRoom (by decide) rfl rfl mk_X8_hasRoom rfl (Nat.le_of_ble_eq_true rfl) (Nat.le_refl _) (v := (some (.inl (b2i (F_X8_hasRoom σ))))) (σ1 := σ) (lk_X8_hasRoom l d (by omega) σ _ rfl) _ rfl ?_
    rcases Decidable.em (¬ (F_X8_hasRoom σ) = true) with hc | hc
    · replace h := (if_neg hc).symm.trans h
      have h9 := Option.some.inj h
      subst h9
      exact go_SX (M1 := m_X10_demandState) (as := [.inl (b2i (F_X8_hasRoom σ))]) (st := []) dc_X10_num_14 ln_10_112 sm_X10_demandState rfl mk_X10_demandState rfl (Nat.le_of_ble_eq_true rfl) (Nat.le_refl _) (lkX_X10_demandState l d hl (by omega) _ hc LAYC σ) _ rfl
    replace hc := Decidable.not_not.mp hc
    replace h := (if_pos hc).symm.trans h
    refine go_S (M1 := m_X10_demandState) (as := [.inl (b2i (F_X8_hasRoom σ))]) (st := []) dc_X10_num_14 ln_10_112 sm_X10_demandState mk_X10_demandState rfl (Nat.le_of_ble_eq_true rfl) (Nat.le_refl _) (v := none) (σ1 := σ) (lk_X10_demandState l d _ hc _ σ) _ rfl ?_
    refine go_ops ok_X10_num_17_7 (L' := [some (.inr 0), some (.inl a1)]) (st' := [.inl (-1), .inl (-1), .inl (-1), .inl a1, .inl 4, .inr 5]) (σ1 := σ) rfl ?_
    obtain ⟨q1, e2, h⟩ := bind_inv h
    refine go_V (M1 := m_X8_keep) (as := [.inl 4, .inl a1, .inl (-1), .inl (-1), .inl (-1)]) (st := []) (k := 5) (ci := 8) dc_X10_num_26 ln_10_129 im_X8_keep (by decide) rfl rfl mk_X8_keep rfl (Nat.le_of_ble_eq_true rfl) (Nat.le_refl _) (v := (some (.inl q1.1))) (σ1 := q1.2) (lk_X8_keep l d (by omega) 4 a1 (-1) (-1) (-1) σ q1 e2) _ rfl ?_
    have h9 := Option.some.inj h
    subst h9
    exact go_iret dc_X10_num_29 rfl
  have hf := go_co (as := [.inr 0, .inl a1]) mk_X10_num (fun _ _ => by decide +kernel) (by rfl) (Nat.le_of_ble_eq_true rfl) key
  exact hf
theorem dc_X10_seq_3 : decode m_X10_seq.2.2.1 3 = .ok (.invokestatic 94, 3) := by decide +kernel
theorem dc_X10_seq_6 : decode m_X10_seq.2.2.1 6 = .ok (.invokestatic 98, 3) := by decide +kernel
theorem dc_X10_seq_15 : decode m_X10_seq.2.2.1 15 = .ok (.if_icmp .ge 47, 3) := by decide +kernel
theorem dc_X10_seq_24 : decode m_X10_seq.2.2.1 24 = .ok (.invokestatic 101, 3) := by decide +kernel
theorem dc_X10_seq_32 : decode m_X10_seq.2.2.1 32 = .ok (.if_icmp .ge 11, 3) := by decide +kernel
theorem dc_X10_seq_37 : decode m_X10_seq.2.2.1 37 = .ok (.invokestatic 122, 3) := by decide +kernel
theorem dc_X10_seq_40 : decode m_X10_seq.2.2.1 40 = .ok (.goto 13, 3) := by decide +kernel
theorem dc_X10_seq_45 : decode m_X10_seq.2.2.1 45 = .ok (.ifCond .ne 7, 3) := by decide +kernel
theorem dc_X10_seq_49 : decode m_X10_seq.2.2.1 49 = .ok (.goto 4, 3) := by decide +kernel
theorem dc_X10_seq_53 : decode m_X10_seq.2.2.1 53 = .ok (.invokestatic 98, 3) := by decide +kernel
theorem dc_X10_seq_59 : decode m_X10_seq.2.2.1 59 = .ok (.goto (-47), 3) := by decide +kernel
theorem dc_X10_seq_66 : decode m_X10_seq.2.2.1 66 = .ok (.invokevirtual 125, 3) := by decide +kernel
theorem dc_X10_seq_69 : decode m_X10_seq.2.2.1 69 = .ok (.invokestatic 112, 3) := by decide +kernel
theorem dc_X10_seq_79 : decode m_X10_seq.2.2.1 79 = .ok (.ifCond .le 7, 3) := by decide +kernel
theorem dc_X10_seq_83 : decode m_X10_seq.2.2.1 83 = .ok (.goto 4, 3) := by decide +kernel
theorem dc_X10_seq_88 : decode m_X10_seq.2.2.1 88 = .ok (.invokestatic 132, 3) := by decide +kernel
theorem dc_X10_seq_93 : decode m_X10_seq.2.2.1 93 = .ok (.if_icmp .le 7, 3) := by decide +kernel
theorem dc_X10_seq_97 : decode m_X10_seq.2.2.1 97 = .ok (.goto 4, 3) := by decide +kernel
theorem dc_X10_seq_102 : decode m_X10_seq.2.2.1 102 = .ok (.invokestatic 132, 3) := by decide +kernel
theorem dc_X10_seq_107 : decode m_X10_seq.2.2.1 107 = .ok (.if_icmp .le 7, 3) := by decide +kernel
theorem dc_X10_seq_111 : decode m_X10_seq.2.2.1 111 = .ok (.goto 4, 3) := by decide +kernel
theorem dc_X10_seq_117 : decode m_X10_seq.2.2.1 117 = .ok (.invokestatic 132, 3) := by decide +kernel
theorem dc_X10_seq_120 : decode m_X10_seq.2.2.1 120 = .ok (.invokevirtual 129, 3) := by decide +kernel
theorem dc_X10_seq_123 : decode m_X10_seq.2.2.1 123 = .ok (.ireturn, 1) := by decide +kernel
theorem ok_X10_seq_0_3 : oks m_X10_seq.1 m_X10_seq.2.2.1 0 [(.iload_n 1, 1, (0, 0, 0)), (.iconst 0, 1, (0, 0, 0)), (.iconst 3, 1, (0, 0, 0))] = true ∧ plen 0 [(.iload_n 1, 1, (0, 0, 0)), (.iconst 0, 1, (0, 0, 0)), (.iconst 3, 1, (0, 0, 0))] = 3 := by decide +kernel
theorem ok_X10_seq_9_2 : oks m_X10_seq.1 m_X10_seq.2.2.1 9 [(.iconst 0, 1, (0, 0, 0)), (.istore 5, 2, (0, 0, 0))] = true ∧ plen 9 [(.iconst 0, 1, (0, 0, 0)), (.istore 5, 2, (0, 0, 0))] = 12 := by decide +kernel
theorem ok_X10_seq_12_2 : oks m_X10_seq.1 m_X10_seq.2.2.1 12 [(.iload 5, 2, (0, 0, 0)), (.iconst 3, 1, (0, 0, 0))] = true ∧ plen 12 [(.iload 5, 2, (0, 0, 0)), (.iconst 3, 1, (0, 0, 0))] = 15 := by decide +kernel
theorem ok_X10_seq_18_4 : oks m_X10_seq.1 m_X10_seq.2.2.1 18 [(.iload 5, 2, (0, 0, 0)), (.iload_n 2, 1, (0, 0, 0)), (.iload_n 3, 1, (0, 0, 0)), (.iload 4, 2, (0, 0, 0))] = true ∧ plen 18 [(.iload 5, 2, (0, 0, 0)), (.iload_n 2, 1, (0, 0, 0)), (.iload_n 3, 1, (0, 0, 0)), (.iload 4, 2, (0, 0, 0))] = 24 := by decide +kernel
theorem ok_X10_seq_27_3 : oks m_X10_seq.1 m_X10_seq.2.2.1 27 [(.istore 6, 2, (0, 0, 0)), (.iload 5, 2, (0, 0, 0)), (.iload_n 1, 1, (0, 0, 0))] = true ∧ plen 27 [(.istore 6, 2, (0, 0, 0)), (.iload 5, 2, (0, 0, 0)), (.iload_n 1, 1, (0, 0, 0))] = 32 := by decide +kernel
theorem ok_X10_seq_35_1 : oks m_X10_seq.1 m_X10_seq.2.2.1 35 [(.iload 6, 2, (0, 0, 0))] = true ∧ plen 35 [(.iload 6, 2, (0, 0, 0))] = 37 := by decide +kernel
theorem ok_X10_seq_43_1 : oks m_X10_seq.1 m_X10_seq.2.2.1 43 [(.iload 6, 2, (0, 0, 0))] = true ∧ plen 43 [(.iload 6, 2, (0, 0, 0))] = 45 := by decide +kernel
theorem ok_X10_seq_48_1 : oks m_X10_seq.1 m_X10_seq.2.2.1 48 [(.iconst 1, 1, (0, 0, 0))] = true ∧ plen 48 [(.iconst 1, 1, (0, 0, 0))] = 49 := by decide +kernel
theorem ok_X10_seq_52_1 : oks m_X10_seq.1 m_X10_seq.2.2.1 52 [(.iconst 0, 1, (0, 0, 0))] = true ∧ plen 52 [(.iconst 0, 1, (0, 0, 0))] = 53 := by decide +kernel
theorem ok_X10_seq_56_1 : oks m_X10_seq.1 m_X10_seq.2.2.1 56 [(.iinc 5 1, 3, (0, 0, 0))] = true ∧ plen 56 [(.iinc 5 1, 3, (0, 0, 0))] = 59 := by decide +kernel
theorem ok_X10_seq_62_2 : oks m_X10_seq.1 m_X10_seq.2.2.1 62 [(.aload_n 0, 1, (0, 0, 0)), (.getfield 19, 3, (10, 1, 0))] = true ∧ plen 62 [(.aload_n 0, 1, (0, 0, 0)), (.getfield 19, 3, (10, 1, 0))] = 66 := by decide +kernel
theorem ok_X10_seq_72_5 : oks m_X10_seq.1 m_X10_seq.2.2.1 72 [(.aload_n 0, 1, (0, 0, 0)), (.getfield 19, 3, (10, 1, 0)), (.iconst 5, 1, (0, 0, 0)), (.iload_n 1, 1, (0, 0, 0)), (.iload_n 1, 1, (0, 0, 0))] = true ∧ plen 72 [(.aload_n 0, 1, (0, 0, 0)), (.getfield 19, 3, (10, 1, 0)), (.iconst 5, 1, (0, 0, 0)), (.iload_n 1, 1, (0, 0, 0)), (.iload_n 1, 1, (0, 0, 0))] = 79 := by decide +kernel
theorem ok_X10_seq_82_1 : oks m_X10_seq.1 m_X10_seq.2.2.1 82 [(.iconst 1, 1, (0, 0, 0))] = true ∧ plen 82 [(.iconst 1, 1, (0, 0, 0))] = 83 := by decide +kernel
theorem ok_X10_seq_86_1 : oks m_X10_seq.1 m_X10_seq.2.2.1 86 [(.iconst 0, 1, (0, 0, 0))] = true ∧ plen 86 [(.iconst 0, 1, (0, 0, 0))] = 87 := by decide +kernel
theorem ok_X10_seq_87_1 : oks m_X10_seq.1 m_X10_seq.2.2.1 87 [(.iload_n 2, 1, (0, 0, 0))] = true ∧ plen 87 [(.iload_n 2, 1, (0, 0, 0))] = 88 := by decide +kernel
theorem ok_X10_seq_91_2 : oks m_X10_seq.1 m_X10_seq.2.2.1 91 [(.iload_n 1, 1, (0, 0, 0)), (.iconst 1, 1, (0, 0, 0))] = true ∧ plen 91 [(.iload_n 1, 1, (0, 0, 0)), (.iconst 1, 1, (0, 0, 0))] = 93 := by decide +kernel
theorem ok_X10_seq_96_1 : oks m_X10_seq.1 m_X10_seq.2.2.1 96 [(.iconst 1, 1, (0, 0, 0))] = true ∧ plen 96 [(.iconst 1, 1, (0, 0, 0))] = 97 := by decide +kernel
theorem ok_X10_seq_100_1 : oks m_X10_seq.1 m_X10_seq.2.2.1 100 [(.iconst 0, 1, (0, 0, 0))] = true ∧ plen 100 [(.iconst 0, 1, (0, 0, 0))] = 101 := by decide +kernel
theorem ok_X10_seq_101_1 : oks m_X10_seq.1 m_X10_seq.2.2.1 101 [(.iload_n 3, 1, (0, 0, 0))] = true ∧ plen 101 [(.iload_n 3, 1, (0, 0, 0))] = 102 := by decide +kernel
theorem ok_X10_seq_105_2 : oks m_X10_seq.1 m_X10_seq.2.2.1 105 [(.iload_n 1, 1, (0, 0, 0)), (.iconst 2, 1, (0, 0, 0))] = true ∧ plen 105 [(.iload_n 1, 1, (0, 0, 0)), (.iconst 2, 1, (0, 0, 0))] = 107 := by decide +kernel
theorem ok_X10_seq_110_1 : oks m_X10_seq.1 m_X10_seq.2.2.1 110 [(.iconst 1, 1, (0, 0, 0))] = true ∧ plen 110 [(.iconst 1, 1, (0, 0, 0))] = 111 := by decide +kernel
theorem ok_X10_seq_114_1 : oks m_X10_seq.1 m_X10_seq.2.2.1 114 [(.iconst 0, 1, (0, 0, 0))] = true ∧ plen 114 [(.iconst 0, 1, (0, 0, 0))] = 115 := by decide +kernel
theorem ok_X10_seq_115_1 : oks m_X10_seq.1 m_X10_seq.2.2.1 115 [(.iload 4, 2, (0, 0, 0))] = true ∧ plen 115 [(.iload 4, 2, (0, 0, 0))] = 117 := by decide +kernel
def B_X10_seq_53 (x5 : Int) (y0 : Bool) (σ : Sg) : Option (Int ⊕ (Unit ⊕ ((Int ⊕ Nat) × Sg))) :=
if y0 = true then
some (.inl (wrap (x5 + 1)))
else some (.inr (.inr (.inr 1, σ)))
def L_X10_seq_12 (x1 : Int) (x2 : Int) (x3 : Int) (x4 : Int) (σ : Sg) (x5 : Int) : Option (Int ⊕ (Unit ⊕ ((Int ⊕ Nat) × Sg))) :=
if 3 ≤ x5 then
some (.inr (.inl ()))
else
bnd (F_X10_pick x5 x2 x3 x4) fun v1 =>
if x1 ≤ x5 then
if v1 = 0 then
B_X10_seq_53 x5 true σ
else
B_X10_seq_53 x5 false σ
else
B_X10_seq_53 x5 (F_X10_isDigit v1) σ
def B_X10_seq_115 (x4 : Int) (y0 : Bool) (y1 : Int) (y2 : Int) (y3 : Int) (y4 : Int) (σ : Sg) : Option ((Int ⊕ Nat) × Sg) :=
(F_X8_keep y4 y3 y2 y1 (F_X8_digit y0 x4) σ).bind fun q7 =>
some (.inl q7.1, q7.2)
def B_X10_seq_101 (x1 : Int) (x3 : Int) (x4 : Int) (y0 : Bool) (y1 : Int) (y2 : Int) (y3 : Int) (σ : Sg) : Option ((Int ⊕ Nat) × Sg) :=
if x1 ≤ 2 then
B_X10_seq_115 x4 false (F_X8_digit y0 x3) y1 y2 y3 σ
else
B_X10_seq_115 x4 true (F_X8_digit y0 x3) y1 y2 y3 σ
def B_X10_seq_87 (x1 : Int) (x2 : Int) (x3 : Int) (x4 : Int) (y0 : Bool) (y1 : Int) (y2 : Int) (σ : Sg) : Option ((Int ⊕ Nat) × Sg) :=
if x1 ≤ 1 then
B_X10_seq_101 x1 x3 x4 false (F_X8_digit y0 x2) y1 y2 σ
else
B_X10_seq_101 x1 x3 x4 true (F_X8_digit y0 x2) y1 y2 σ
def F_X10_seq (a1 : Int) (a2 : Int) (a3 : Int) (a4 : Int) (σ : Sg) : Option ((Int ⊕ Nat) × Sg) :=
if (F_X10_isIn a1 0 3) = true then
(iter (fun a : Int => L_X10_seq_12 a1 a2 a3 a4 σ a) 4 0).bind fun y3 => Sum.elim (fun z5 =>
if (F_X8_hasRoom σ) = true then
if a1 ≤ 0 then
B_X10_seq_87 a1 a2 a3 a4 false a1 5 σ
else
B_X10_seq_87 a1 a2 a3 a4 true a1 5 σ
else some (.inr 2, σ)) (fun r6 => some r6) y3
else some (.inr 1, σ)
theorem lk_X10_seq (l : Launch) (hl : l.stackTraces = false) (d : Nat) (hd : 7 ≤ d) (a1 : Int) (a2 : Int) (a3 : Int) (a4 : Int) (σ : Sg) (q : ((Int ⊕ Nat) × Sg)) (h : F_X10_seq a1 a2 a3 a4 σ = some q) : outZ (ozI q.1) l d m_X10_seq.2.1 m_X10_seq.2.2.1 m_X10_seq.2.2.2.1 m_X10_seq.2.2.2.2 [.inr 0, .inl a1, .inl a2, .inl a3, .inl a4] (LAYC, σ) (LAYC, q.2) := by
  obtain ⟨d, rfl⟩ : ∃ e, d = e + 1 := ⟨d - 1, by omega⟩
  have key : Go l m_X10_seq (d + 1) LAYC (ozI q.1) q.2 0 [some (.inr 0), some (.inl a1), some (.inl a2), some (.inl a3), some (.inl a4), none, none] [] σ := by
    unfold F_X10_seq at h
    have hL_X10_seq_12 : ∀ (x1 : Int) (x2 : Int) (x3 : Int) (x4 : Int) (σ : Sg) (n : Nat) (a : Int) (y : (Unit ⊕ ((Int ⊕ Nat) × Sg))), iter (fun a : Int => L_X10_seq_12 x1 x2 x3 x4 σ a) n a = some y → (Sum.elim (fun y : Unit => Go l m_X10_seq (d + 1) LAYC (ozI q.1) q.2 62 [some (.inr 0), some (.inl x1), some (.inl x2), some (.inl x3), some (.inl x4), none, none] [] σ) (fun r : ((Int ⊕ Nat) × Sg) => r = q)) y → (fun a : Int => Go l m_X10_seq (d + 1) LAYC (ozI q.1) q.2 12 [some (.inr 0), some (.inl x1), some (.inl x2), some (.inl x3), some (.inl x4), some (.inl a), none] [] σ) a := by
      intro x1 x2 x3 x4 σ
      refine go_iter (G := fun a : Int => Go l m_X10_seq (d + 1) LAYC (ozI q.1) q.2 12 [some (.inr 0), some (.inl x1), some (.inl x2), some (.inl x3), some (.inl x4), some (.inl a), none] [] σ) (K := Sum.elim (fun y : Unit => Go l m_X10_seq (d + 1) LAYC (ozI q.1) q.2 62 [some (.inr 0), some (.inl x1), some (.inl x2), some (.inl x3), some (.inl x4), none, none] [] σ) (fun r : ((Int ⊕ Nat) × Sg) => r = q)) ?_
      rintro x5 w h hK
      replace h : L_X10_seq_12 x1 x2 x3 x4 σ x5 = some w := h
      show Go l m_X10_seq (d + 1) LAYC (ozI q.1) q.2 12 [some (.inr 0), some (.inl x1), some (.inl x2), some (.inl x3), some (.inl x4), some (.inl x5), none] [] σ
      unfold L_X10_seq_12 at h
      have hB_X10_seq_53 : ∀ (x5 : Int) (y0 : Bool), B_X10_seq_53 x5 y0 σ = some w → Go l m_X10_seq (d + 1) LAYC (ozI q.1) q.2 53 [some (.inr 0), some (.inl x1), some (.inl x2), some (.inl x3), some (.inl x4), some (.inl x5), none] [.inl (b2i y0)] σ := by
        intro x5 y0 h
        unfold B_X10_seq_53 at h
        rcases Decidable.em (¬ y0 = true) with hc | hc
        · replace h := (if_neg hc).symm.trans h
          cases h
          have hK2 : _ = q := hK
          subst hK2
          exact go_SX (M1 := m_X10_demandArgument) (as := [.inl (b2i y0)]) (st := []) dc_X10_seq_53 ln_10_98 sm_X10_demandArgument rfl mk_X10_demandArgument rfl (Nat.le_of_ble_eq_true rfl) (Nat.le_refl _) (lkX_X10_demandArgument l d hl (by omega) _ hc LAYC σ) _ rfl
        replace hc := Decidable.not_not.mp hc
        replace h := (if_pos hc).symm.trans h
        refine go_S (M1 := m_X10_demandArgument) (as := [.inl (b2i y0)]) (st := []) dc_X10_seq_53 ln_10_98 sm_X10_demandArgument mk_X10_demandArgument rfl (Nat.le_of_ble_eq_true rfl) (Nat.le_refl _) (v := none) (σ1 := σ) (lk_X10_demandArgument l d _ hc _ σ) _ rfl ?_
        refine go_ops ok_X10_seq_56_1 (L' := [some (.inr 0), some (.inl x1), some (.inl x2), some (.inl x3), some (.inl x4), some (.inl (wrap (x5 + 1))), none]) (st' := []) (σ1 := σ) rfl ?_
        refine go_goto dc_X10_seq_59 (by rfl) ?_
        cases h
        exact hK
      refine go_ops ok_X10_seq_12_2 (L' := [some (.inr 0), some (.inl x1), some (.inl x2), some (.inl x3), some (.inl x4), some (.inl x5), none]) (st' := [.inl 3, .inl x5]) (σ1 := σ) rfl ?_
      refine go_icmp_ge dc_X10_seq_15 (by rfl) (fun hc => ?_) (fun hc => ?_)
      · replace h := (if_pos hc).symm.trans h
        cases h
        refine go_wk (L' := [some (.inr 0), some (.inl x1), some (.inl x2), some (.inl x3), some (.inl x4), none, none]) ⟨rfl, rfl, rfl, rfl, rfl, trivial⟩ ?_
        exact hK
      · replace h := (if_neg hc).symm.trans h
        refine go_ops ok_X10_seq_18_4 (L' := [some (.inr 0), some (.inl x1), some (.inl x2), some (.inl x3), some (.inl x4), some (.inl x5), none]) (st' := [.inl x4, .inl x3, .inl x2, .inl x5]) (σ1 := σ) rfl ?_
        refine go_S (M1 := m_X10_pick) (as := [.inl x5, .inl x2, .inl x3, .inl x4]) (st := []) dc_X10_seq_24 ln_10_101 sm_X10_pick mk_X10_pick rfl (Nat.le_of_ble_eq_true rfl) (Nat.le_refl _) (v := (some (.inl (F_X10_pick x5 x2 x3 x4)))) (σ1 := σ) (lk_X10_pick l d (by omega) x5 x2 x3 x4 σ _ rfl) _ rfl ?_
        obtain ⟨v1, e2, h⟩ := bnd_inv h
        refine go_ops ok_X10_seq_27_3 (L' := [some (.inr 0), some (.inl x1), some (.inl x2), some (.inl x3), some (.inl x4), some (.inl x5), some (.inl v1)]) (st' := [.inl x1, .inl x5]) (σ1 := σ) (by subst e2; rfl) ?_
        refine go_icmp_ge dc_X10_seq_32 (by rfl) (fun hc => ?_) (fun hc => ?_)
        · replace h := (if_pos hc).symm.trans h
          refine go_ops ok_X10_seq_43_1 (L' := [some (.inr 0), some (.inl x1), some (.inl x2), some (.inl x3), some (.inl x4), some (.inl x5), some (.inl v1)]) (st' := [.inl v1]) (σ1 := σ) rfl ?_
          refine go_if_ne dc_X10_seq_45 (by rfl) (fun hc => ?_) (fun hc => ?_)
          · replace h := (if_neg hc).symm.trans h
            refine go_ops ok_X10_seq_52_1 (L' := [some (.inr 0), some (.inl x1), some (.inl x2), some (.inl x3), some (.inl x4), some (.inl x5), some (.inl v1)]) (st' := [.inl 0]) (σ1 := σ) rfl ?_
            refine go_wk (L' := [some (.inr 0), some (.inl x1), some (.inl x2), some (.inl x3), some (.inl x4), some (.inl x5), none]) ⟨rfl, rfl, rfl, rfl, rfl, rfl, trivial⟩ ?_
            exact hB_X10_seq_53 x5 false h
          · replace h := (if_pos hc).symm.trans h
            refine go_ops ok_X10_seq_48_1 (L' := [some (.inr 0), some (.inl x1), some (.inl x2), some (.inl x3), some (.inl x4), some (.inl x5), some (.inl v1)]) (st' := [.inl 1]) (σ1 := σ) rfl ?_
            refine go_goto dc_X10_seq_49 (by rfl) ?_
            refine go_wk (L' := [some (.inr 0), some (.inl x1), some (.inl x2), some (.inl x3), some (.inl x4), some (.inl x5), none]) ⟨rfl, rfl, rfl, rfl, rfl, rfl, trivial⟩ ?_
            exact hB_X10_seq_53 x5 true h
        · replace h := (if_neg hc).symm.trans h
          refine go_ops ok_X10_seq_35_1 (L' := [some (.inr 0), some (.inl x1), some (.inl x2), some (.inl x3), some (.inl x4), some (.inl x5), some (.inl v1)]) (st' := [.inl v1]) (σ1 := σ) rfl ?_
          refine go_S (M1 := m_X10_isDigit) (as := [.inl v1]) (st := []) dc_X10_seq_37 ln_10_122 sm_X10_isDigit mk_X10_isDigit rfl (Nat.le_of_ble_eq_true rfl) (Nat.le_refl _) (v := (some (.inl (b2i (F_X10_isDigit v1))))) (σ1 := σ) (lk_X10_isDigit l d (by omega) v1 σ _ rfl) _ rfl ?_
          refine go_goto dc_X10_seq_40 (by rfl) ?_
          refine go_wk (L' := [some (.inr 0), some (.inl x1), some (.inl x2), some (.inl x3), some (.inl x4), some (.inl x5), none]) ⟨rfl, rfl, rfl, rfl, rfl, rfl, trivial⟩ ?_
          exact hB_X10_seq_53 x5 (F_X10_isDigit v1) h
    have hB_X10_seq_115 : ∀ (x4 : Int) (y0 : Bool) (y1 : Int) (y2 : Int) (y3 : Int) (y4 : Int) (σ : Sg), B_X10_seq_115 x4 y0 y1 y2 y3 y4 σ = some q → Go l m_X10_seq (d + 1) LAYC (ozI q.1) q.2 115 [none, none, none, none, some (.inl x4), none, none] [.inl (b2i y0), .inl y1, .inl y2, .inl y3, .inl y4, .inr 5] σ := by
      intro x4 y0 y1 y2 y3 y4 σ h
      unfold B_X10_seq_115 at h
      refine go_ops ok_X10_seq_115_1 (L' := [none, none, none, none, some (.inl x4), none, none]) (st' := [.inl x4, .inl (b2i y0), .inl y1, .inl y2, .inl y3, .inl y4, .inr 5]) (σ1 := σ) rfl ?_
      refine go_S (M1 := m_X8_digit) (as := [.inl (b2i y0), .inl x4]) (st := [.inl y1, .inl y2, .inl y3, .inl y4, .inr 5]) dc_X10_seq_117 ln_10_132 sm_X8_digit mk_X8_digit rfl (Nat.le_of_ble_eq_true rfl) (Nat.le_refl _) (v := (some (.inl (F_X8_digit y0 x4)))) (σ1 := σ) (lk_X8_digit l d (by omega) y0 x4 σ _ rfl) _ rfl ?_
      obtain ⟨q7, e8, h⟩ := bind_inv h
      refine go_V (M1 := m_X8_keep) (as := [.inl y4, .inl y3, .inl y2, .inl y1, .inl (F_X8_digit y0 x4)]) (st := []) (k := 5) (ci := 8) dc_X10_seq_120 ln_10_129 im_X8_keep (by decide) rfl rfl mk_X8_keep rfl (Nat.le_of_ble_eq_true rfl) (Nat.le_refl _) (v := (some (.inl q7.1))) (σ1 := q7.2) (lk_X8_keep l d (by omega) y4 y3 y2 y1 (F_X8_digit y0 x4) σ q7 e8) _ rfl ?_
      have h9 := Option.some.inj h
      subst h9
      exact go_iret dc_X10_seq_123 rfl
    have hB_X10_seq_101 : ∀ (x1 : Int) (x3 : Int) (x4 : Int) (y0 : Bool) (y1 : Int) (y2 : Int) (y3 : Int) (σ : Sg), B_X10_seq_101 x1 x3 x4 y0 y1 y2 y3 σ = some q → Go l m_X10_seq (d + 1) LAYC (ozI q.1) q.2 101 [none, some (.inl x1), none, some (.inl x3), some (.inl x4), none, none] [.inl (b2i y0), .inl y1, .inl y2, .inl y3, .inr 5] σ := by
      intro x1 x3 x4 y0 y1 y2 y3 σ h
      unfold B_X10_seq_101 at h
      refine go_ops ok_X10_seq_101_1 (L' := [none, some (.inl x1), none, some (.inl x3), some (.inl x4), none, none]) (st' := [.inl x3, .inl (b2i y0), .inl y1, .inl y2, .inl y3, .inr 5]) (σ1 := σ) rfl ?_
      refine go_S (M1 := m_X8_digit) (as := [.inl (b2i y0), .inl x3]) (st := [.inl y1, .inl y2, .inl y3, .inr 5]) dc_X10_seq_102 ln_10_132 sm_X8_digit mk_X8_digit rfl (Nat.le_of_ble_eq_true rfl) (Nat.le_refl _) (v := (some (.inl (F_X8_digit y0 x3)))) (σ1 := σ) (lk_X8_digit l d (by omega) y0 x3 σ _ rfl) _ rfl ?_
      refine go_ops ok_X10_seq_105_2 (L' := [none, some (.inl x1), none, some (.inl x3), some (.inl x4), none, none]) (st' := [.inl 2, .inl x1, .inl (F_X8_digit y0 x3), .inl y1, .inl y2, .inl y3, .inr 5]) (σ1 := σ) rfl ?_
      refine go_icmp_le dc_X10_seq_107 (by rfl) (fun hc => ?_) (fun hc => ?_)
      · replace h := (if_pos hc).symm.trans h
        refine go_ops ok_X10_seq_114_1 (L' := [none, some (.inl x1), none, some (.inl x3), some (.inl x4), none, none]) (st' := [.inl 0, .inl (F_X8_digit y0 x3), .inl y1, .inl y2, .inl y3, .inr 5]) (σ1 := σ) rfl ?_
        refine go_wk (L' := [none, none, none, none, some (.inl x4), none, none]) ⟨rfl, trivial⟩ ?_
        exact hB_X10_seq_115 x4 false (F_X8_digit y0 x3) y1 y2 y3 σ h
      · replace h := (if_neg hc).symm.trans h
        refine go_ops ok_X10_seq_110_1 (L' := [none, some (.inl x1), none, some (.inl x3), some (.inl x4), none, none]) (st' := [.inl 1, .inl (F_X8_digit y0 x3), .inl y1, .inl y2, .inl y3, .inr 5]) (σ1 := σ) rfl ?_
        refine go_goto dc_X10_seq_111 (by rfl) ?_
        refine go_wk (L' := [none, none, none, none, some (.inl x4), none, none]) ⟨rfl, trivial⟩ ?_
        exact hB_X10_seq_115 x4 true (F_X8_digit y0 x3) y1 y2 y3 σ h
    have hB_X10_seq_87 : ∀ (x1 : Int) (x2 : Int) (x3 : Int) (x4 : Int) (y0 : Bool) (y1 : Int) (y2 : Int) (σ : Sg), B_X10_seq_87 x1 x2 x3 x4 y0 y1 y2 σ = some q → Go l m_X10_seq (d + 1) LAYC (ozI q.1) q.2 87 [none, some (.inl x1), some (.inl x2), some (.inl x3), some (.inl x4), none, none] [.inl (b2i y0), .inl y1, .inl y2, .inr 5] σ := by
      intro x1 x2 x3 x4 y0 y1 y2 σ h
      unfold B_X10_seq_87 at h
      refine go_ops ok_X10_seq_87_1 (L' := [none, some (.inl x1), some (.inl x2), some (.inl x3), some (.inl x4), none, none]) (st' := [.inl x2, .inl (b2i y0), .inl y1, .inl y2, .inr 5]) (σ1 := σ) rfl ?_
      refine go_S (M1 := m_X8_digit) (as := [.inl (b2i y0), .inl x2]) (st := [.inl y1, .inl y2, .inr 5]) dc_X10_seq_88 ln_10_132 sm_X8_digit mk_X8_digit rfl (Nat.le_of_ble_eq_true rfl) (Nat.le_refl _) (v := (some (.inl (F_X8_digit y0 x2)))) (σ1 := σ) (lk_X8_digit l d (by omega) y0 x2 σ _ rfl) _ rfl ?_
      refine go_ops ok_X10_seq_91_2 (L' := [none, some (.inl x1), some (.inl x2), some (.inl x3), some (.inl x4), none, none]) (st' := [.inl 1, .inl x1, .inl (F_X8_digit y0 x2), .inl y1, .inl y2, .inr 5]) (σ1 := σ) rfl ?_
      refine go_icmp_le dc_X10_seq_93 (by rfl) (fun hc => ?_) (fun hc => ?_)
      · replace h := (if_pos hc).symm.trans h
        refine go_ops ok_X10_seq_100_1 (L' := [none, some (.inl x1), some (.inl x2), some (.inl x3), some (.inl x4), none, none]) (st' := [.inl 0, .inl (F_X8_digit y0 x2), .inl y1, .inl y2, .inr 5]) (σ1 := σ) rfl ?_
        refine go_wk (L' := [none, some (.inl x1), none, some (.inl x3), some (.inl x4), none, none]) ⟨rfl, rfl, rfl, trivial⟩ ?_
        exact hB_X10_seq_101 x1 x3 x4 false (F_X8_digit y0 x2) y1 y2 σ h
      · replace h := (if_neg hc).symm.trans h
        refine go_ops ok_X10_seq_96_1 (L' := [none, some (.inl x1), some (.inl x2), some (.inl x3), some (.inl x4), none, none]) (st' := [.inl 1, .inl (F_X8_digit y0 x2), .inl y1, .inl y2, .inr 5]) (σ1 := σ) rfl ?_
        refine go_goto dc_X10_seq_97 (by rfl) ?_
        refine go_wk (L' := [none, some (.inl x1), none, some (.inl x3), some (.inl x4), none, none]) ⟨rfl, rfl, rfl, trivial⟩ ?_
        exact hB_X10_seq_101 x1 x3 x4 true (F_X8_digit y0 x2) y1 y2 σ h
    refine go_ops ok_X10_seq_0_3 (L' := [some (.inr 0), some (.inl a1), some (.inl a2), some (.inl a3), some (.inl a4), none, none]) (st' := [.inl 3, .inl 0, .inl a1]) (σ1 := σ) rfl ?_
    refine go_S (M1 := m_X10_isIn) (as := [.inl a1, .inl 0, .inl 3]) (st := []) dc_X10_seq_3 ln_10_94 sm_X10_isIn mk_X10_isIn rfl (Nat.le_of_ble_eq_true rfl) (Nat.le_refl _) (v := (some (.inl (b2i (F_X10_isIn a1 0 3))))) (σ1 := σ) (lk_X10_isIn l d (by omega) a1 0 3 σ _ rfl) _ rfl ?_
    rcases Decidable.em (¬ (F_X10_isIn a1 0 3) = true) with hc | hc
    · replace h := (if_neg hc).symm.trans h
      have h9 := Option.some.inj h
      subst h9
      exact go_SX (M1 := m_X10_demandArgument) (as := [.inl (b2i (F_X10_isIn a1 0 3))]) (st := []) dc_X10_seq_6 ln_10_98 sm_X10_demandArgument rfl mk_X10_demandArgument rfl (Nat.le_of_ble_eq_true rfl) (Nat.le_refl _) (lkX_X10_demandArgument l d hl (by omega) _ hc LAYC σ) _ rfl
    replace hc := Decidable.not_not.mp hc
    replace h := (if_pos hc).symm.trans h
    refine go_S (M1 := m_X10_demandArgument) (as := [.inl (b2i (F_X10_isIn a1 0 3))]) (st := []) dc_X10_seq_6 ln_10_98 sm_X10_demandArgument mk_X10_demandArgument rfl (Nat.le_of_ble_eq_true rfl) (Nat.le_refl _) (v := none) (σ1 := σ) (lk_X10_demandArgument l d _ hc _ σ) _ rfl ?_
    refine go_ops ok_X10_seq_9_2 (L' := [some (.inr 0), some (.inl a1), some (.inl a2), some (.inl a3), some (.inl a4), some (.inl 0), none]) (st' := []) (σ1 := σ) rfl ?_
    obtain ⟨y3, e4, h⟩ := bind_inv h
    refine hL_X10_seq_12 a1 a2 a3 a4 σ 4 0 y3 e4 ?_
    rcases y3 with z5 | r6
    rotate_left
    · show r6 = q
      cases h; rfl
    show Go l m_X10_seq (d + 1) LAYC (ozI q.1) q.2 62 [some (.inr 0), some (.inl a1), some (.inl a2), some (.inl a3), some (.inl a4), none, none] [] σ
    rw [Sum.elim_inl] at h
    refine go_ops ok_X10_seq_62_2 (L' := [some (.inr 0), some (.inl a1), some (.inl a2), some (.inl a3), some (.inl a4), none, none]) (st' := [.inr 5]) (σ1 := σ) rfl ?_
    refine go_V (M1 := m_X8_hasRoom) (as := []) (st := []) (k := 5) (ci := 8) dc_X10_seq_66 ln_10_125 im_X8_hasRoom (by decide) rfl rfl mk_X8_hasRoom rfl (Nat.le_of_ble_eq_true rfl) (Nat.le_refl _) (v := (some (.inl (b2i (F_X8_hasRoom σ))))) (σ1 := σ) (lk_X8_hasRoom l d (by omega) σ _ rfl) _ rfl ?_
    rcases Decidable.em (¬ (F_X8_hasRoom σ) = true) with hc | hc
    · replace h := (if_neg hc).symm.trans h
      have h9 := Option.some.inj h
      subst h9
      exact go_SX (M1 := m_X10_demandState) (as := [.inl (b2i (F_X8_hasRoom σ))]) (st := []) dc_X10_seq_69 ln_10_112 sm_X10_demandState rfl mk_X10_demandState rfl (Nat.le_of_ble_eq_true rfl) (Nat.le_refl _) (lkX_X10_demandState l d hl (by omega) _ hc LAYC σ) _ rfl
    replace hc := Decidable.not_not.mp hc
    replace h := (if_pos hc).symm.trans h
    refine go_S (M1 := m_X10_demandState) (as := [.inl (b2i (F_X8_hasRoom σ))]) (st := []) dc_X10_seq_69 ln_10_112 sm_X10_demandState mk_X10_demandState rfl (Nat.le_of_ble_eq_true rfl) (Nat.le_refl _) (v := none) (σ1 := σ) (lk_X10_demandState l d _ hc _ σ) _ rfl ?_
    refine go_ops ok_X10_seq_72_5 (L' := [some (.inr 0), some (.inl a1), some (.inl a2), some (.inl a3), some (.inl a4), none, none]) (st' := [.inl a1, .inl a1, .inl 5, .inr 5]) (σ1 := σ) rfl ?_
    refine go_if_le dc_X10_seq_79 (by rfl) (fun hc => ?_) (fun hc => ?_)
    · replace h := (if_pos hc).symm.trans h
      refine go_ops ok_X10_seq_86_1 (L' := [some (.inr 0), some (.inl a1), some (.inl a2), some (.inl a3), some (.inl a4), none, none]) (st' := [.inl 0, .inl a1, .inl 5, .inr 5]) (σ1 := σ) rfl ?_
      refine go_wk (L' := [none, some (.inl a1), some (.inl a2), some (.inl a3), some (.inl a4), none, none]) ⟨rfl, rfl, rfl, rfl, trivial⟩ ?_
      exact hB_X10_seq_87 a1 a2 a3 a4 false a1 5 σ h
    · replace h := (if_neg hc).symm.trans h
      refine go_ops ok_X10_seq_82_1 (L' := [some (.inr 0), some (.inl a1), some (.inl a2), some (.inl a3), some (.inl a4), none, none]) (st' := [.inl 1, .inl a1, .inl 5, .inr 5]) (σ1 := σ) rfl ?_
      refine go_goto dc_X10_seq_83 (by rfl) ?_
      refine go_wk (L' := [none, some (.inl a1), some (.inl a2), some (.inl a3), some (.inl a4), none, none]) ⟨rfl, rfl, rfl, rfl, trivial⟩ ?_
      exact hB_X10_seq_87 a1 a2 a3 a4 true a1 5 σ h
  have hf := go_co (as := [.inr 0, .inl a1, .inl a2, .inl a3, .inl a4]) mk_X10_seq (fun _ _ => by decide +kernel) (by rfl) (Nat.le_of_ble_eq_true rfl) key
  exact hf
theorem dc_X10_demandValues_6 : decode m_X10_demandValues.2.2.1 6 = .ok (.if_icmp .ge 28, 3) := by decide +kernel
theorem dc_X10_demandValues_19 : decode m_X10_demandValues.2.2.1 19 = .ok (.invokestatic 101, 3) := by decide +kernel
theorem dc_X10_demandValues_22 : decode m_X10_demandValues.2.2.1 22 = .ok (.invokevirtual 313, 3) := by decide +kernel
theorem dc_X10_demandValues_25 : decode m_X10_demandValues.2.2.1 25 = .ok (.invokestatic 90, 3) := by decide +kernel
theorem dc_X10_demandValues_31 : decode m_X10_demandValues.2.2.1 31 = .ok (.goto (-28), 3) := by decide +kernel
theorem dc_X10_demandValues_34 : decode m_X10_demandValues.2.2.1 34 = .ok (.return_, 1) := by decide +kernel
theorem ok_X10_demandValues_0_2 : oks m_X10_demandValues.1 m_X10_demandValues.2.2.1 0 [(.iconst 0, 1, (0, 0, 0)), (.istore 5, 2, (0, 0, 0))] = true ∧ plen 0 [(.iconst 0, 1, (0, 0, 0)), (.istore 5, 2, (0, 0, 0))] = 3 := by decide +kernel
theorem ok_X10_demandValues_3_2 : oks m_X10_demandValues.1 m_X10_demandValues.2.2.1 3 [(.iload 5, 2, (0, 0, 0)), (.iload_n 1, 1, (0, 0, 0))] = true ∧ plen 3 [(.iload 5, 2, (0, 0, 0)), (.iload_n 1, 1, (0, 0, 0))] = 6 := by decide +kernel
theorem ok_X10_demandValues_9_6 : oks m_X10_demandValues.1 m_X10_demandValues.2.2.1 9 [(.aload_n 0, 1, (0, 0, 0)), (.getfield 19, 3, (10, 1, 0)), (.iload 5, 2, (0, 0, 0)), (.iload_n 2, 1, (0, 0, 0)), (.iload_n 3, 1, (0, 0, 0)), (.iload 4, 2, (0, 0, 0))] = true ∧ plen 9 [(.aload_n 0, 1, (0, 0, 0)), (.getfield 19, 3, (10, 1, 0)), (.iload 5, 2, (0, 0, 0)), (.iload_n 2, 1, (0, 0, 0)), (.iload_n 3, 1, (0, 0, 0)), (.iload 4, 2, (0, 0, 0))] = 19 := by decide +kernel
theorem ok_X10_demandValues_28_1 : oks m_X10_demandValues.1 m_X10_demandValues.2.2.1 28 [(.iinc 5 1, 3, (0, 0, 0))] = true ∧ plen 28 [(.iinc 5 1, 3, (0, 0, 0))] = 31 := by decide +kernel
def L_X10_demandValues_3 (x1 : Int) (x2 : Int) (x3 : Int) (x4 : Int) (σ : Sg) (x5 : Int) : Option (Int ⊕ (Unit ⊕ ((Unit ⊕ Nat) × Sg))) :=
if x1 ≤ x5 then
some (.inr (.inl ()))
else
if (F_X8_isThere (F_X10_pick x5 x2 x3 x4) σ) = true then
some (.inl (wrap (x5 + 1)))
else some (.inr (.inr (.inr 0, σ)))
def F_X10_demandValues (a1 : Int) (a2 : Int) (a3 : Int) (a4 : Int) (σ : Sg) : Option ((Unit ⊕ Nat) × Sg) :=
(iter (fun a : Int => L_X10_demandValues_3 a1 a2 a3 a4 σ a) 3000 0).bind fun y1 => Sum.elim (fun z3 =>
some (.inl (), σ)) (fun r4 => some r4) y1
theorem lk_X10_demandValues (l : Launch) (hl : l.stackTraces = false) (d : Nat) (hd : 7 ≤ d) (a1 : Int) (a2 : Int) (a3 : Int) (a4 : Int) (σ : Sg) (q : ((Unit ⊕ Nat) × Sg)) (h : F_X10_demandValues a1 a2 a3 a4 σ = some q) : outZ (ozU q.1) l d m_X10_demandValues.2.1 m_X10_demandValues.2.2.1 m_X10_demandValues.2.2.2.1 m_X10_demandValues.2.2.2.2 [.inr 0, .inl a1, .inl a2, .inl a3, .inl a4] (LAYC, σ) (LAYC, q.2) := by
  obtain ⟨d, rfl⟩ : ∃ e, d = e + 1 := ⟨d - 1, by omega⟩
  have key : Go l m_X10_demandValues (d + 1) LAYC (ozU q.1) q.2 0 [some (.inr 0), some (.inl a1), some (.inl a2), some (.inl a3), some (.inl a4), none] [] σ := by
    unfold F_X10_demandValues at h
    have hL_X10_demandValues_3 : ∀ (x1 : Int) (x2 : Int) (x3 : Int) (x4 : Int) (σ : Sg) (n : Nat) (a : Int) (y : (Unit ⊕ ((Unit ⊕ Nat) × Sg))), iter (fun a : Int => L_X10_demandValues_3 x1 x2 x3 x4 σ a) n a = some y → (Sum.elim (fun y : Unit => Go l m_X10_demandValues (d + 1) LAYC (ozU q.1) q.2 34 [none, none, none, none, none, none] [] σ) (fun r : ((Unit ⊕ Nat) × Sg) => r = q)) y → (fun a : Int => Go l m_X10_demandValues (d + 1) LAYC (ozU q.1) q.2 3 [some (.inr 0), some (.inl x1), some (.inl x2), some (.inl x3), some (.inl x4), some (.inl a)] [] σ) a := by
      intro x1 x2 x3 x4 σ
      refine go_iter (G := fun a : Int => Go l m_X10_demandValues (d + 1) LAYC (ozU q.1) q.2 3 [some (.inr 0), some (.inl x1), some (.inl x2), some (.inl x3), some (.inl x4), some (.inl a)] [] σ) (K := Sum.elim (fun y : Unit => Go l m_X10_demandValues (d + 1) LAYC (ozU q.1) q.2 34 [none, none, none, none, none, none] [] σ) (fun r : ((Unit ⊕ Nat) × Sg) => r = q)) ?_
      rintro x5 w h hK
      replace h : L_X10_demandValues_3 x1 x2 x3 x4 σ x5 = some w := h
      show Go l m_X10_demandValues (d + 1) LAYC (ozU q.1) q.2 3 [some (.inr 0), some (.inl x1), some (.inl x2), some (.inl x3), some (.inl x4), some (.inl x5)] [] σ
      unfold L_X10_demandValues_3 at h
      refine go_ops ok_X10_demandValues_3_2 (L' := [some (.inr 0), some (.inl x1), some (.inl x2), some (.inl x3), some (.inl x4), some (.inl x5)]) (st' := [.inl x1, .inl x5]) (σ1 := σ) rfl ?_
      refine go_icmp_ge dc_X10_demandValues_6 (by rfl) (fun hc => ?_) (fun hc => ?_)
      · replace h := (if_pos hc).symm.trans h
        cases h
        refine go_wk (L' := [none, none, none, none, none, none]) trivial ?_
        exact hK
      · replace h := (if_neg hc).symm.trans h
        refine go_ops ok_X10_demandValues_9_6 (L' := [some (.inr 0), some (.inl x1), some (.inl x2), some (.inl x3), some (.inl x4), some (.inl x5)]) (st' := [.inl x4, .inl x3, .inl x2, .inl x5, .inr 5]) (σ1 := σ) rfl ?_
        refine go_S (M1 := m_X10_pick) (as := [.inl x5, .inl x2, .inl x3, .inl x4]) (st := [.inr 5]) dc_X10_demandValues_19 ln_10_101 sm_X10_pick mk_X10_pick rfl (Nat.le_of_ble_eq_true rfl) (Nat.le_refl _) (v := (some (.inl (F_X10_pick x5 x2 x3 x4)))) (σ1 := σ) (lk_X10_pick l d (by omega) x5 x2 x3 x4 σ _ rfl) _ rfl ?_
        refine go_V (M1 := m_X8_isThere) (as := [.inl (F_X10_pick x5 x2 x3 x4)]) (st := []) (k := 5) (ci := 8) dc_X10_demandValues_22 ln_10_313 im_X8_isThere (by decide) rfl rfl mk_X8_isThere rfl (Nat.le_of_ble_eq_true rfl) (Nat.le_refl _) (v := (some (.inl (b2i (F_X8_isThere (F_X10_pick x5 x2 x3 x4) σ))))) (σ1 := σ) (lk_X8_isThere l d (by omega) (F_X10_pick x5 x2 x3 x4) σ _ rfl) _ rfl ?_
        rcases Decidable.em (¬ (F_X8_isThere (F_X10_pick x5 x2 x3 x4) σ) = true) with hc | hc
        · replace h := (if_neg hc).symm.trans h
          cases h
          have hK2 : _ = q := hK
          subst hK2
          exact go_SX (M1 := m_X10_demandIndex) (as := [.inl (b2i (F_X8_isThere (F_X10_pick x5 x2 x3 x4) σ))]) (st := []) dc_X10_demandValues_25 ln_10_90 sm_X10_demandIndex rfl mk_X10_demandIndex rfl (Nat.le_of_ble_eq_true rfl) (Nat.le_refl _) (lkX_X10_demandIndex l d hl (by omega) _ hc LAYC σ) _ rfl
        replace hc := Decidable.not_not.mp hc
        replace h := (if_pos hc).symm.trans h
        refine go_S (M1 := m_X10_demandIndex) (as := [.inl (b2i (F_X8_isThere (F_X10_pick x5 x2 x3 x4) σ))]) (st := []) dc_X10_demandValues_25 ln_10_90 sm_X10_demandIndex mk_X10_demandIndex rfl (Nat.le_of_ble_eq_true rfl) (Nat.le_refl _) (v := none) (σ1 := σ) (lk_X10_demandIndex l d _ hc _ σ) _ rfl ?_
        refine go_ops ok_X10_demandValues_28_1 (L' := [some (.inr 0), some (.inl x1), some (.inl x2), some (.inl x3), some (.inl x4), some (.inl (wrap (x5 + 1)))]) (st' := []) (σ1 := σ) rfl ?_
        refine go_goto dc_X10_demandValues_31 (by rfl) ?_
        cases h
        exact hK
    refine go_ops ok_X10_demandValues_0_2 (L' := [some (.inr 0), some (.inl a1), some (.inl a2), some (.inl a3), some (.inl a4), some (.inl 0)]) (st' := []) (σ1 := σ) rfl ?_
    obtain ⟨y1, e2, h⟩ := bind_inv h
    refine hL_X10_demandValues_3 a1 a2 a3 a4 σ 3000 0 y1 e2 ?_
    rcases y1 with z3 | r4
    rotate_left
    · show r4 = q
      cases h; rfl
    show Go l m_X10_demandValues (d + 1) LAYC (ozU q.1) q.2 34 [none, none, none, none, none, none] [] σ
    rw [Sum.elim_inl] at h
    have h9 := Option.some.inj h
    subst h9
    exact go_vret dc_X10_demandValues_34 rfl
  have hf := go_co (as := [.inr 0, .inl a1, .inl a2, .inl a3, .inl a4]) mk_X10_demandValues (fun _ _ => by decide +kernel) (by rfl) (Nat.le_of_ble_eq_true rfl) key
  exact hf
theorem dc_X10_data_6 : decode m_X10_data.2.2.1 6 = .ok (.invokevirtual 136, 3) := by decide +kernel
theorem dc_X10_data_9 : decode m_X10_data.2.2.1 9 = .ok (.invokestatic 90, 3) := by decide +kernel
theorem dc_X10_data_18 : decode m_X10_data.2.2.1 18 = .ok (.invokevirtual 140, 3) := by decide +kernel
theorem dc_X10_data_31 : decode m_X10_data.2.2.1 31 = .ok (.invokevirtual 144, 3) := by decide +kernel
theorem dc_X10_data_40 : decode m_X10_data.2.2.1 40 = .ok (.if_icmp .ge 77, 3) := by decide +kernel
theorem dc_X10_data_50 : decode m_X10_data.2.2.1 50 = .ok (.invokestatic 101, 3) := by decide +kernel
theorem dc_X10_data_63 : decode m_X10_data.2.2.1 63 = .ok (.invokevirtual 148, 3) := by decide +kernel
theorem dc_X10_data_72 : decode m_X10_data.2.2.1 72 = .ok (.if_icmp .ge 25, 3) := by decide +kernel
theorem dc_X10_data_81 : decode m_X10_data.2.2.1 81 = .ok (.invokevirtual 152, 3) := by decide +kernel
theorem dc_X10_data_86 : decode m_X10_data.2.2.1 86 = .ok (.if_icmp .ne 7, 3) := by decide +kernel
theorem dc_X10_data_90 : decode m_X10_data.2.2.1 90 = .ok (.goto 18, 3) := by decide +kernel
theorem dc_X10_data_94 : decode m_X10_data.2.2.1 94 = .ok (.goto 14, 3) := by decide +kernel
theorem dc_X10_data_100 : decode m_X10_data.2.2.1 100 = .ok (.if_icmp .ne 7, 3) := by decide +kernel
theorem dc_X10_data_104 : decode m_X10_data.2.2.1 104 = .ok (.goto 4, 3) := by decide +kernel
theorem dc_X10_data_108 : decode m_X10_data.2.2.1 108 = .ok (.invokestatic 98, 3) := by decide +kernel
theorem dc_X10_data_114 : decode m_X10_data.2.2.1 114 = .ok (.goto (-77), 3) := by decide +kernel
theorem dc_X10_data_121 : decode m_X10_data.2.2.1 121 = .ok (.invokevirtual 125, 3) := by decide +kernel
theorem dc_X10_data_124 : decode m_X10_data.2.2.1 124 = .ok (.invokestatic 112, 3) := by decide +kernel
theorem dc_X10_data_138 : decode m_X10_data.2.2.1 138 = .ok (.invokevirtual 129, 3) := by decide +kernel
theorem dc_X10_data_141 : decode m_X10_data.2.2.1 141 = .ok (.ireturn, 1) := by decide +kernel
theorem ok_X10_data_0_4 : oks m_X10_data.1 m_X10_data.2.2.1 0 [(.aload_n 0, 1, (0, 0, 0)), (.getfield 10, 3, (10, 0, 0)), (.iload_n 1, 1, (0, 0, 0)), (.iload_n 2, 1, (0, 0, 0))] = true ∧ plen 0 [(.aload_n 0, 1, (0, 0, 0)), (.getfield 10, 3, (10, 0, 0)), (.iload_n 1, 1, (0, 0, 0)), (.iload_n 2, 1, (0, 0, 0))] = 6 := by decide +kernel
theorem ok_X10_data_12_4 : oks m_X10_data.1 m_X10_data.2.2.1 12 [(.aload_n 0, 1, (0, 0, 0)), (.getfield 10, 3, (10, 0, 0)), (.iload_n 1, 1, (0, 0, 0)), (.iload_n 2, 1, (0, 0, 0))] = true ∧ plen 12 [(.aload_n 0, 1, (0, 0, 0)), (.getfield 10, 3, (10, 0, 0)), (.iload_n 1, 1, (0, 0, 0)), (.iload_n 2, 1, (0, 0, 0))] = 18 := by decide +kernel
theorem ok_X10_data_21_6 : oks m_X10_data.1 m_X10_data.2.2.1 21 [(.istore 6, 2, (0, 0, 0)), (.aload_n 0, 1, (0, 0, 0)), (.iload 6, 2, (0, 0, 0)), (.iload_n 3, 1, (0, 0, 0)), (.iload 4, 2, (0, 0, 0)), (.iload 5, 2, (0, 0, 0))] = true ∧ plen 21 [(.istore 6, 2, (0, 0, 0)), (.aload_n 0, 1, (0, 0, 0)), (.iload 6, 2, (0, 0, 0)), (.iload_n 3, 1, (0, 0, 0)), (.iload 4, 2, (0, 0, 0)), (.iload 5, 2, (0, 0, 0))] = 31 := by decide +kernel
theorem ok_X10_data_34_2 : oks m_X10_data.1 m_X10_data.2.2.1 34 [(.iconst 0, 1, (0, 0, 0)), (.istore 7, 2, (0, 0, 0))] = true ∧ plen 34 [(.iconst 0, 1, (0, 0, 0)), (.istore 7, 2, (0, 0, 0))] = 37 := by decide +kernel
theorem ok_X10_data_37_2 : oks m_X10_data.1 m_X10_data.2.2.1 37 [(.iload 7, 2, (0, 0, 0)), (.iconst 3, 1, (0, 0, 0))] = true ∧ plen 37 [(.iload 7, 2, (0, 0, 0)), (.iconst 3, 1, (0, 0, 0))] = 40 := by decide +kernel
theorem ok_X10_data_43_4 : oks m_X10_data.1 m_X10_data.2.2.1 43 [(.iload 7, 2, (0, 0, 0)), (.iload_n 3, 1, (0, 0, 0)), (.iload 4, 2, (0, 0, 0)), (.iload 5, 2, (0, 0, 0))] = true ∧ plen 43 [(.iload 7, 2, (0, 0, 0)), (.iload_n 3, 1, (0, 0, 0)), (.iload 4, 2, (0, 0, 0)), (.iload 5, 2, (0, 0, 0))] = 50 := by decide +kernel
theorem ok_X10_data_53_6 : oks m_X10_data.1 m_X10_data.2.2.1 53 [(.istore 8, 2, (0, 0, 0)), (.aload_n 0, 1, (0, 0, 0)), (.getfield 10, 3, (10, 0, 0)), (.iload_n 1, 1, (0, 0, 0)), (.iload_n 2, 1, (0, 0, 0)), (.iload 7, 2, (0, 0, 0))] = true ∧ plen 53 [(.istore 8, 2, (0, 0, 0)), (.aload_n 0, 1, (0, 0, 0)), (.getfield 10, 3, (10, 0, 0)), (.iload_n 1, 1, (0, 0, 0)), (.iload_n 2, 1, (0, 0, 0)), (.iload 7, 2, (0, 0, 0))] = 63 := by decide +kernel
theorem ok_X10_data_66_3 : oks m_X10_data.1 m_X10_data.2.2.1 66 [(.istore 9, 2, (0, 0, 0)), (.iload 7, 2, (0, 0, 0)), (.iload 6, 2, (0, 0, 0))] = true ∧ plen 66 [(.istore 9, 2, (0, 0, 0)), (.iload 7, 2, (0, 0, 0)), (.iload 6, 2, (0, 0, 0))] = 72 := by decide +kernel
theorem ok_X10_data_75_3 : oks m_X10_data.1 m_X10_data.2.2.1 75 [(.aload_n 0, 1, (0, 0, 0)), (.getfield 19, 3, (10, 1, 0)), (.iload 8, 2, (0, 0, 0))] = true ∧ plen 75 [(.aload_n 0, 1, (0, 0, 0)), (.getfield 19, 3, (10, 1, 0)), (.iload 8, 2, (0, 0, 0))] = 81 := by decide +kernel
theorem ok_X10_data_84_1 : oks m_X10_data.1 m_X10_data.2.2.1 84 [(.iload 9, 2, (0, 0, 0))] = true ∧ plen 84 [(.iload 9, 2, (0, 0, 0))] = 86 := by decide +kernel
theorem ok_X10_data_89_1 : oks m_X10_data.1 m_X10_data.2.2.1 89 [(.iconst 1, 1, (0, 0, 0))] = true ∧ plen 89 [(.iconst 1, 1, (0, 0, 0))] = 90 := by decide +kernel
theorem ok_X10_data_93_1 : oks m_X10_data.1 m_X10_data.2.2.1 93 [(.iconst 0, 1, (0, 0, 0))] = true ∧ plen 93 [(.iconst 0, 1, (0, 0, 0))] = 94 := by decide +kernel
theorem ok_X10_data_97_2 : oks m_X10_data.1 m_X10_data.2.2.1 97 [(.iload 8, 2, (0, 0, 0)), (.iconst (-1), 1, (0, 0, 0))] = true ∧ plen 97 [(.iload 8, 2, (0, 0, 0)), (.iconst (-1), 1, (0, 0, 0))] = 100 := by decide +kernel
theorem ok_X10_data_103_1 : oks m_X10_data.1 m_X10_data.2.2.1 103 [(.iconst 1, 1, (0, 0, 0))] = true ∧ plen 103 [(.iconst 1, 1, (0, 0, 0))] = 104 := by decide +kernel
theorem ok_X10_data_107_1 : oks m_X10_data.1 m_X10_data.2.2.1 107 [(.iconst 0, 1, (0, 0, 0))] = true ∧ plen 107 [(.iconst 0, 1, (0, 0, 0))] = 108 := by decide +kernel
theorem ok_X10_data_111_1 : oks m_X10_data.1 m_X10_data.2.2.1 111 [(.iinc 7 1, 3, (0, 0, 0))] = true ∧ plen 111 [(.iinc 7 1, 3, (0, 0, 0))] = 114 := by decide +kernel
theorem ok_X10_data_117_2 : oks m_X10_data.1 m_X10_data.2.2.1 117 [(.aload_n 0, 1, (0, 0, 0)), (.getfield 19, 3, (10, 1, 0))] = true ∧ plen 117 [(.aload_n 0, 1, (0, 0, 0)), (.getfield 19, 3, (10, 1, 0))] = 121 := by decide +kernel
theorem ok_X10_data_127_7 : oks m_X10_data.1 m_X10_data.2.2.1 127 [(.aload_n 0, 1, (0, 0, 0)), (.getfield 19, 3, (10, 1, 0)), (.iload_n 1, 1, (0, 0, 0)), (.iload_n 2, 1, (0, 0, 0)), (.iload_n 3, 1, (0, 0, 0)), (.iload 4, 2, (0, 0, 0)), (.iload 5, 2, (0, 0, 0))] = true ∧ plen 127 [(.aload_n 0, 1, (0, 0, 0)), (.getfield 19, 3, (10, 1, 0)), (.iload_n 1, 1, (0, 0, 0)), (.iload_n 2, 1, (0, 0, 0)), (.iload_n 3, 1, (0, 0, 0)), (.iload 4, 2, (0, 0, 0)), (.iload 5, 2, (0, 0, 0))] = 138 := by decide +kernel
def B_X10_data_108 (x7 : Int) (y0 : Bool) (σ : Sg) : Option (Int ⊕ (Unit ⊕ ((Int ⊕ Nat) × Sg))) :=
if y0 = true then
some (.inl (wrap (x7 + 1)))
else some (.inr (.inr (.inr 1, σ)))
def L_X10_data_37 (x1 : Int) (x2 : Int) (x3 : Int) (x4 : Int) (x5 : Int) (x6 : Int) (σ : Sg) (x7 : Int) : Option (Int ⊕ (Unit ⊕ ((Int ⊕ Nat) × Sg))) :=
if 3 ≤ x7 then
some (.inr (.inl ()))
else
bnd (F_X10_pick x7 x3 x4 x5) fun v6 =>
bnd (F_X2_fieldKind x1 x2 x7 σ) fun v8 =>
if x6 ≤ x7 then
if v6 = (-1) then
B_X10_data_108 x7 true σ
else
B_X10_data_108 x7 false σ
else
if (F_X8_kindOf v6 σ) = v8 then
B_X10_data_108 x7 true σ
else
B_X10_data_108 x7 false σ
def F_X10_data (a1 : Int) (a2 : Int) (a3 : Int) (a4 : Int) (a5 : Int) (σ : Sg) : Option ((Int ⊕ Nat) × Sg) :=
if (F_X2_has a1 a2 σ) = true then
bnd (F_X2_fieldsOf a1 a2 σ) fun v1 =>
xb (F_X10_demandValues v1 a3 a4 a5 σ) (fun E σ => some (.inr E, σ)) fun v3 s4 =>
(iter (fun a : Int => L_X10_data_37 a1 a2 a3 a4 a5 v1 s4 a) 4 0).bind fun y10 => Sum.elim (fun z12 =>
if (F_X8_hasRoom s4) = true then
(F_X8_keep a1 a2 a3 a4 a5 s4).bind fun q14 =>
some (.inl q14.1, q14.2)
else some (.inr 2, s4)) (fun r13 => some r13) y10
else some (.inr 0, σ)
theorem lk_X10_data (l : Launch) (hl : l.stackTraces = false) (d : Nat) (hd : 8 ≤ d) (a1 : Int) (a2 : Int) (a3 : Int) (a4 : Int) (a5 : Int) (σ : Sg) (q : ((Int ⊕ Nat) × Sg)) (h : F_X10_data a1 a2 a3 a4 a5 σ = some q) : outZ (ozI q.1) l d m_X10_data.2.1 m_X10_data.2.2.1 m_X10_data.2.2.2.1 m_X10_data.2.2.2.2 [.inr 0, .inl a1, .inl a2, .inl a3, .inl a4, .inl a5] (LAYC, σ) (LAYC, q.2) := by
  obtain ⟨d, rfl⟩ : ∃ e, d = e + 1 := ⟨d - 1, by omega⟩
  have key : Go l m_X10_data (d + 1) LAYC (ozI q.1) q.2 0 [some (.inr 0), some (.inl a1), some (.inl a2), some (.inl a3), some (.inl a4), some (.inl a5), none, none, none, none] [] σ := by
    unfold F_X10_data at h
    have hL_X10_data_37 : ∀ (x1 : Int) (x2 : Int) (x3 : Int) (x4 : Int) (x5 : Int) (x6 : Int) (σ : Sg) (n : Nat) (a : Int) (y : (Unit ⊕ ((Int ⊕ Nat) × Sg))), iter (fun a : Int => L_X10_data_37 x1 x2 x3 x4 x5 x6 σ a) n a = some y → (Sum.elim (fun y : Unit => Go l m_X10_data (d + 1) LAYC (ozI q.1) q.2 117 [some (.inr 0), some (.inl x1), some (.inl x2), some (.inl x3), some (.inl x4), some (.inl x5), none, none, none, none] [] σ) (fun r : ((Int ⊕ Nat) × Sg) => r = q)) y → (fun a : Int => Go l m_X10_data (d + 1) LAYC (ozI q.1) q.2 37 [some (.inr 0), some (.inl x1), some (.inl x2), some (.inl x3), some (.inl x4), some (.inl x5), some (.inl x6), some (.inl a), none, none] [] σ) a := by
      intro x1 x2 x3 x4 x5 x6 σ
      refine go_iter (G := fun a : Int => Go l m_X10_data (d + 1) LAYC (ozI q.1) q.2 37 [some (.inr 0), some (.inl x1), some (.inl x2), some (.inl x3), some (.inl x4), some (.inl x5), some (.inl x6), some (.inl a), none, none] [] σ) (K := Sum.elim (fun y : Unit => Go l m_X10_data (d + 1) LAYC (ozI q.1) q.2 117 [some (.inr 0), some (.inl x1), some (.inl x2), some (.inl x3), some (.inl x4), some (.inl x5), none, none, none, none] [] σ) (fun r : ((Int ⊕ Nat) × Sg) => r = q)) ?_
      rintro x7 w h hK
      replace h : L_X10_data_37 x1 x2 x3 x4 x5 x6 σ x7 = some w := h
      show Go l m_X10_data (d + 1) LAYC (ozI q.1) q.2 37 [some (.inr 0), some (.inl x1), some (.inl x2), some (.inl x3), some (.inl x4), some (.inl x5), some (.inl x6), some (.inl x7), none, none] [] σ
      unfold L_X10_data_37 at h
      have hB_X10_data_108 : ∀ (x7 : Int) (y0 : Bool), B_X10_data_108 x7 y0 σ = some w → Go l m_X10_data (d + 1) LAYC (ozI q.1) q.2 108 [some (.inr 0), some (.inl x1), some (.inl x2), some (.inl x3), some (.inl x4), some (.inl x5), some (.inl x6), some (.inl x7), none, none] [.inl (b2i y0)] σ := by
        intro x7 y0 h
        unfold B_X10_data_108 at h
        rcases Decidable.em (¬ y0 = true) with hc | hc
        · replace h := (if_neg hc).symm.trans h
          cases h
          have hK2 : _ = q := hK
          subst hK2
          exact go_SX (M1 := m_X10_demandArgument) (as := [.inl (b2i y0)]) (st := []) dc_X10_data_108 ln_10_98 sm_X10_demandArgument rfl mk_X10_demandArgument rfl (Nat.le_of_ble_eq_true rfl) (Nat.le_refl _) (lkX_X10_demandArgument l d hl (by omega) _ hc LAYC σ) _ rfl
        replace hc := Decidable.not_not.mp hc
        replace h := (if_pos hc).symm.trans h
        refine go_S (M1 := m_X10_demandArgument) (as := [.inl (b2i y0)]) (st := []) dc_X10_data_108 ln_10_98 sm_X10_demandArgument mk_X10_demandArgument rfl (Nat.le_of_ble_eq_true rfl) (Nat.le_refl _) (v := none) (σ1 := σ) (lk_X10_demandArgument l d _ hc _ σ) _ rfl ?_
        refine go_ops ok_X10_data_111_1 (L' := [some (.inr 0), some (.inl x1), some (.inl x2), some (.inl x3), some (.inl x4), some (.inl x5), some (.inl x6), some (.inl (wrap (x7 + 1))), none, none]) (st' := []) (σ1 := σ) rfl ?_
        refine go_goto dc_X10_data_114 (by rfl) ?_
        cases h
        exact hK
      refine go_ops ok_X10_data_37_2 (L' := [some (.inr 0), some (.inl x1), some (.inl x2), some (.inl x3), some (.inl x4), some (.inl x5), some (.inl x6), some (.inl x7), none, none]) (st' := [.inl 3, .inl x7]) (σ1 := σ) rfl ?_
      refine go_icmp_ge dc_X10_data_40 (by rfl) (fun hc => ?_) (fun hc => ?_)
      · replace h := (if_pos hc).symm.trans h
        cases h
        refine go_wk (L' := [some (.inr 0), some (.inl x1), some (.inl x2), some (.inl x3), some (.inl x4), some (.inl x5), none, none, none, none]) ⟨rfl, rfl, rfl, rfl, rfl, rfl, trivial⟩ ?_
        exact hK
      · replace h := (if_neg hc).symm.trans h
        refine go_ops ok_X10_data_43_4 (L' := [some (.inr 0), some (.inl x1), some (.inl x2), some (.inl x3), some (.inl x4), some (.inl x5), some (.inl x6), some (.inl x7), none, none]) (st' := [.inl x5, .inl x4, .inl x3, .inl x7]) (σ1 := σ) rfl ?_
        refine go_S (M1 := m_X10_pick) (as := [.inl x7, .inl x3, .inl x4, .inl x5]) (st := []) dc_X10_data_50 ln_10_101 sm_X10_pick mk_X10_pick rfl (Nat.le_of_ble_eq_true rfl) (Nat.le_refl _) (v := (some (.inl (F_X10_pick x7 x3 x4 x5)))) (σ1 := σ) (lk_X10_pick l d (by omega) x7 x3 x4 x5 σ _ rfl) _ rfl ?_
        obtain ⟨v6, e7, h⟩ := bnd_inv h
        refine go_ops ok_X10_data_53_6 (L' := [some (.inr 0), some (.inl x1), some (.inl x2), some (.inl x3), some (.inl x4), some (.inl x5), some (.inl x6), some (.inl x7), some (.inl v6), none]) (st' := [.inl x7, .inl x2, .inl x1, .inr 1]) (σ1 := σ) (by subst e7; rfl) ?_
        refine go_V (M1 := m_X2_fieldKind) (as := [.inl x1, .inl x2, .inl x7]) (st := []) (k := 1) (ci := 2) dc_X10_data_63 ln_10_148 im_X2_fieldKind (by decide) rfl rfl mk_X2_fieldKind rfl (Nat.le_of_ble_eq_true rfl) (Nat.le_refl _) (v := (some (.inl (F_X2_fieldKind x1 x2 x7 σ)))) (σ1 := σ) (lk_X2_fieldKind l d (by omega) x1 x2 x7 σ _ rfl) _ rfl ?_
        obtain ⟨v8, e9, h⟩ := bnd_inv h
        refine go_ops ok_X10_data_66_3 (L' := [some (.inr 0), some (.inl x1), some (.inl x2), some (.inl x3), some (.inl x4), some (.inl x5), some (.inl x6), some (.inl x7), some (.inl v6), some (.inl v8)]) (st' := [.inl x6, .inl x7]) (σ1 := σ) (by subst e9; rfl) ?_
        refine go_icmp_ge dc_X10_data_72 (by rfl) (fun hc => ?_) (fun hc => ?_)
        · replace h := (if_pos hc).symm.trans h
          refine go_ops ok_X10_data_97_2 (L' := [some (.inr 0), some (.inl x1), some (.inl x2), some (.inl x3), some (.inl x4), some (.inl x5), some (.inl x6), some (.inl x7), some (.inl v6), some (.inl v8)]) (st' := [.inl (-1), .inl v6]) (σ1 := σ) rfl ?_
          refine go_icmp_ne dc_X10_data_100 (by rfl) (fun hc => ?_) (fun hc => ?_)
          · replace h := (if_neg hc).symm.trans h
            refine go_ops ok_X10_data_107_1 (L' := [some (.inr 0), some (.inl x1), some (.inl x2), some (.inl x3), some (.inl x4), some (.inl x5), some (.inl x6), some (.inl x7), some (.inl v6), some (.inl v8)]) (st' := [.inl 0]) (σ1 := σ) rfl ?_
            refine go_wk (L' := [some (.inr 0), some (.inl x1), some (.inl x2), some (.inl x3), some (.inl x4), some (.inl x5), some (.inl x6), some (.inl x7), none, none]) ⟨rfl, rfl, rfl, rfl, rfl, rfl, rfl, rfl, trivial⟩ ?_
            exact hB_X10_data_108 x7 false h
          · replace h := (if_pos hc).symm.trans h
            refine go_ops ok_X10_data_103_1 (L' := [some (.inr 0), some (.inl x1), some (.inl x2), some (.inl x3), some (.inl x4), some (.inl x5), some (.inl x6), some (.inl x7), some (.inl v6), some (.inl v8)]) (st' := [.inl 1]) (σ1 := σ) rfl ?_
            refine go_goto dc_X10_data_104 (by rfl) ?_
            refine go_wk (L' := [some (.inr 0), some (.inl x1), some (.inl x2), some (.inl x3), some (.inl x4), some (.inl x5), some (.inl x6), some (.inl x7), none, none]) ⟨rfl, rfl, rfl, rfl, rfl, rfl, rfl, rfl, trivial⟩ ?_
            exact hB_X10_data_108 x7 true h
        · replace h := (if_neg hc).symm.trans h
          refine go_ops ok_X10_data_75_3 (L' := [some (.inr 0), some (.inl x1), some (.inl x2), some (.inl x3), some (.inl x4), some (.inl x5), some (.inl x6), some (.inl x7), some (.inl v6), some (.inl v8)]) (st' := [.inl v6, .inr 5]) (σ1 := σ) rfl ?_
          refine go_V (M1 := m_X8_kindOf) (as := [.inl v6]) (st := []) (k := 5) (ci := 8) dc_X10_data_81 ln_10_152 im_X8_kindOf (by decide) rfl rfl mk_X8_kindOf rfl (Nat.le_of_ble_eq_true rfl) (Nat.le_refl _) (v := (some (.inl (F_X8_kindOf v6 σ)))) (σ1 := σ) (lk_X8_kindOf l d (by omega) v6 σ _ rfl) _ rfl ?_
          refine go_ops ok_X10_data_84_1 (L' := [some (.inr 0), some (.inl x1), some (.inl x2), some (.inl x3), some (.inl x4), some (.inl x5), some (.inl x6), some (.inl x7), some (.inl v6), some (.inl v8)]) (st' := [.inl v8, .inl (F_X8_kindOf v6 σ)]) (σ1 := σ) rfl ?_
          refine go_icmp_ne dc_X10_data_86 (by rfl) (fun hc => ?_) (fun hc => ?_)
          · replace h := (if_neg hc).symm.trans h
            refine go_ops ok_X10_data_93_1 (L' := [some (.inr 0), some (.inl x1), some (.inl x2), some (.inl x3), some (.inl x4), some (.inl x5), some (.inl x6), some (.inl x7), some (.inl v6), some (.inl v8)]) (st' := [.inl 0]) (σ1 := σ) rfl ?_
            refine go_goto dc_X10_data_94 (by rfl) ?_
            refine go_wk (L' := [some (.inr 0), some (.inl x1), some (.inl x2), some (.inl x3), some (.inl x4), some (.inl x5), some (.inl x6), some (.inl x7), none, none]) ⟨rfl, rfl, rfl, rfl, rfl, rfl, rfl, rfl, trivial⟩ ?_
            exact hB_X10_data_108 x7 false h
          · replace h := (if_pos hc).symm.trans h
            refine go_ops ok_X10_data_89_1 (L' := [some (.inr 0), some (.inl x1), some (.inl x2), some (.inl x3), some (.inl x4), some (.inl x5), some (.inl x6), some (.inl x7), some (.inl v6), some (.inl v8)]) (st' := [.inl 1]) (σ1 := σ) rfl ?_
            refine go_goto dc_X10_data_90 (by rfl) ?_
            refine go_wk (L' := [some (.inr 0), some (.inl x1), some (.inl x2), some (.inl x3), some (.inl x4), some (.inl x5), some (.inl x6), some (.inl x7), none, none]) ⟨rfl, rfl, rfl, rfl, rfl, rfl, rfl, rfl, trivial⟩ ?_
            exact hB_X10_data_108 x7 true h
    refine go_ops ok_X10_data_0_4 (L' := [some (.inr 0), some (.inl a1), some (.inl a2), some (.inl a3), some (.inl a4), some (.inl a5), none, none, none, none]) (st' := [.inl a2, .inl a1, .inr 1]) (σ1 := σ) rfl ?_
    refine go_V (M1 := m_X2_has) (as := [.inl a1, .inl a2]) (st := []) (k := 1) (ci := 2) dc_X10_data_6 ln_10_136 im_X2_has (by decide) rfl rfl mk_X2_has rfl (Nat.le_of_ble_eq_true rfl) (Nat.le_refl _) (v := (some (.inl (b2i (F_X2_has a1 a2 σ))))) (σ1 := σ) (lk_X2_has l d (by omega) a1 a2 σ _ rfl) _ rfl ?_
    rcases Decidable.em (¬ (F_X2_has a1 a2 σ) = true) with hc | hc
    · replace h := (if_neg hc).symm.trans h
      have h9 := Option.some.inj h
      subst h9
      exact go_SX (M1 := m_X10_demandIndex) (as := [.inl (b2i (F_X2_has a1 a2 σ))]) (st := []) dc_X10_data_9 ln_10_90 sm_X10_demandIndex rfl mk_X10_demandIndex rfl (Nat.le_of_ble_eq_true rfl) (Nat.le_refl _) (lkX_X10_demandIndex l d hl (by omega) _ hc LAYC σ) _ rfl
    replace hc := Decidable.not_not.mp hc
    replace h := (if_pos hc).symm.trans h
    refine go_S (M1 := m_X10_demandIndex) (as := [.inl (b2i (F_X2_has a1 a2 σ))]) (st := []) dc_X10_data_9 ln_10_90 sm_X10_demandIndex mk_X10_demandIndex rfl (Nat.le_of_ble_eq_true rfl) (Nat.le_refl _) (v := none) (σ1 := σ) (lk_X10_demandIndex l d _ hc _ σ) _ rfl ?_
    refine go_ops ok_X10_data_12_4 (L' := [some (.inr 0), some (.inl a1), some (.inl a2), some (.inl a3), some (.inl a4), some (.inl a5), none, none, none, none]) (st' := [.inl a2, .inl a1, .inr 1]) (σ1 := σ) rfl ?_
    refine go_V (M1 := m_X2_fieldsOf) (as := [.inl a1, .inl a2]) (st := []) (k := 1) (ci := 2) dc_X10_data_18 ln_10_140 im_X2_fieldsOf (by decide) rfl rfl mk_X2_fieldsOf rfl (Nat.le_of_ble_eq_true rfl) (Nat.le_refl _) (v := (some (.inl (F_X2_fieldsOf a1 a2 σ)))) (σ1 := σ) (lk_X2_fieldsOf l d (by omega) a1 a2 σ _ rfl) _ rfl ?_
    obtain ⟨v1, e2, h⟩ := bnd_inv h
    refine go_ops ok_X10_data_21_6 (L' := [some (.inr 0), some (.inl a1), some (.inl a2), some (.inl a3), some (.inl a4), some (.inl a5), some (.inl v1), none, none, none]) (st' := [.inl a5, .inl a4, .inl a3, .inl v1, .inr 0]) (σ1 := σ) (by subst e2; rfl) ?_
    rcases xb_inv h with ⟨E1, s4, e5, h⟩ | ⟨v3, s4, e5, h⟩
    · have h9 := Option.some.inj h
      subst h9
      exact go_VX (M1 := m_X10_demandValues) (as := [.inl v1, .inl a3, .inl a4, .inl a5]) (st := []) (k := 0) (ci := 10) dc_X10_data_31 ln_10_144 im_X10_demandValues (by decide) rfl rfl mk_X10_demandValues rfl (Nat.le_of_ble_eq_true rfl) (Nat.le_refl _) (lk_X10_demandValues l hl d (by omega) v1 a3 a4 a5 σ _ e5) _ rfl
    refine go_V (M1 := m_X10_demandValues) (as := [.inl v1, .inl a3, .inl a4, .inl a5]) (st := []) (k := 0) (ci := 10) dc_X10_data_31 ln_10_144 im_X10_demandValues (by decide) rfl rfl mk_X10_demandValues rfl (Nat.le_of_ble_eq_true rfl) (Nat.le_refl _) (v := none) (σ1 := s4) (lk_X10_demandValues l hl d (by omega) v1 a3 a4 a5 σ _ e5) _ rfl ?_
    refine go_ops ok_X10_data_34_2 (L' := [some (.inr 0), some (.inl a1), some (.inl a2), some (.inl a3), some (.inl a4), some (.inl a5), some (.inl v1), some (.inl 0), none, none]) (st' := []) (σ1 := s4) rfl ?_
    obtain ⟨y10, e11, h⟩ := bind_inv h
    refine hL_X10_data_37 a1 a2 a3 a4 a5 v1 s4 4 0 y10 e11 ?_
    rcases y10 with z12 | r13
    rotate_left
    · show r13 = q
      cases h; rfl
    show Go l m_X10_data (d + 1) LAYC (ozI q.1) q.2 117 [some (.inr 0), some (.inl a1), some (.inl a2), some (.inl a3), some (.inl a4), some (.inl a5), none, none, none, none] [] s4
    rw [Sum.elim_inl] at h
    refine go_ops ok_X10_data_117_2 (L' := [some (.inr 0), some (.inl a1), some (.inl a2), some (.inl a3), some (.inl a4), some (.inl a5), none, none, none, none]) (st' := [.inr 5]) (σ1 := s4) rfl ?_
    refine go_V (M1 := m_X8_hasRoom) (as := []) (st := []) (k := 5) (ci := 8) dc_X10_data_121 ln_10_125 im_X8_hasRoom (by decide) rfl rfl mk_X8_hasRoom rfl (Nat.le_of_ble_eq_true rfl) (Nat.le_refl _) (v := (some (.inl (b2i (F_X8_hasRoom s4))))) (σ1 := s4) (lk_X8_hasRoom l d (by omega) s4 _ rfl) _ rfl ?_
    rcases Decidable.em (¬ (F_X8_hasRoom s4) = true) with hc | hc
    · replace h := (if_neg hc).symm.trans h
      have h9 := Option.some.inj h
      subst h9
      exact go_SX (M1 := m_X10_demandState) (as := [.inl (b2i (F_X8_hasRoom s4))]) (st := []) dc_X10_data_124 ln_10_112 sm_X10_demandState rfl mk_X10_demandState rfl (Nat.le_of_ble_eq_true rfl) (Nat.le_refl _) (lkX_X10_demandState l d hl (by omega) _ hc LAYC s4) _ rfl
    replace hc := Decidable.not_not.mp hc
    replace h := (if_pos hc).symm.trans h
    refine go_S (M1 := m_X10_demandState) (as := [.inl (b2i (F_X8_hasRoom s4))]) (st := []) dc_X10_data_124 ln_10_112 sm_X10_demandState mk_X10_demandState rfl (Nat.le_of_ble_eq_true rfl) (Nat.le_refl _) (v := none) (σ1 := s4) (lk_X10_demandState l d _ hc _ s4) _ rfl ?_
    refine go_ops ok_X10_data_127_7 (L' := [some (.inr 0), some (.inl a1), some (.inl a2), some (.inl a3), some (.inl a4), some (.inl a5), none, none, none, none]) (st' := [.inl a5, .inl a4, .inl a3, .inl a2, .inl a1, .inr 5]) (σ1 := s4) rfl ?_
    obtain ⟨q14, e15, h⟩ := bind_inv h
    refine go_V (M1 := m_X8_keep) (as := [.inl a1, .inl a2, .inl a3, .inl a4, .inl a5]) (st := []) (k := 5) (ci := 8) dc_X10_data_138 ln_10_129 im_X8_keep (by decide) rfl rfl mk_X8_keep rfl (Nat.le_of_ble_eq_true rfl) (Nat.le_refl _) (v := (some (.inl q14.1))) (σ1 := q14.2) (lk_X8_keep l d (by omega) a1 a2 a3 a4 a5 s4 q14 e15) _ rfl ?_
    have h9 := Option.some.inj h
    subst h9
    exact go_iret dc_X10_data_141 rfl
  have hf := go_co (as := [.inr 0, .inl a1, .inl a2, .inl a3, .inl a4, .inl a5]) mk_X10_data (fun _ _ => by decide +kernel) (by rfl) (Nat.le_of_ble_eq_true rfl) key
  exact hf
theorem dc_X10_keepPattern_4 : decode m_X10_keepPattern.2.2.1 4 = .ok (.invokevirtual 297, 3) := by decide +kernel
theorem dc_X10_keepPattern_7 : decode m_X10_keepPattern.2.2.1 7 = .ok (.invokestatic 112, 3) := by decide +kernel
theorem dc_X10_keepPattern_25 : decode m_X10_keepPattern.2.2.1 25 = .ok (.invokevirtual 298, 3) := by decide +kernel
theorem dc_X10_keepPattern_28 : decode m_X10_keepPattern.2.2.1 28 = .ok (.ireturn, 1) := by decide +kernel
theorem ok_X10_keepPattern_0_2 : oks m_X10_keepPattern.1 m_X10_keepPattern.2.2.1 0 [(.aload_n 0, 1, (0, 0, 0)), (.getfield 26, 3, (10, 2, 0))] = true ∧ plen 0 [(.aload_n 0, 1, (0, 0, 0)), (.getfield 26, 3, (10, 2, 0))] = 4 := by decide +kernel
theorem ok_X10_keepPattern_10_9 : oks m_X10_keepPattern.1 m_X10_keepPattern.2.2.1 10 [(.aload_n 0, 1, (0, 0, 0)), (.getfield 26, 3, (10, 2, 0)), (.iload_n 1, 1, (0, 0, 0)), (.iload_n 2, 1, (0, 0, 0)), (.iload_n 3, 1, (0, 0, 0)), (.iload 4, 2, (0, 0, 0)), (.iload 5, 2, (0, 0, 0)), (.iload 6, 2, (0, 0, 0)), (.iload 7, 2, (0, 0, 0))] = true ∧ plen 10 [(.aload_n 0, 1, (0, 0, 0)), (.getfield 26, 3, (10, 2, 0)), (.iload_n 1, 1, (0, 0, 0)), (.iload_n 2, 1, (0, 0, 0)), (.iload_n 3, 1, (0, 0, 0)), (.iload 4, 2, (0, 0, 0)), (.iload 5, 2, (0, 0, 0)), (.iload 6, 2, (0, 0, 0)), (.iload 7, 2, (0, 0, 0))] = 25 := by decide +kernel
def F_X10_keepPattern (a1 : Int) (a2 : Int) (a3 : Int) (a4 : Int) (a5 : Int) (a6 : Int) (a7 : Int) (σ : Sg) : Option ((Int ⊕ Nat) × Sg) :=
if (F_X5_hasRoom σ) = true then
(F_X5_keep a1 a2 a3 a4 a5 a6 a7 σ).bind fun q1 =>
some (.inl q1.1, q1.2)
else some (.inr 2, σ)
theorem lk_X10_keepPattern (l : Launch) (hl : l.stackTraces = false) (d : Nat) (hd : 7 ≤ d) (a1 : Int) (a2 : Int) (a3 : Int) (a4 : Int) (a5 : Int) (a6 : Int) (a7 : Int) (σ : Sg) (q : ((Int ⊕ Nat) × Sg)) (h : F_X10_keepPattern a1 a2 a3 a4 a5 a6 a7 σ = some q) : outZ (ozI q.1) l d m_X10_keepPattern.2.1 m_X10_keepPattern.2.2.1 m_X10_keepPattern.2.2.2.1 m_X10_keepPattern.2.2.2.2 [.inr 0, .inl a1, .inl a2, .inl a3, .inl a4, .inl a5, .inl a6, .inl a7] (LAYC, σ) (LAYC, q.2) := by
  obtain ⟨d, rfl⟩ : ∃ e, d = e + 1 := ⟨d - 1, by omega⟩
  have key : Go l m_X10_keepPattern (d + 1) LAYC (ozI q.1) q.2 0 [some (.inr 0), some (.inl a1), some (.inl a2), some (.inl a3), some (.inl a4), some (.inl a5), some (.inl a6), some (.inl a7)] [] σ := by
    unfold F_X10_keepPattern at h
    refine go_ops ok_X10_keepPattern_0_2 (L' := [some (.inr 0), some (.inl a1), some (.inl a2), some (.inl a3), some (.inl a4), some (.inl a5), some (.inl a6), some (.inl a7)]) (st' := [.inr 10]) (σ1 := σ) rfl ?_
    refine go_V (M1 := m_X5_hasRoom) (as := []) (st := []) (k := 10) (ci := 5) dc_X10_keepPattern_4 ln_10_297 im_X5_hasRoom (by decide) rfl rfl mk_X5_hasRoom rfl (Nat.le_of_ble_eq_true rfl) (Nat.le_refl _) (v := (some (.inl (b2i (F_X5_hasRoom σ))))) (σ1 := σ) (lk_X5_hasRoom l d (by omega) σ _ rfl) _ rfl ?_
    rcases Decidable.em (¬ (F_X5_hasRoom σ) = true) with hc | hc
    · replace h := (if_neg hc).symm.trans h
      have h9 := Option.some.inj h
      subst h9
      exact go_SX (M1 := m_X10_demandState) (as := [.inl (b2i (F_X5_hasRoom σ))]) (st := []) dc_X10_keepPattern_7 ln_10_112 sm_X10_demandState rfl mk_X10_demandState rfl (Nat.le_of_ble_eq_true rfl) (Nat.le_refl _) (lkX_X10_demandState l d hl (by omega) _ hc LAYC σ) _ rfl
    replace hc := Decidable.not_not.mp hc
    replace h := (if_pos hc).symm.trans h
    refine go_S (M1 := m_X10_demandState) (as := [.inl (b2i (F_X5_hasRoom σ))]) (st := []) dc_X10_keepPattern_7 ln_10_112 sm_X10_demandState mk_X10_demandState rfl (Nat.le_of_ble_eq_true rfl) (Nat.le_refl _) (v := none) (σ1 := σ) (lk_X10_demandState l d _ hc _ σ) _ rfl ?_
    refine go_ops ok_X10_keepPattern_10_9 (L' := [some (.inr 0), some (.inl a1), some (.inl a2), some (.inl a3), some (.inl a4), some (.inl a5), some (.inl a6), some (.inl a7)]) (st' := [.inl a7, .inl a6, .inl a5, .inl a4, .inl a3, .inl a2, .inl a1, .inr 10]) (σ1 := σ) rfl ?_
    obtain ⟨q1, e2, h⟩ := bind_inv h
    refine go_V (M1 := m_X5_keep) (as := [.inl a1, .inl a2, .inl a3, .inl a4, .inl a5, .inl a6, .inl a7]) (st := []) (k := 10) (ci := 5) dc_X10_keepPattern_25 ln_10_298 im_X5_keep (by decide) rfl rfl mk_X5_keep rfl (Nat.le_of_ble_eq_true rfl) (Nat.le_refl _) (v := (some (.inl q1.1))) (σ1 := q1.2) (lk_X5_keep l d (by omega) a1 a2 a3 a4 a5 a6 a7 σ q1 e2) _ rfl ?_
    have h9 := Option.some.inj h
    subst h9
    exact go_iret dc_X10_keepPattern_28 rfl
  have hf := go_co (as := [.inr 0, .inl a1, .inl a2, .inl a3, .inl a4, .inl a5, .inl a6, .inl a7]) mk_X10_keepPattern (fun _ _ => by decide +kernel) (by rfl) (Nat.le_of_ble_eq_true rfl) key
  exact hf
theorem dc_X10_any_8 : decode m_X10_any.2.2.1 8 = .ok (.invokevirtual 155, 3) := by decide +kernel
theorem dc_X10_any_11 : decode m_X10_any.2.2.1 11 = .ok (.ireturn, 1) := by decide +kernel
theorem ok_X10_any_0_8 : oks m_X10_any.1 m_X10_any.2.2.1 0 [(.aload_n 0, 1, (0, 0, 0)), (.iconst 0, 1, (0, 0, 0)), (.iconst (-1), 1, (0, 0, 0)), (.iconst 0, 1, (0, 0, 0)), (.iconst 0, 1, (0, 0, 0)), (.iconst (-1), 1, (0, 0, 0)), (.iconst (-1), 1, (0, 0, 0)), (.iconst (-1), 1, (0, 0, 0))] = true ∧ plen 0 [(.aload_n 0, 1, (0, 0, 0)), (.iconst 0, 1, (0, 0, 0)), (.iconst (-1), 1, (0, 0, 0)), (.iconst 0, 1, (0, 0, 0)), (.iconst 0, 1, (0, 0, 0)), (.iconst (-1), 1, (0, 0, 0)), (.iconst (-1), 1, (0, 0, 0)), (.iconst (-1), 1, (0, 0, 0))] = 8 := by decide +kernel
def F_X10_any (σ : Sg) : Option ((Int ⊕ Nat) × Sg) :=
xb (F_X10_keepPattern 0 (-1) 0 0 (-1) (-1) (-1) σ) (fun E σ => some (.inr E, σ)) fun v1 s2 =>
some (.inl v1, s2)
theorem lk_X10_any (l : Launch) (hl : l.stackTraces = false) (d : Nat) (hd : 8 ≤ d) (σ : Sg) (q : ((Int ⊕ Nat) × Sg)) (h : F_X10_any σ = some q) : outZ (ozI q.1) l d m_X10_any.2.1 m_X10_any.2.2.1 m_X10_any.2.2.2.1 m_X10_any.2.2.2.2 [.inr 0] (LAYC, σ) (LAYC, q.2) := by
  obtain ⟨d, rfl⟩ : ∃ e, d = e + 1 := ⟨d - 1, by omega⟩
  have key : Go l m_X10_any (d + 1) LAYC (ozI q.1) q.2 0 [some (.inr 0)] [] σ := by
    unfold F_X10_any at h
    refine go_ops ok_X10_any_0_8 (L' := [some (.inr 0)]) (st' := [.inl (-1), .inl (-1), .inl (-1), .inl 0, .inl 0, .inl (-1), .inl 0, .inr 0]) (σ1 := σ) rfl ?_
    rcases xb_inv h with ⟨E1, s2, e3, h⟩ | ⟨v1, s2, e3, h⟩
    · have h9 := Option.some.inj h
      subst h9
      exact go_VX (M1 := m_X10_keepPattern) (as := [.inl 0, .inl (-1), .inl 0, .inl 0, .inl (-1), .inl (-1), .inl (-1)]) (st := []) (k := 0) (ci := 10) dc_X10_any_8 ln_10_155 im_X10_keepPattern (by decide) rfl rfl mk_X10_keepPattern rfl (Nat.le_of_ble_eq_true rfl) (Nat.le_refl _) (lk_X10_keepPattern l hl d (by omega) 0 (-1) 0 0 (-1) (-1) (-1) σ _ e3) _ rfl
    refine go_V (M1 := m_X10_keepPattern) (as := [.inl 0, .inl (-1), .inl 0, .inl 0, .inl (-1), .inl (-1), .inl (-1)]) (st := []) (k := 0) (ci := 10) dc_X10_any_8 ln_10_155 im_X10_keepPattern (by decide) rfl rfl mk_X10_keepPattern rfl (Nat.le_of_ble_eq_true rfl) (Nat.le_refl _) (v := (some (.inl v1))) (σ1 := s2) (lk_X10_keepPattern l hl d (by omega) 0 (-1) 0 0 (-1) (-1) (-1) σ _ e3) _ rfl ?_
    have h9 := Option.some.inj h
    subst h9
    exact go_iret dc_X10_any_11 rfl
  have hf := go_co (as := [.inr 0]) mk_X10_any (fun _ _ => by decide +kernel) (by rfl) (Nat.le_of_ble_eq_true rfl) key
  exact hf
theorem dc_X10_name_1 : decode m_X10_name.2.2.1 1 = .ok (.invokestatic 159, 3) := by decide +kernel
theorem dc_X10_name_4 : decode m_X10_name.2.2.1 4 = .ok (.ifCond .eq 18, 3) := by decide +kernel
theorem dc_X10_name_12 : decode m_X10_name.2.2.1 12 = .ok (.invokevirtual 162, 3) := by decide +kernel
theorem dc_X10_name_15 : decode m_X10_name.2.2.1 15 = .ok (.ifCond .eq 7, 3) := by decide +kernel
theorem dc_X10_name_19 : decode m_X10_name.2.2.1 19 = .ok (.goto 4, 3) := by decide +kernel
theorem dc_X10_name_23 : decode m_X10_name.2.2.1 23 = .ok (.invokestatic 90, 3) := by decide +kernel
theorem dc_X10_name_32 : decode m_X10_name.2.2.1 32 = .ok (.invokevirtual 165, 3) := by decide +kernel
theorem dc_X10_name_35 : decode m_X10_name.2.2.1 35 = .ok (.ifCond .ne 7, 3) := by decide +kernel
theorem dc_X10_name_39 : decode m_X10_name.2.2.1 39 = .ok (.goto 4, 3) := by decide +kernel
theorem dc_X10_name_43 : decode m_X10_name.2.2.1 43 = .ok (.invokestatic 98, 3) := by decide +kernel
theorem dc_X10_name_53 : decode m_X10_name.2.2.1 53 = .ok (.invokevirtual 168, 3) := by decide +kernel
theorem dc_X10_name_56 : decode m_X10_name.2.2.1 56 = .ok (.invokestatic 98, 3) := by decide +kernel
theorem dc_X10_name_66 : decode m_X10_name.2.2.1 66 = .ok (.invokevirtual 171, 3) := by decide +kernel
theorem dc_X10_name_74 : decode m_X10_name.2.2.1 74 = .ok (.invokevirtual 155, 3) := by decide +kernel
theorem dc_X10_name_77 : decode m_X10_name.2.2.1 77 = .ok (.ireturn, 1) := by decide +kernel
theorem ok_X10_name_0_1 : oks m_X10_name.1 m_X10_name.2.2.1 0 [(.iload_n 1, 1, (0, 0, 0))] = true ∧ plen 0 [(.iload_n 1, 1, (0, 0, 0))] = 1 := by decide +kernel
theorem ok_X10_name_7_3 : oks m_X10_name.1 m_X10_name.2.2.1 7 [(.aload_n 0, 1, (0, 0, 0)), (.getfield 26, 3, (10, 2, 0)), (.iload_n 2, 1, (0, 0, 0))] = true ∧ plen 7 [(.aload_n 0, 1, (0, 0, 0)), (.getfield 26, 3, (10, 2, 0)), (.iload_n 2, 1, (0, 0, 0))] = 12 := by decide +kernel
theorem ok_X10_name_18_1 : oks m_X10_name.1 m_X10_name.2.2.1 18 [(.iconst 1, 1, (0, 0, 0))] = true ∧ plen 18 [(.iconst 1, 1, (0, 0, 0))] = 19 := by decide +kernel
theorem ok_X10_name_22_1 : oks m_X10_name.1 m_X10_name.2.2.1 22 [(.iconst 0, 1, (0, 0, 0))] = true ∧ plen 22 [(.iconst 0, 1, (0, 0, 0))] = 23 := by decide +kernel
theorem ok_X10_name_26_4 : oks m_X10_name.1 m_X10_name.2.2.1 26 [(.aload_n 0, 1, (0, 0, 0)), (.getfield 26, 3, (10, 2, 0)), (.iload_n 2, 1, (0, 0, 0)), (.iload_n 1, 1, (0, 0, 0))] = true ∧ plen 26 [(.aload_n 0, 1, (0, 0, 0)), (.getfield 26, 3, (10, 2, 0)), (.iload_n 2, 1, (0, 0, 0)), (.iload_n 1, 1, (0, 0, 0))] = 32 := by decide +kernel
theorem ok_X10_name_38_1 : oks m_X10_name.1 m_X10_name.2.2.1 38 [(.iconst 1, 1, (0, 0, 0))] = true ∧ plen 38 [(.iconst 1, 1, (0, 0, 0))] = 39 := by decide +kernel
theorem ok_X10_name_42_1 : oks m_X10_name.1 m_X10_name.2.2.1 42 [(.iconst 0, 1, (0, 0, 0))] = true ∧ plen 42 [(.iconst 0, 1, (0, 0, 0))] = 43 := by decide +kernel
theorem ok_X10_name_46_5 : oks m_X10_name.1 m_X10_name.2.2.1 46 [(.aload_n 0, 1, (0, 0, 0)), (.getfield 26, 3, (10, 2, 0)), (.iload_n 2, 1, (0, 0, 0)), (.iconst (-1), 1, (0, 0, 0)), (.iconst (-1), 1, (0, 0, 0))] = true ∧ plen 46 [(.aload_n 0, 1, (0, 0, 0)), (.getfield 26, 3, (10, 2, 0)), (.iload_n 2, 1, (0, 0, 0)), (.iconst (-1), 1, (0, 0, 0)), (.iconst (-1), 1, (0, 0, 0))] = 53 := by decide +kernel
theorem ok_X10_name_59_5 : oks m_X10_name.1 m_X10_name.2.2.1 59 [(.aload_n 0, 1, (0, 0, 0)), (.iconst 1, 1, (0, 0, 0)), (.aload_n 0, 1, (0, 0, 0)), (.getfield 26, 3, (10, 2, 0)), (.iload_n 2, 1, (0, 0, 0))] = true ∧ plen 59 [(.aload_n 0, 1, (0, 0, 0)), (.iconst 1, 1, (0, 0, 0)), (.aload_n 0, 1, (0, 0, 0)), (.getfield 26, 3, (10, 2, 0)), (.iload_n 2, 1, (0, 0, 0))] = 66 := by decide +kernel
theorem ok_X10_name_69_5 : oks m_X10_name.1 m_X10_name.2.2.1 69 [(.iload_n 1, 1, (0, 0, 0)), (.iload_n 1, 1, (0, 0, 0)), (.iload_n 2, 1, (0, 0, 0)), (.iconst (-1), 1, (0, 0, 0)), (.iconst (-1), 1, (0, 0, 0))] = true ∧ plen 69 [(.iload_n 1, 1, (0, 0, 0)), (.iload_n 1, 1, (0, 0, 0)), (.iload_n 2, 1, (0, 0, 0)), (.iconst (-1), 1, (0, 0, 0)), (.iconst (-1), 1, (0, 0, 0))] = 74 := by decide +kernel
def B_X10_name_43 (x1 : Int) (x2 : Int) (y0 : Bool) (σ : Sg) : Option ((Int ⊕ Nat) × Sg) :=
if y0 = true then
if (F_X5_isSmall x2 (-1) (-1) σ) = true then
xb (F_X10_keepPattern 1 (F_X5_kindOf x2 σ) x1 x1 x2 (-1) (-1) σ) (fun E σ => some (.inr E, σ)) fun v1 s2 =>
some (.inl v1, s2)
else some (.inr 1, σ)
else some (.inr 1, σ)
def B_X10_name_23 (x1 : Int) (x2 : Int) (y0 : Bool) (σ : Sg) : Option ((Int ⊕ Nat) × Sg) :=
if y0 = true then
if (F_X5_binds x2 x1 σ) = true then
B_X10_name_43 x1 x2 false σ
else
B_X10_name_43 x1 x2 true σ
else some (.inr 0, σ)
def B_X10_name_22 (x1 : Int) (x2 : Int) (σ : Sg) : Option ((Int ⊕ Nat) × Sg) :=
B_X10_name_23 x1 x2 false σ
def F_X10_name (a1 : Int) (a2 : Int) (σ : Sg) : Option ((Int ⊕ Nat) × Sg) :=
if (F_X10_isName a1) = true then
if (F_X5_isThere a2 σ) = true then
B_X10_name_23 a1 a2 true σ
else
B_X10_name_22 a1 a2 σ
else
B_X10_name_22 a1 a2 σ
theorem lk_X10_name (l : Launch) (hl : l.stackTraces = false) (d : Nat) (hd : 8 ≤ d) (a1 : Int) (a2 : Int) (σ : Sg) (q : ((Int ⊕ Nat) × Sg)) (h : F_X10_name a1 a2 σ = some q) : outZ (ozI q.1) l d m_X10_name.2.1 m_X10_name.2.2.1 m_X10_name.2.2.2.1 m_X10_name.2.2.2.2 [.inr 0, .inl a1, .inl a2] (LAYC, σ) (LAYC, q.2) := by
  obtain ⟨d, rfl⟩ : ∃ e, d = e + 1 := ⟨d - 1, by omega⟩
  have key : Go l m_X10_name (d + 1) LAYC (ozI q.1) q.2 0 [some (.inr 0), some (.inl a1), some (.inl a2)] [] σ := by
    unfold F_X10_name at h
    have hB_X10_name_43 : ∀ (x1 : Int) (x2 : Int) (y0 : Bool) (σ : Sg), B_X10_name_43 x1 x2 y0 σ = some q → Go l m_X10_name (d + 1) LAYC (ozI q.1) q.2 43 [some (.inr 0), some (.inl x1), some (.inl x2)] [.inl (b2i y0)] σ := by
      intro x1 x2 y0 σ h
      unfold B_X10_name_43 at h
      rcases Decidable.em (¬ y0 = true) with hc | hc
      · replace h := (if_neg hc).symm.trans h
        have h9 := Option.some.inj h
        subst h9
        exact go_SX (M1 := m_X10_demandArgument) (as := [.inl (b2i y0)]) (st := []) dc_X10_name_43 ln_10_98 sm_X10_demandArgument rfl mk_X10_demandArgument rfl (Nat.le_of_ble_eq_true rfl) (Nat.le_refl _) (lkX_X10_demandArgument l d hl (by omega) _ hc LAYC σ) _ rfl
      replace hc := Decidable.not_not.mp hc
      replace h := (if_pos hc).symm.trans h
      refine go_S (M1 := m_X10_demandArgument) (as := [.inl (b2i y0)]) (st := []) dc_X10_name_43 ln_10_98 sm_X10_demandArgument mk_X10_demandArgument rfl (Nat.le_of_ble_eq_true rfl) (Nat.le_refl _) (v := none) (σ1 := σ) (lk_X10_demandArgument l d _ hc _ σ) _ rfl ?_
      refine go_ops ok_X10_name_46_5 (L' := [some (.inr 0), some (.inl x1), some (.inl x2)]) (st' := [.inl (-1), .inl (-1), .inl x2, .inr 10]) (σ1 := σ) rfl ?_
      refine go_V (M1 := m_X5_isSmall) (as := [.inl x2, .inl (-1), .inl (-1)]) (st := []) (k := 10) (ci := 5) dc_X10_name_53 ln_10_168 im_X5_isSmall (by decide) rfl rfl mk_X5_isSmall rfl (Nat.le_of_ble_eq_true rfl) (Nat.le_refl _) (v := (some (.inl (b2i (F_X5_isSmall x2 (-1) (-1) σ))))) (σ1 := σ) (lk_X5_isSmall l d (by omega) x2 (-1) (-1) σ _ rfl) _ rfl ?_
      rcases Decidable.em (¬ (F_X5_isSmall x2 (-1) (-1) σ) = true) with hc | hc
      · replace h := (if_neg hc).symm.trans h
        have h9 := Option.some.inj h
        subst h9
        exact go_SX (M1 := m_X10_demandArgument) (as := [.inl (b2i (F_X5_isSmall x2 (-1) (-1) σ))]) (st := []) dc_X10_name_56 ln_10_98 sm_X10_demandArgument rfl mk_X10_demandArgument rfl (Nat.le_of_ble_eq_true rfl) (Nat.le_refl _) (lkX_X10_demandArgument l d hl (by omega) _ hc LAYC σ) _ rfl
      replace hc := Decidable.not_not.mp hc
      replace h := (if_pos hc).symm.trans h
      refine go_S (M1 := m_X10_demandArgument) (as := [.inl (b2i (F_X5_isSmall x2 (-1) (-1) σ))]) (st := []) dc_X10_name_56 ln_10_98 sm_X10_demandArgument mk_X10_demandArgument rfl (Nat.le_of_ble_eq_true rfl) (Nat.le_refl _) (v := none) (σ1 := σ) (lk_X10_demandArgument l d _ hc _ σ) _ rfl ?_
      refine go_ops ok_X10_name_59_5 (L' := [some (.inr 0), some (.inl x1), some (.inl x2)]) (st' := [.inl x2, .inr 10, .inl 1, .inr 0]) (σ1 := σ) rfl ?_
      refine go_V (M1 := m_X5_kindOf) (as := [.inl x2]) (st := [.inl 1, .inr 0]) (k := 10) (ci := 5) dc_X10_name_66 ln_10_171 im_X5_kindOf (by decide) rfl rfl mk_X5_kindOf rfl (Nat.le_of_ble_eq_true rfl) (Nat.le_refl _) (v := (some (.inl (F_X5_kindOf x2 σ)))) (σ1 := σ) (lk_X5_kindOf l d (by omega) x2 σ _ rfl) _ rfl ?_
      refine go_ops ok_X10_name_69_5 (L' := [some (.inr 0), some (.inl x1), some (.inl x2)]) (st' := [.inl (-1), .inl (-1), .inl x2, .inl x1, .inl x1, .inl (F_X5_kindOf x2 σ), .inl 1, .inr 0]) (σ1 := σ) rfl ?_
      rcases xb_inv h with ⟨E1, s2, e3, h⟩ | ⟨v1, s2, e3, h⟩
      · have h9 := Option.some.inj h
        subst h9
        exact go_VX (M1 := m_X10_keepPattern) (as := [.inl 1, .inl (F_X5_kindOf x2 σ), .inl x1, .inl x1, .inl x2, .inl (-1), .inl (-1)]) (st := []) (k := 0) (ci := 10) dc_X10_name_74 ln_10_155 im_X10_keepPattern (by decide) rfl rfl mk_X10_keepPattern rfl (Nat.le_of_ble_eq_true rfl) (Nat.le_refl _) (lk_X10_keepPattern l hl d (by omega) 1 (F_X5_kindOf x2 σ) x1 x1 x2 (-1) (-1) σ _ e3) _ rfl
      refine go_V (M1 := m_X10_keepPattern) (as := [.inl 1, .inl (F_X5_kindOf x2 σ), .inl x1, .inl x1, .inl x2, .inl (-1), .inl (-1)]) (st := []) (k := 0) (ci := 10) dc_X10_name_74 ln_10_155 im_X10_keepPattern (by decide) rfl rfl mk_X10_keepPattern rfl (Nat.le_of_ble_eq_true rfl) (Nat.le_refl _) (v := (some (.inl v1))) (σ1 := s2) (lk_X10_keepPattern l hl d (by omega) 1 (F_X5_kindOf x2 σ) x1 x1 x2 (-1) (-1) σ _ e3) _ rfl ?_
      have h9 := Option.some.inj h
      subst h9
      exact go_iret dc_X10_name_77 rfl
    have hB_X10_name_23 : ∀ (x1 : Int) (x2 : Int) (y0 : Bool) (σ : Sg), B_X10_name_23 x1 x2 y0 σ = some q → Go l m_X10_name (d + 1) LAYC (ozI q.1) q.2 23 [some (.inr 0), some (.inl x1), some (.inl x2)] [.inl (b2i y0)] σ := by
      intro x1 x2 y0 σ h
      unfold B_X10_name_23 at h
      rcases Decidable.em (¬ y0 = true) with hc | hc
      · replace h := (if_neg hc).symm.trans h
        have h9 := Option.some.inj h
        subst h9
        exact go_SX (M1 := m_X10_demandIndex) (as := [.inl (b2i y0)]) (st := []) dc_X10_name_23 ln_10_90 sm_X10_demandIndex rfl mk_X10_demandIndex rfl (Nat.le_of_ble_eq_true rfl) (Nat.le_refl _) (lkX_X10_demandIndex l d hl (by omega) _ hc LAYC σ) _ rfl
      replace hc := Decidable.not_not.mp hc
      replace h := (if_pos hc).symm.trans h
      refine go_S (M1 := m_X10_demandIndex) (as := [.inl (b2i y0)]) (st := []) dc_X10_name_23 ln_10_90 sm_X10_demandIndex mk_X10_demandIndex rfl (Nat.le_of_ble_eq_true rfl) (Nat.le_refl _) (v := none) (σ1 := σ) (lk_X10_demandIndex l d _ hc _ σ) _ rfl ?_
      refine go_ops ok_X10_name_26_4 (L' := [some (.inr 0), some (.inl x1), some (.inl x2)]) (st' := [.inl x1, .inl x2, .inr 10]) (σ1 := σ) rfl ?_
      refine go_V (M1 := m_X5_binds) (as := [.inl x2, .inl x1]) (st := []) (k := 10) (ci := 5) dc_X10_name_32 ln_10_165 im_X5_binds (by decide) rfl rfl mk_X5_binds rfl (Nat.le_of_ble_eq_true rfl) (Nat.le_refl _) (v := (some (.inl (b2i (F_X5_binds x2 x1 σ))))) (σ1 := σ) (lk_X5_binds l d (by omega) x2 x1 σ _ rfl) _ rfl ?_
      refine go_ifb_ne dc_X10_name_35 (by rfl) (fun hc => ?_) (fun hc => ?_)
      · replace h := (if_pos hc).symm.trans h
        refine go_ops ok_X10_name_42_1 (L' := [some (.inr 0), some (.inl x1), some (.inl x2)]) (st' := [.inl 0]) (σ1 := σ) rfl ?_
        exact hB_X10_name_43 x1 x2 false σ h
      · replace h := (if_neg hc).symm.trans h
        refine go_ops ok_X10_name_38_1 (L' := [some (.inr 0), some (.inl x1), some (.inl x2)]) (st' := [.inl 1]) (σ1 := σ) rfl ?_
        refine go_goto dc_X10_name_39 (by rfl) ?_
        exact hB_X10_name_43 x1 x2 true σ h
    have hB_X10_name_22 : ∀ (x1 : Int) (x2 : Int) (σ : Sg), B_X10_name_22 x1 x2 σ = some q → Go l m_X10_name (d + 1) LAYC (ozI q.1) q.2 22 [some (.inr 0), some (.inl x1), some (.inl x2)] [] σ := by
      intro x1 x2 σ h
      unfold B_X10_name_22 at h
      refine go_ops ok_X10_name_22_1 (L' := [some (.inr 0), some (.inl x1), some (.inl x2)]) (st' := [.inl 0]) (σ1 := σ) rfl ?_
      exact hB_X10_name_23 x1 x2 false σ h
    refine go_ops ok_X10_name_0_1 (L' := [some (.inr 0), some (.inl a1), some (.inl a2)]) (st' := [.inl a1]) (σ1 := σ) rfl ?_
    refine go_S (M1 := m_X10_isName) (as := [.inl a1]) (st := []) dc_X10_name_1 ln_10_159 sm_X10_isName mk_X10_isName rfl (Nat.le_of_ble_eq_true rfl) (Nat.le_refl _) (v := (some (.inl (b2i (F_X10_isName a1))))) (σ1 := σ) (lk_X10_isName l d (by omega) a1 σ _ rfl) _ rfl ?_
    refine go_ifb_eq dc_X10_name_4 (by rfl) (fun hc => ?_) (fun hc => ?_)
    · replace h := (if_neg hc).symm.trans h
      exact hB_X10_name_22 a1 a2 σ h
    · replace h := (if_pos hc).symm.trans h
      refine go_ops ok_X10_name_7_3 (L' := [some (.inr 0), some (.inl a1), some (.inl a2)]) (st' := [.inl a2, .inr 10]) (σ1 := σ) rfl ?_
      refine go_V (M1 := m_X5_isThere) (as := [.inl a2]) (st := []) (k := 10) (ci := 5) dc_X10_name_12 ln_10_162 im_X5_isThere (by decide) rfl rfl mk_X5_isThere rfl (Nat.le_of_ble_eq_true rfl) (Nat.le_refl _) (v := (some (.inl (b2i (F_X5_isThere a2 σ))))) (σ1 := σ) (lk_X5_isThere l d (by omega) a2 σ _ rfl) _ rfl ?_
      refine go_ifb_eq dc_X10_name_15 (by rfl) (fun hc => ?_) (fun hc => ?_)
      · replace h := (if_neg hc).symm.trans h
        exact hB_X10_name_22 a1 a2 σ h
      · replace h := (if_pos hc).symm.trans h
        refine go_ops ok_X10_name_18_1 (L' := [some (.inr 0), some (.inl a1), some (.inl a2)]) (st' := [.inl 1]) (σ1 := σ) rfl ?_
        refine go_goto dc_X10_name_19 (by rfl) ?_
        exact hB_X10_name_23 a1 a2 true σ h
  have hf := go_co (as := [.inr 0, .inl a1, .inl a2]) mk_X10_name (fun _ _ => by decide +kernel) (by rfl) (Nat.le_of_ble_eq_true rfl) key
  exact hf
theorem dc_X10_range_1 : decode m_X10_range.2.2.1 1 = .ok (.invokestatic 122, 3) := by decide +kernel
theorem dc_X10_range_4 : decode m_X10_range.2.2.1 4 = .ok (.ifCond .eq 17, 3) := by decide +kernel
theorem dc_X10_range_11 : decode m_X10_range.2.2.1 11 = .ok (.invokestatic 94, 3) := by decide +kernel
theorem dc_X10_range_14 : decode m_X10_range.2.2.1 14 = .ok (.ifCond .eq 7, 3) := by decide +kernel
theorem dc_X10_range_18 : decode m_X10_range.2.2.1 18 = .ok (.goto 4, 3) := by decide +kernel
theorem dc_X10_range_22 : decode m_X10_range.2.2.1 22 = .ok (.invokestatic 98, 3) := by decide +kernel
theorem dc_X10_range_33 : decode m_X10_range.2.2.1 33 = .ok (.invokevirtual 155, 3) := by decide +kernel
theorem dc_X10_range_36 : decode m_X10_range.2.2.1 36 = .ok (.ireturn, 1) := by decide +kernel
theorem ok_X10_range_0_1 : oks m_X10_range.1 m_X10_range.2.2.1 0 [(.iload_n 1, 1, (0, 0, 0))] = true ∧ plen 0 [(.iload_n 1, 1, (0, 0, 0))] = 1 := by decide +kernel
theorem ok_X10_range_7_3 : oks m_X10_range.1 m_X10_range.2.2.1 7 [(.iload_n 2, 1, (0, 0, 0)), (.iload_n 1, 1, (0, 0, 0)), (.bipush 9, 2, (0, 0, 0))] = true ∧ plen 7 [(.iload_n 2, 1, (0, 0, 0)), (.iload_n 1, 1, (0, 0, 0)), (.bipush 9, 2, (0, 0, 0))] = 11 := by decide +kernel
theorem ok_X10_range_17_1 : oks m_X10_range.1 m_X10_range.2.2.1 17 [(.iconst 1, 1, (0, 0, 0))] = true ∧ plen 17 [(.iconst 1, 1, (0, 0, 0))] = 18 := by decide +kernel
theorem ok_X10_range_21_1 : oks m_X10_range.1 m_X10_range.2.2.1 21 [(.iconst 0, 1, (0, 0, 0))] = true ∧ plen 21 [(.iconst 0, 1, (0, 0, 0))] = 22 := by decide +kernel
theorem ok_X10_range_25_8 : oks m_X10_range.1 m_X10_range.2.2.1 25 [(.aload_n 0, 1, (0, 0, 0)), (.iconst 2, 1, (0, 0, 0)), (.iconst 4, 1, (0, 0, 0)), (.iload_n 1, 1, (0, 0, 0)), (.iload_n 2, 1, (0, 0, 0)), (.iconst (-1), 1, (0, 0, 0)), (.iconst (-1), 1, (0, 0, 0)), (.iconst (-1), 1, (0, 0, 0))] = true ∧ plen 25 [(.aload_n 0, 1, (0, 0, 0)), (.iconst 2, 1, (0, 0, 0)), (.iconst 4, 1, (0, 0, 0)), (.iload_n 1, 1, (0, 0, 0)), (.iload_n 2, 1, (0, 0, 0)), (.iconst (-1), 1, (0, 0, 0)), (.iconst (-1), 1, (0, 0, 0)), (.iconst (-1), 1, (0, 0, 0))] = 33 := by decide +kernel
def B_X10_range_22 (x1 : Int) (x2 : Int) (y0 : Bool) (σ : Sg) : Option ((Int ⊕ Nat) × Sg) :=
if y0 = true then
xb (F_X10_keepPattern 2 4 x1 x2 (-1) (-1) (-1) σ) (fun E σ => some (.inr E, σ)) fun v1 s2 =>
some (.inl v1, s2)
else some (.inr 1, σ)
def B_X10_range_21 (x1 : Int) (x2 : Int) (σ : Sg) : Option ((Int ⊕ Nat) × Sg) :=
B_X10_range_22 x1 x2 false σ
def F_X10_range (a1 : Int) (a2 : Int) (σ : Sg) : Option ((Int ⊕ Nat) × Sg) :=
if (F_X10_isDigit a1) = true then
if (F_X10_isIn a2 a1 9) = true then
B_X10_range_22 a1 a2 true σ
else
B_X10_range_21 a1 a2 σ
else
B_X10_range_21 a1 a2 σ
theorem lk_X10_range (l : Launch) (hl : l.stackTraces = false) (d : Nat) (hd : 8 ≤ d) (a1 : Int) (a2 : Int) (σ : Sg) (q : ((Int ⊕ Nat) × Sg)) (h : F_X10_range a1 a2 σ = some q) : outZ (ozI q.1) l d m_X10_range.2.1 m_X10_range.2.2.1 m_X10_range.2.2.2.1 m_X10_range.2.2.2.2 [.inr 0, .inl a1, .inl a2] (LAYC, σ) (LAYC, q.2) := by
  obtain ⟨d, rfl⟩ : ∃ e, d = e + 1 := ⟨d - 1, by omega⟩
  have key : Go l m_X10_range (d + 1) LAYC (ozI q.1) q.2 0 [some (.inr 0), some (.inl a1), some (.inl a2)] [] σ := by
    unfold F_X10_range at h
    have hB_X10_range_22 : ∀ (x1 : Int) (x2 : Int) (y0 : Bool) (σ : Sg), B_X10_range_22 x1 x2 y0 σ = some q → Go l m_X10_range (d + 1) LAYC (ozI q.1) q.2 22 [some (.inr 0), some (.inl x1), some (.inl x2)] [.inl (b2i y0)] σ := by
      intro x1 x2 y0 σ h
      unfold B_X10_range_22 at h
      rcases Decidable.em (¬ y0 = true) with hc | hc
      · replace h := (if_neg hc).symm.trans h
        have h9 := Option.some.inj h
        subst h9
        exact go_SX (M1 := m_X10_demandArgument) (as := [.inl (b2i y0)]) (st := []) dc_X10_range_22 ln_10_98 sm_X10_demandArgument rfl mk_X10_demandArgument rfl (Nat.le_of_ble_eq_true rfl) (Nat.le_refl _) (lkX_X10_demandArgument l d hl (by omega) _ hc LAYC σ) _ rfl
      replace hc := Decidable.not_not.mp hc
      replace h := (if_pos hc).symm.trans h
      refine go_S (M1 := m_X10_demandArgument) (as := [.inl (b2i y0)]) (st := []) dc_X10_range_22 ln_10_98 sm_X10_demandArgument mk_X10_demandArgument rfl (Nat.le_of_ble_eq_true rfl) (Nat.le_refl _) (v := none) (σ1 := σ) (lk_X10_demandArgument l d _ hc _ σ) _ rfl ?_
      refine go_ops ok_X10_range_25_8 (L' := [some (.inr 0), some (.inl x1), some (.inl x2)]) (st' := [.inl (-1), .inl (-1), .inl (-1), .inl x2, .inl x1, .inl 4, .inl 2, .inr 0]) (σ1 := σ) rfl ?_
      rcases xb_inv h with ⟨E1, s2, e3, h⟩ | ⟨v1, s2, e3, h⟩
      · have h9 := Option.some.inj h
        subst h9
        exact go_VX (M1 := m_X10_keepPattern) (as := [.inl 2, .inl 4, .inl x1, .inl x2, .inl (-1), .inl (-1), .inl (-1)]) (st := []) (k := 0) (ci := 10) dc_X10_range_33 ln_10_155 im_X10_keepPattern (by decide) rfl rfl mk_X10_keepPattern rfl (Nat.le_of_ble_eq_true rfl) (Nat.le_refl _) (lk_X10_keepPattern l hl d (by omega) 2 4 x1 x2 (-1) (-1) (-1) σ _ e3) _ rfl
      refine go_V (M1 := m_X10_keepPattern) (as := [.inl 2, .inl 4, .inl x1, .inl x2, .inl (-1), .inl (-1), .inl (-1)]) (st := []) (k := 0) (ci := 10) dc_X10_range_33 ln_10_155 im_X10_keepPattern (by decide) rfl rfl mk_X10_keepPattern rfl (Nat.le_of_ble_eq_true rfl) (Nat.le_refl _) (v := (some (.inl v1))) (σ1 := s2) (lk_X10_keepPattern l hl d (by omega) 2 4 x1 x2 (-1) (-1) (-1) σ _ e3) _ rfl ?_
      have h9 := Option.some.inj h
      subst h9
      exact go_iret dc_X10_range_36 rfl
    have hB_X10_range_21 : ∀ (x1 : Int) (x2 : Int) (σ : Sg), B_X10_range_21 x1 x2 σ = some q → Go l m_X10_range (d + 1) LAYC (ozI q.1) q.2 21 [some (.inr 0), some (.inl x1), some (.inl x2)] [] σ := by
      intro x1 x2 σ h
      unfold B_X10_range_21 at h
      refine go_ops ok_X10_range_21_1 (L' := [some (.inr 0), some (.inl x1), some (.inl x2)]) (st' := [.inl 0]) (σ1 := σ) rfl ?_
      exact hB_X10_range_22 x1 x2 false σ h
    refine go_ops ok_X10_range_0_1 (L' := [some (.inr 0), some (.inl a1), some (.inl a2)]) (st' := [.inl a1]) (σ1 := σ) rfl ?_
    refine go_S (M1 := m_X10_isDigit) (as := [.inl a1]) (st := []) dc_X10_range_1 ln_10_122 sm_X10_isDigit mk_X10_isDigit rfl (Nat.le_of_ble_eq_true rfl) (Nat.le_refl _) (v := (some (.inl (b2i (F_X10_isDigit a1))))) (σ1 := σ) (lk_X10_isDigit l d (by omega) a1 σ _ rfl) _ rfl ?_
    refine go_ifb_eq dc_X10_range_4 (by rfl) (fun hc => ?_) (fun hc => ?_)
    · replace h := (if_neg hc).symm.trans h
      exact hB_X10_range_21 a1 a2 σ h
    · replace h := (if_pos hc).symm.trans h
      refine go_ops ok_X10_range_7_3 (L' := [some (.inr 0), some (.inl a1), some (.inl a2)]) (st' := [.inl 9, .inl a1, .inl a2]) (σ1 := σ) rfl ?_
      refine go_S (M1 := m_X10_isIn) (as := [.inl a2, .inl a1, .inl 9]) (st := []) dc_X10_range_11 ln_10_94 sm_X10_isIn mk_X10_isIn rfl (Nat.le_of_ble_eq_true rfl) (Nat.le_refl _) (v := (some (.inl (b2i (F_X10_isIn a2 a1 9))))) (σ1 := σ) (lk_X10_isIn l d (by omega) a2 a1 9 σ _ rfl) _ rfl ?_
      refine go_ifb_eq dc_X10_range_14 (by rfl) (fun hc => ?_) (fun hc => ?_)
      · replace h := (if_neg hc).symm.trans h
        exact hB_X10_range_21 a1 a2 σ h
      · replace h := (if_pos hc).symm.trans h
        refine go_ops ok_X10_range_17_1 (L' := [some (.inr 0), some (.inl a1), some (.inl a2)]) (st' := [.inl 1]) (σ1 := σ) rfl ?_
        refine go_goto dc_X10_range_18 (by rfl) ?_
        exact hB_X10_range_22 a1 a2 true σ h
  have hf := go_co (as := [.inr 0, .inl a1, .inl a2]) mk_X10_range (fun _ _ => by decide +kernel) (by rfl) (Nat.le_of_ble_eq_true rfl) key
  exact hf
theorem dc_X10_demandPatterns_6 : decode m_X10_demandPatterns.2.2.1 6 = .ok (.if_icmp .ge 28, 3) := by decide +kernel
theorem dc_X10_demandPatterns_19 : decode m_X10_demandPatterns.2.2.1 19 = .ok (.invokestatic 101, 3) := by decide +kernel
theorem dc_X10_demandPatterns_22 : decode m_X10_demandPatterns.2.2.1 22 = .ok (.invokevirtual 162, 3) := by decide +kernel
theorem dc_X10_demandPatterns_25 : decode m_X10_demandPatterns.2.2.1 25 = .ok (.invokestatic 90, 3) := by decide +kernel
theorem dc_X10_demandPatterns_31 : decode m_X10_demandPatterns.2.2.1 31 = .ok (.goto (-28), 3) := by decide +kernel
theorem dc_X10_demandPatterns_34 : decode m_X10_demandPatterns.2.2.1 34 = .ok (.return_, 1) := by decide +kernel
theorem ok_X10_demandPatterns_0_2 : oks m_X10_demandPatterns.1 m_X10_demandPatterns.2.2.1 0 [(.iconst 0, 1, (0, 0, 0)), (.istore 5, 2, (0, 0, 0))] = true ∧ plen 0 [(.iconst 0, 1, (0, 0, 0)), (.istore 5, 2, (0, 0, 0))] = 3 := by decide +kernel
theorem ok_X10_demandPatterns_3_2 : oks m_X10_demandPatterns.1 m_X10_demandPatterns.2.2.1 3 [(.iload 5, 2, (0, 0, 0)), (.iload_n 1, 1, (0, 0, 0))] = true ∧ plen 3 [(.iload 5, 2, (0, 0, 0)), (.iload_n 1, 1, (0, 0, 0))] = 6 := by decide +kernel
theorem ok_X10_demandPatterns_9_6 : oks m_X10_demandPatterns.1 m_X10_demandPatterns.2.2.1 9 [(.aload_n 0, 1, (0, 0, 0)), (.getfield 26, 3, (10, 2, 0)), (.iload 5, 2, (0, 0, 0)), (.iload_n 2, 1, (0, 0, 0)), (.iload_n 3, 1, (0, 0, 0)), (.iload 4, 2, (0, 0, 0))] = true ∧ plen 9 [(.aload_n 0, 1, (0, 0, 0)), (.getfield 26, 3, (10, 2, 0)), (.iload 5, 2, (0, 0, 0)), (.iload_n 2, 1, (0, 0, 0)), (.iload_n 3, 1, (0, 0, 0)), (.iload 4, 2, (0, 0, 0))] = 19 := by decide +kernel
theorem ok_X10_demandPatterns_28_1 : oks m_X10_demandPatterns.1 m_X10_demandPatterns.2.2.1 28 [(.iinc 5 1, 3, (0, 0, 0))] = true ∧ plen 28 [(.iinc 5 1, 3, (0, 0, 0))] = 31 := by decide +kernel
def L_X10_demandPatterns_3 (x1 : Int) (x2 : Int) (x3 : Int) (x4 : Int) (σ : Sg) (x5 : Int) : Option (Int ⊕ (Unit ⊕ ((Unit ⊕ Nat) × Sg))) :=
if x1 ≤ x5 then
some (.inr (.inl ()))
else
if (F_X5_isThere (F_X10_pick x5 x2 x3 x4) σ) = true then
some (.inl (wrap (x5 + 1)))
else some (.inr (.inr (.inr 0, σ)))
def F_X10_demandPatterns (a1 : Int) (a2 : Int) (a3 : Int) (a4 : Int) (σ : Sg) : Option ((Unit ⊕ Nat) × Sg) :=
(iter (fun a : Int => L_X10_demandPatterns_3 a1 a2 a3 a4 σ a) 3000 0).bind fun y1 => Sum.elim (fun z3 =>
some (.inl (), σ)) (fun r4 => some r4) y1
theorem lk_X10_demandPatterns (l : Launch) (hl : l.stackTraces = false) (d : Nat) (hd : 7 ≤ d) (a1 : Int) (a2 : Int) (a3 : Int) (a4 : Int) (σ : Sg) (q : ((Unit ⊕ Nat) × Sg)) (h : F_X10_demandPatterns a1 a2 a3 a4 σ = some q) : outZ (ozU q.1) l d m_X10_demandPatterns.2.1 m_X10_demandPatterns.2.2.1 m_X10_demandPatterns.2.2.2.1 m_X10_demandPatterns.2.2.2.2 [.inr 0, .inl a1, .inl a2, .inl a3, .inl a4] (LAYC, σ) (LAYC, q.2) := by
  obtain ⟨d, rfl⟩ : ∃ e, d = e + 1 := ⟨d - 1, by omega⟩
  have key : Go l m_X10_demandPatterns (d + 1) LAYC (ozU q.1) q.2 0 [some (.inr 0), some (.inl a1), some (.inl a2), some (.inl a3), some (.inl a4), none] [] σ := by
    unfold F_X10_demandPatterns at h
    have hL_X10_demandPatterns_3 : ∀ (x1 : Int) (x2 : Int) (x3 : Int) (x4 : Int) (σ : Sg) (n : Nat) (a : Int) (y : (Unit ⊕ ((Unit ⊕ Nat) × Sg))), iter (fun a : Int => L_X10_demandPatterns_3 x1 x2 x3 x4 σ a) n a = some y → (Sum.elim (fun y : Unit => Go l m_X10_demandPatterns (d + 1) LAYC (ozU q.1) q.2 34 [none, none, none, none, none, none] [] σ) (fun r : ((Unit ⊕ Nat) × Sg) => r = q)) y → (fun a : Int => Go l m_X10_demandPatterns (d + 1) LAYC (ozU q.1) q.2 3 [some (.inr 0), some (.inl x1), some (.inl x2), some (.inl x3), some (.inl x4), some (.inl a)] [] σ) a := by
      intro x1 x2 x3 x4 σ
      refine go_iter (G := fun a : Int => Go l m_X10_demandPatterns (d + 1) LAYC (ozU q.1) q.2 3 [some (.inr 0), some (.inl x1), some (.inl x2), some (.inl x3), some (.inl x4), some (.inl a)] [] σ) (K := Sum.elim (fun y : Unit => Go l m_X10_demandPatterns (d + 1) LAYC (ozU q.1) q.2 34 [none, none, none, none, none, none] [] σ) (fun r : ((Unit ⊕ Nat) × Sg) => r = q)) ?_
      rintro x5 w h hK
      replace h : L_X10_demandPatterns_3 x1 x2 x3 x4 σ x5 = some w := h
      show Go l m_X10_demandPatterns (d + 1) LAYC (ozU q.1) q.2 3 [some (.inr 0), some (.inl x1), some (.inl x2), some (.inl x3), some (.inl x4), some (.inl x5)] [] σ
      unfold L_X10_demandPatterns_3 at h
      refine go_ops ok_X10_demandPatterns_3_2 (L' := [some (.inr 0), some (.inl x1), some (.inl x2), some (.inl x3), some (.inl x4), some (.inl x5)]) (st' := [.inl x1, .inl x5]) (σ1 := σ) rfl ?_
      refine go_icmp_ge dc_X10_demandPatterns_6 (by rfl) (fun hc => ?_) (fun hc => ?_)
      · replace h := (if_pos hc).symm.trans h
        cases h
        refine go_wk (L' := [none, none, none, none, none, none]) trivial ?_
        exact hK
      · replace h := (if_neg hc).symm.trans h
        refine go_ops ok_X10_demandPatterns_9_6 (L' := [some (.inr 0), some (.inl x1), some (.inl x2), some (.inl x3), some (.inl x4), some (.inl x5)]) (st' := [.inl x4, .inl x3, .inl x2, .inl x5, .inr 10]) (σ1 := σ) rfl ?_
        refine go_S (M1 := m_X10_pick) (as := [.inl x5, .inl x2, .inl x3, .inl x4]) (st := [.inr 10]) dc_X10_demandPatterns_19 ln_10_101 sm_X10_pick mk_X10_pick rfl (Nat.le_of_ble_eq_true rfl) (Nat.le_refl _) (v := (some (.inl (F_X10_pick x5 x2 x3 x4)))) (σ1 := σ) (lk_X10_pick l d (by omega) x5 x2 x3 x4 σ _ rfl) _ rfl ?_
        refine go_V (M1 := m_X5_isThere) (as := [.inl (F_X10_pick x5 x2 x3 x4)]) (st := []) (k := 10) (ci := 5) dc_X10_demandPatterns_22 ln_10_162 im_X5_isThere (by decide) rfl rfl mk_X5_isThere rfl (Nat.le_of_ble_eq_true rfl) (Nat.le_refl _) (v := (some (.inl (b2i (F_X5_isThere (F_X10_pick x5 x2 x3 x4) σ))))) (σ1 := σ) (lk_X5_isThere l d (by omega) (F_X10_pick x5 x2 x3 x4) σ _ rfl) _ rfl ?_
        rcases Decidable.em (¬ (F_X5_isThere (F_X10_pick x5 x2 x3 x4) σ) = true) with hc | hc
        · replace h := (if_neg hc).symm.trans h
          cases h
          have hK2 : _ = q := hK
          subst hK2
          exact go_SX (M1 := m_X10_demandIndex) (as := [.inl (b2i (F_X5_isThere (F_X10_pick x5 x2 x3 x4) σ))]) (st := []) dc_X10_demandPatterns_25 ln_10_90 sm_X10_demandIndex rfl mk_X10_demandIndex rfl (Nat.le_of_ble_eq_true rfl) (Nat.le_refl _) (lkX_X10_demandIndex l d hl (by omega) _ hc LAYC σ) _ rfl
        replace hc := Decidable.not_not.mp hc
        replace h := (if_pos hc).symm.trans h
        refine go_S (M1 := m_X10_demandIndex) (as := [.inl (b2i (F_X5_isThere (F_X10_pick x5 x2 x3 x4) σ))]) (st := []) dc_X10_demandPatterns_25 ln_10_90 sm_X10_demandIndex mk_X10_demandIndex rfl (Nat.le_of_ble_eq_true rfl) (Nat.le_refl _) (v := none) (σ1 := σ) (lk_X10_demandIndex l d _ hc _ σ) _ rfl ?_
        refine go_ops ok_X10_demandPatterns_28_1 (L' := [some (.inr 0), some (.inl x1), some (.inl x2), some (.inl x3), some (.inl x4), some (.inl (wrap (x5 + 1)))]) (st' := []) (σ1 := σ) rfl ?_
        refine go_goto dc_X10_demandPatterns_31 (by rfl) ?_
        cases h
        exact hK
    refine go_ops ok_X10_demandPatterns_0_2 (L' := [some (.inr 0), some (.inl a1), some (.inl a2), some (.inl a3), some (.inl a4), some (.inl 0)]) (st' := []) (σ1 := σ) rfl ?_
    obtain ⟨y1, e2, h⟩ := bind_inv h
    refine hL_X10_demandPatterns_3 a1 a2 a3 a4 σ 3000 0 y1 e2 ?_
    rcases y1 with z3 | r4
    rotate_left
    · show r4 = q
      cases h; rfl
    show Go l m_X10_demandPatterns (d + 1) LAYC (ozU q.1) q.2 34 [none, none, none, none, none, none] [] σ
    rw [Sum.elim_inl] at h
    have h9 := Option.some.inj h
    subst h9
    exact go_vret dc_X10_demandPatterns_34 rfl
  have hf := go_co (as := [.inr 0, .inl a1, .inl a2, .inl a3, .inl a4]) mk_X10_demandPatterns (fun _ _ => by decide +kernel) (by rfl) (Nat.le_of_ble_eq_true rfl) key
  exact hf
theorem dc_X10_make_6 : decode m_X10_make.2.2.1 6 = .ok (.invokevirtual 136, 3) := by decide +kernel
theorem dc_X10_make_9 : decode m_X10_make.2.2.1 9 = .ok (.invokestatic 90, 3) := by decide +kernel
theorem dc_X10_make_18 : decode m_X10_make.2.2.1 18 = .ok (.invokevirtual 140, 3) := by decide +kernel
theorem dc_X10_make_31 : decode m_X10_make.2.2.1 31 = .ok (.invokevirtual 172, 3) := by decide +kernel
theorem dc_X10_make_40 : decode m_X10_make.2.2.1 40 = .ok (.if_icmp .ge 69, 3) := by decide +kernel
theorem dc_X10_make_50 : decode m_X10_make.2.2.1 50 = .ok (.invokestatic 101, 3) := by decide +kernel
theorem dc_X10_make_63 : decode m_X10_make.2.2.1 63 = .ok (.invokevirtual 148, 3) := by decide +kernel
theorem dc_X10_make_72 : decode m_X10_make.2.2.1 72 = .ok (.if_icmp .ge 17, 3) := by decide +kernel
theorem dc_X10_make_83 : decode m_X10_make.2.2.1 83 = .ok (.invokevirtual 175, 3) := by decide +kernel
theorem dc_X10_make_86 : decode m_X10_make.2.2.1 86 = .ok (.goto 14, 3) := by decide +kernel
theorem dc_X10_make_92 : decode m_X10_make.2.2.1 92 = .ok (.if_icmp .ne 7, 3) := by decide +kernel
theorem dc_X10_make_96 : decode m_X10_make.2.2.1 96 = .ok (.goto 4, 3) := by decide +kernel
theorem dc_X10_make_100 : decode m_X10_make.2.2.1 100 = .ok (.invokestatic 98, 3) := by decide +kernel
theorem dc_X10_make_106 : decode m_X10_make.2.2.1 106 = .ok (.goto (-69), 3) := by decide +kernel
theorem dc_X10_make_118 : decode m_X10_make.2.2.1 118 = .ok (.invokevirtual 178, 3) := by decide +kernel
theorem dc_X10_make_121 : decode m_X10_make.2.2.1 121 = .ok (.invokestatic 98, 3) := by decide +kernel
theorem dc_X10_make_134 : decode m_X10_make.2.2.1 134 = .ok (.invokevirtual 155, 3) := by decide +kernel
theorem dc_X10_make_137 : decode m_X10_make.2.2.1 137 = .ok (.ireturn, 1) := by decide +kernel
theorem ok_X10_make_0_4 : oks m_X10_make.1 m_X10_make.2.2.1 0 [(.aload_n 0, 1, (0, 0, 0)), (.getfield 10, 3, (10, 0, 0)), (.iload_n 1, 1, (0, 0, 0)), (.iload_n 2, 1, (0, 0, 0))] = true ∧ plen 0 [(.aload_n 0, 1, (0, 0, 0)), (.getfield 10, 3, (10, 0, 0)), (.iload_n 1, 1, (0, 0, 0)), (.iload_n 2, 1, (0, 0, 0))] = 6 := by decide +kernel
theorem ok_X10_make_12_4 : oks m_X10_make.1 m_X10_make.2.2.1 12 [(.aload_n 0, 1, (0, 0, 0)), (.getfield 10, 3, (10, 0, 0)), (.iload_n 1, 1, (0, 0, 0)), (.iload_n 2, 1, (0, 0, 0))] = true ∧ plen 12 [(.aload_n 0, 1, (0, 0, 0)), (.getfield 10, 3, (10, 0, 0)), (.iload_n 1, 1, (0, 0, 0)), (.iload_n 2, 1, (0, 0, 0))] = 18 := by decide +kernel
theorem ok_X10_make_21_6 : oks m_X10_make.1 m_X10_make.2.2.1 21 [(.istore 6, 2, (0, 0, 0)), (.aload_n 0, 1, (0, 0, 0)), (.iload 6, 2, (0, 0, 0)), (.iload_n 3, 1, (0, 0, 0)), (.iload 4, 2, (0, 0, 0)), (.iload 5, 2, (0, 0, 0))] = true ∧ plen 21 [(.istore 6, 2, (0, 0, 0)), (.aload_n 0, 1, (0, 0, 0)), (.iload 6, 2, (0, 0, 0)), (.iload_n 3, 1, (0, 0, 0)), (.iload 4, 2, (0, 0, 0)), (.iload 5, 2, (0, 0, 0))] = 31 := by decide +kernel
theorem ok_X10_make_34_2 : oks m_X10_make.1 m_X10_make.2.2.1 34 [(.iconst 0, 1, (0, 0, 0)), (.istore 7, 2, (0, 0, 0))] = true ∧ plen 34 [(.iconst 0, 1, (0, 0, 0)), (.istore 7, 2, (0, 0, 0))] = 37 := by decide +kernel
theorem ok_X10_make_37_2 : oks m_X10_make.1 m_X10_make.2.2.1 37 [(.iload 7, 2, (0, 0, 0)), (.iconst 3, 1, (0, 0, 0))] = true ∧ plen 37 [(.iload 7, 2, (0, 0, 0)), (.iconst 3, 1, (0, 0, 0))] = 40 := by decide +kernel
theorem ok_X10_make_43_4 : oks m_X10_make.1 m_X10_make.2.2.1 43 [(.iload 7, 2, (0, 0, 0)), (.iload_n 3, 1, (0, 0, 0)), (.iload 4, 2, (0, 0, 0)), (.iload 5, 2, (0, 0, 0))] = true ∧ plen 43 [(.iload 7, 2, (0, 0, 0)), (.iload_n 3, 1, (0, 0, 0)), (.iload 4, 2, (0, 0, 0)), (.iload 5, 2, (0, 0, 0))] = 50 := by decide +kernel
theorem ok_X10_make_53_6 : oks m_X10_make.1 m_X10_make.2.2.1 53 [(.istore 8, 2, (0, 0, 0)), (.aload_n 0, 1, (0, 0, 0)), (.getfield 10, 3, (10, 0, 0)), (.iload_n 1, 1, (0, 0, 0)), (.iload_n 2, 1, (0, 0, 0)), (.iload 7, 2, (0, 0, 0))] = true ∧ plen 53 [(.istore 8, 2, (0, 0, 0)), (.aload_n 0, 1, (0, 0, 0)), (.getfield 10, 3, (10, 0, 0)), (.iload_n 1, 1, (0, 0, 0)), (.iload_n 2, 1, (0, 0, 0)), (.iload 7, 2, (0, 0, 0))] = 63 := by decide +kernel
theorem ok_X10_make_66_3 : oks m_X10_make.1 m_X10_make.2.2.1 66 [(.istore 9, 2, (0, 0, 0)), (.iload 7, 2, (0, 0, 0)), (.iload 6, 2, (0, 0, 0))] = true ∧ plen 66 [(.istore 9, 2, (0, 0, 0)), (.iload 7, 2, (0, 0, 0)), (.iload 6, 2, (0, 0, 0))] = 72 := by decide +kernel
theorem ok_X10_make_75_4 : oks m_X10_make.1 m_X10_make.2.2.1 75 [(.aload_n 0, 1, (0, 0, 0)), (.getfield 26, 3, (10, 2, 0)), (.iload 8, 2, (0, 0, 0)), (.iload 9, 2, (0, 0, 0))] = true ∧ plen 75 [(.aload_n 0, 1, (0, 0, 0)), (.getfield 26, 3, (10, 2, 0)), (.iload 8, 2, (0, 0, 0)), (.iload 9, 2, (0, 0, 0))] = 83 := by decide +kernel
theorem ok_X10_make_89_2 : oks m_X10_make.1 m_X10_make.2.2.1 89 [(.iload 8, 2, (0, 0, 0)), (.iconst (-1), 1, (0, 0, 0))] = true ∧ plen 89 [(.iload 8, 2, (0, 0, 0)), (.iconst (-1), 1, (0, 0, 0))] = 92 := by decide +kernel
theorem ok_X10_make_95_1 : oks m_X10_make.1 m_X10_make.2.2.1 95 [(.iconst 1, 1, (0, 0, 0))] = true ∧ plen 95 [(.iconst 1, 1, (0, 0, 0))] = 96 := by decide +kernel
theorem ok_X10_make_99_1 : oks m_X10_make.1 m_X10_make.2.2.1 99 [(.iconst 0, 1, (0, 0, 0))] = true ∧ plen 99 [(.iconst 0, 1, (0, 0, 0))] = 100 := by decide +kernel
theorem ok_X10_make_103_1 : oks m_X10_make.1 m_X10_make.2.2.1 103 [(.iinc 7 1, 3, (0, 0, 0))] = true ∧ plen 103 [(.iinc 7 1, 3, (0, 0, 0))] = 106 := by decide +kernel
theorem ok_X10_make_109_5 : oks m_X10_make.1 m_X10_make.2.2.1 109 [(.aload_n 0, 1, (0, 0, 0)), (.getfield 26, 3, (10, 2, 0)), (.iload_n 3, 1, (0, 0, 0)), (.iload 4, 2, (0, 0, 0)), (.iload 5, 2, (0, 0, 0))] = true ∧ plen 109 [(.aload_n 0, 1, (0, 0, 0)), (.getfield 26, 3, (10, 2, 0)), (.iload_n 3, 1, (0, 0, 0)), (.iload 4, 2, (0, 0, 0)), (.iload 5, 2, (0, 0, 0))] = 118 := by decide +kernel
theorem ok_X10_make_124_8 : oks m_X10_make.1 m_X10_make.2.2.1 124 [(.aload_n 0, 1, (0, 0, 0)), (.iconst 3, 1, (0, 0, 0)), (.iload_n 1, 1, (0, 0, 0)), (.iload_n 2, 1, (0, 0, 0)), (.iload_n 2, 1, (0, 0, 0)), (.iload_n 3, 1, (0, 0, 0)), (.iload 4, 2, (0, 0, 0)), (.iload 5, 2, (0, 0, 0))] = true ∧ plen 124 [(.aload_n 0, 1, (0, 0, 0)), (.iconst 3, 1, (0, 0, 0)), (.iload_n 1, 1, (0, 0, 0)), (.iload_n 2, 1, (0, 0, 0)), (.iload_n 2, 1, (0, 0, 0)), (.iload_n 3, 1, (0, 0, 0)), (.iload 4, 2, (0, 0, 0)), (.iload 5, 2, (0, 0, 0))] = 134 := by decide +kernel
def B_X10_make_100 (x7 : Int) (y0 : Bool) (σ : Sg) : Option (Int ⊕ (Unit ⊕ ((Int ⊕ Nat) × Sg))) :=
if y0 = true then
some (.inl (wrap (x7 + 1)))
else some (.inr (.inr (.inr 1, σ)))
def L_X10_make_37 (x1 : Int) (x2 : Int) (x3 : Int) (x4 : Int) (x5 : Int) (x6 : Int) (σ : Sg) (x7 : Int) : Option (Int ⊕ (Unit ⊕ ((Int ⊕ Nat) × Sg))) :=
if 3 ≤ x7 then
some (.inr (.inl ()))
else
bnd (F_X10_pick x7 x3 x4 x5) fun v6 =>
bnd (F_X2_fieldKind x1 x2 x7 σ) fun v8 =>
if x6 ≤ x7 then
if v6 = (-1) then
B_X10_make_100 x7 true σ
else
B_X10_make_100 x7 false σ
else
B_X10_make_100 x7 (F_X5_fits v6 v8 σ) σ
def F_X10_make (a1 : Int) (a2 : Int) (a3 : Int) (a4 : Int) (a5 : Int) (σ : Sg) : Option ((Int ⊕ Nat) × Sg) :=
if (F_X2_has a1 a2 σ) = true then
bnd (F_X2_fieldsOf a1 a2 σ) fun v1 =>
xb (F_X10_demandPatterns v1 a3 a4 a5 σ) (fun E σ => some (.inr E, σ)) fun v3 s4 =>
(iter (fun a : Int => L_X10_make_37 a1 a2 a3 a4 a5 v1 s4 a) 4 0).bind fun y10 => Sum.elim (fun z12 =>
if (F_X5_canBeParts a3 a4 a5 s4) = true then
xb (F_X10_keepPattern 3 a1 a2 a2 a3 a4 a5 s4) (fun E σ => some (.inr E, σ)) fun v14 s15 =>
some (.inl v14, s15)
else some (.inr 1, s4)) (fun r13 => some r13) y10
else some (.inr 0, σ)
theorem lk_X10_make (l : Launch) (hl : l.stackTraces = false) (d : Nat) (hd : 8 ≤ d) (a1 : Int) (a2 : Int) (a3 : Int) (a4 : Int) (a5 : Int) (σ : Sg) (q : ((Int ⊕ Nat) × Sg)) (h : F_X10_make a1 a2 a3 a4 a5 σ = some q) : outZ (ozI q.1) l d m_X10_make.2.1 m_X10_make.2.2.1 m_X10_make.2.2.2.1 m_X10_make.2.2.2.2 [.inr 0, .inl a1, .inl a2, .inl a3, .inl a4, .inl a5] (LAYC, σ) (LAYC, q.2) := by
  obtain ⟨d, rfl⟩ : ∃ e, d = e + 1 := ⟨d - 1, by omega⟩
  have key : Go l m_X10_make (d + 1) LAYC (ozI q.1) q.2 0 [some (.inr 0), some (.inl a1), some (.inl a2), some (.inl a3), some (.inl a4), some (.inl a5), none, none, none, none] [] σ := by
    unfold F_X10_make at h
    have hL_X10_make_37 : ∀ (x1 : Int) (x2 : Int) (x3 : Int) (x4 : Int) (x5 : Int) (x6 : Int) (σ : Sg) (n : Nat) (a : Int) (y : (Unit ⊕ ((Int ⊕ Nat) × Sg))), iter (fun a : Int => L_X10_make_37 x1 x2 x3 x4 x5 x6 σ a) n a = some y → (Sum.elim (fun y : Unit => Go l m_X10_make (d + 1) LAYC (ozI q.1) q.2 109 [some (.inr 0), some (.inl x1), some (.inl x2), some (.inl x3), some (.inl x4), some (.inl x5), none, none, none, none] [] σ) (fun r : ((Int ⊕ Nat) × Sg) => r = q)) y → (fun a : Int => Go l m_X10_make (d + 1) LAYC (ozI q.1) q.2 37 [some (.inr 0), some (.inl x1), some (.inl x2), some (.inl x3), some (.inl x4), some (.inl x5), some (.inl x6), some (.inl a), none, none] [] σ) a := by
      intro x1 x2 x3 x4 x5 x6 σ
      refine go_iter (G := fun a : Int => Go l m_X10_make (d + 1) LAYC (ozI q.1) q.2 37 [some (.inr 0), some (.inl x1), some (.inl x2), some (.inl x3), some (.inl x4), some (.inl x5), some (.inl x6), some (.inl a), none, none] [] σ) (K := Sum.elim (fun y : Unit => Go l m_X10_make (d + 1) LAYC (ozI q.1) q.2 109 [some (.inr 0), some (.inl x1), some (.inl x2), some (.inl x3), some (.inl x4), some (.inl x5), none, none, none, none] [] σ) (fun r : ((Int ⊕ Nat) × Sg) => r = q)) ?_
      rintro x7 w h hK
      replace h : L_X10_make_37 x1 x2 x3 x4 x5 x6 σ x7 = some w := h
      show Go l m_X10_make (d + 1) LAYC (ozI q.1) q.2 37 [some (.inr 0), some (.inl x1), some (.inl x2), some (.inl x3), some (.inl x4), some (.inl x5), some (.inl x6), some (.inl x7), none, none] [] σ
      unfold L_X10_make_37 at h
      have hB_X10_make_100 : ∀ (x7 : Int) (y0 : Bool), B_X10_make_100 x7 y0 σ = some w → Go l m_X10_make (d + 1) LAYC (ozI q.1) q.2 100 [some (.inr 0), some (.inl x1), some (.inl x2), some (.inl x3), some (.inl x4), some (.inl x5), some (.inl x6), some (.inl x7), none, none] [.inl (b2i y0)] σ := by
        intro x7 y0 h
        unfold B_X10_make_100 at h
        rcases Decidable.em (¬ y0 = true) with hc | hc
        · replace h := (if_neg hc).symm.trans h
          cases h
          have hK2 : _ = q := hK
          subst hK2
          exact go_SX (M1 := m_X10_demandArgument) (as := [.inl (b2i y0)]) (st := []) dc_X10_make_100 ln_10_98 sm_X10_demandArgument rfl mk_X10_demandArgument rfl (Nat.le_of_ble_eq_true rfl) (Nat.le_refl _) (lkX_X10_demandArgument l d hl (by omega) _ hc LAYC σ) _ rfl
        replace hc := Decidable.not_not.mp hc
        replace h := (if_pos hc).symm.trans h
        refine go_S (M1 := m_X10_demandArgument) (as := [.inl (b2i y0)]) (st := []) dc_X10_make_100 ln_10_98 sm_X10_demandArgument mk_X10_demandArgument rfl (Nat.le_of_ble_eq_true rfl) (Nat.le_refl _) (v := none) (σ1 := σ) (lk_X10_demandArgument l d _ hc _ σ) _ rfl ?_
        refine go_ops ok_X10_make_103_1 (L' := [some (.inr 0), some (.inl x1), some (.inl x2), some (.inl x3), some (.inl x4), some (.inl x5), some (.inl x6), some (.inl (wrap (x7 + 1))), none, none]) (st' := []) (σ1 := σ) rfl ?_
        refine go_goto dc_X10_make_106 (by rfl) ?_
        cases h
        exact hK
      refine go_ops ok_X10_make_37_2 (L' := [some (.inr 0), some (.inl x1), some (.inl x2), some (.inl x3), some (.inl x4), some (.inl x5), some (.inl x6), some (.inl x7), none, none]) (st' := [.inl 3, .inl x7]) (σ1 := σ) rfl ?_
      refine go_icmp_ge dc_X10_make_40 (by rfl) (fun hc => ?_) (fun hc => ?_)
      · replace h := (if_pos hc).symm.trans h
        cases h
        refine go_wk (L' := [some (.inr 0), some (.inl x1), some (.inl x2), some (.inl x3), some (.inl x4), some (.inl x5), none, none, none, none]) ⟨rfl, rfl, rfl, rfl, rfl, rfl, trivial⟩ ?_
        exact hK
      · replace h := (if_neg hc).symm.trans h
        refine go_ops ok_X10_make_43_4 (L' := [some (.inr 0), some (.inl x1), some (.inl x2), some (.inl x3), some (.inl x4), some (.inl x5), some (.inl x6), some (.inl x7), none, none]) (st' := [.inl x5, .inl x4, .inl x3, .inl x7]) (σ1 := σ) rfl ?_
        refine go_S (M1 := m_X10_pick) (as := [.inl x7, .inl x3, .inl x4, .inl x5]) (st := []) dc_X10_make_50 ln_10_101 sm_X10_pick mk_X10_pick rfl (Nat.le_of_ble_eq_true rfl) (Nat.le_refl _) (v := (some (.inl (F_X10_pick x7 x3 x4 x5)))) (σ1 := σ) (lk_X10_pick l d (by omega) x7 x3 x4 x5 σ _ rfl) _ rfl ?_
        obtain ⟨v6, e7, h⟩ := bnd_inv h
        refine go_ops ok_X10_make_53_6 (L' := [some (.inr 0), some (.inl x1), some (.inl x2), some (.inl x3), some (.inl x4), some (.inl x5), some (.inl x6), some (.inl x7), some (.inl v6), none]) (st' := [.inl x7, .inl x2, .inl x1, .inr 1]) (σ1 := σ) (by subst e7; rfl) ?_
        refine go_V (M1 := m_X2_fieldKind) (as := [.inl x1, .inl x2, .inl x7]) (st := []) (k := 1) (ci := 2) dc_X10_make_63 ln_10_148 im_X2_fieldKind (by decide) rfl rfl mk_X2_fieldKind rfl (Nat.le_of_ble_eq_true rfl) (Nat.le_refl _) (v := (some (.inl (F_X2_fieldKind x1 x2 x7 σ)))) (σ1 := σ) (lk_X2_fieldKind l d (by omega) x1 x2 x7 σ _ rfl) _ rfl ?_
        obtain ⟨v8, e9, h⟩ := bnd_inv h
        refine go_ops ok_X10_make_66_3 (L' := [some (.inr 0), some (.inl x1), some (.inl x2), some (.inl x3), some (.inl x4), some (.inl x5), some (.inl x6), some (.inl x7), some (.inl v6), some (.inl v8)]) (st' := [.inl x6, .inl x7]) (σ1 := σ) (by subst e9; rfl) ?_
        refine go_icmp_ge dc_X10_make_72 (by rfl) (fun hc => ?_) (fun hc => ?_)
        · replace h := (if_pos hc).symm.trans h
          refine go_ops ok_X10_make_89_2 (L' := [some (.inr 0), some (.inl x1), some (.inl x2), some (.inl x3), some (.inl x4), some (.inl x5), some (.inl x6), some (.inl x7), some (.inl v6), some (.inl v8)]) (st' := [.inl (-1), .inl v6]) (σ1 := σ) rfl ?_
          refine go_icmp_ne dc_X10_make_92 (by rfl) (fun hc => ?_) (fun hc => ?_)
          · replace h := (if_neg hc).symm.trans h
            refine go_ops ok_X10_make_99_1 (L' := [some (.inr 0), some (.inl x1), some (.inl x2), some (.inl x3), some (.inl x4), some (.inl x5), some (.inl x6), some (.inl x7), some (.inl v6), some (.inl v8)]) (st' := [.inl 0]) (σ1 := σ) rfl ?_
            refine go_wk (L' := [some (.inr 0), some (.inl x1), some (.inl x2), some (.inl x3), some (.inl x4), some (.inl x5), some (.inl x6), some (.inl x7), none, none]) ⟨rfl, rfl, rfl, rfl, rfl, rfl, rfl, rfl, trivial⟩ ?_
            exact hB_X10_make_100 x7 false h
          · replace h := (if_pos hc).symm.trans h
            refine go_ops ok_X10_make_95_1 (L' := [some (.inr 0), some (.inl x1), some (.inl x2), some (.inl x3), some (.inl x4), some (.inl x5), some (.inl x6), some (.inl x7), some (.inl v6), some (.inl v8)]) (st' := [.inl 1]) (σ1 := σ) rfl ?_
            refine go_goto dc_X10_make_96 (by rfl) ?_
            refine go_wk (L' := [some (.inr 0), some (.inl x1), some (.inl x2), some (.inl x3), some (.inl x4), some (.inl x5), some (.inl x6), some (.inl x7), none, none]) ⟨rfl, rfl, rfl, rfl, rfl, rfl, rfl, rfl, trivial⟩ ?_
            exact hB_X10_make_100 x7 true h
        · replace h := (if_neg hc).symm.trans h
          refine go_ops ok_X10_make_75_4 (L' := [some (.inr 0), some (.inl x1), some (.inl x2), some (.inl x3), some (.inl x4), some (.inl x5), some (.inl x6), some (.inl x7), some (.inl v6), some (.inl v8)]) (st' := [.inl v8, .inl v6, .inr 10]) (σ1 := σ) rfl ?_
          refine go_V (M1 := m_X5_fits) (as := [.inl v6, .inl v8]) (st := []) (k := 10) (ci := 5) dc_X10_make_83 ln_10_175 im_X5_fits (by decide) rfl rfl mk_X5_fits rfl (Nat.le_of_ble_eq_true rfl) (Nat.le_refl _) (v := (some (.inl (b2i (F_X5_fits v6 v8 σ))))) (σ1 := σ) (lk_X5_fits l d (by omega) v6 v8 σ _ rfl) _ rfl ?_
          refine go_goto dc_X10_make_86 (by rfl) ?_
          refine go_wk (L' := [some (.inr 0), some (.inl x1), some (.inl x2), some (.inl x3), some (.inl x4), some (.inl x5), some (.inl x6), some (.inl x7), none, none]) ⟨rfl, rfl, rfl, rfl, rfl, rfl, rfl, rfl, trivial⟩ ?_
          exact hB_X10_make_100 x7 (F_X5_fits v6 v8 σ) h
    refine go_ops ok_X10_make_0_4 (L' := [some (.inr 0), some (.inl a1), some (.inl a2), some (.inl a3), some (.inl a4), some (.inl a5), none, none, none, none]) (st' := [.inl a2, .inl a1, .inr 1]) (σ1 := σ) rfl ?_
    refine go_V (M1 := m_X2_has) (as := [.inl a1, .inl a2]) (st := []) (k := 1) (ci := 2) dc_X10_make_6 ln_10_136 im_X2_has (by decide) rfl rfl mk_X2_has rfl (Nat.le_of_ble_eq_true rfl) (Nat.le_refl _) (v := (some (.inl (b2i (F_X2_has a1 a2 σ))))) (σ1 := σ) (lk_X2_has l d (by omega) a1 a2 σ _ rfl) _ rfl ?_
    rcases Decidable.em (¬ (F_X2_has a1 a2 σ) = true) with hc | hc
    · replace h := (if_neg hc).symm.trans h
      have h9 := Option.some.inj h
      subst h9
      exact go_SX (M1 := m_X10_demandIndex) (as := [.inl (b2i (F_X2_has a1 a2 σ))]) (st := []) dc_X10_make_9 ln_10_90 sm_X10_demandIndex rfl mk_X10_demandIndex rfl (Nat.le_of_ble_eq_true rfl) (Nat.le_refl _) (lkX_X10_demandIndex l d hl (by omega) _ hc LAYC σ) _ rfl
    replace hc := Decidable.not_not.mp hc
    replace h := (if_pos hc).symm.trans h
    refine go_S (M1 := m_X10_demandIndex) (as := [.inl (b2i (F_X2_has a1 a2 σ))]) (st := []) dc_X10_make_9 ln_10_90 sm_X10_demandIndex mk_X10_demandIndex rfl (Nat.le_of_ble_eq_true rfl) (Nat.le_refl _) (v := none) (σ1 := σ) (lk_X10_demandIndex l d _ hc _ σ) _ rfl ?_
    refine go_ops ok_X10_make_12_4 (L' := [some (.inr 0), some (.inl a1), some (.inl a2), some (.inl a3), some (.inl a4), some (.inl a5), none, none, none, none]) (st' := [.inl a2, .inl a1, .inr 1]) (σ1 := σ) rfl ?_
    refine go_V (M1 := m_X2_fieldsOf) (as := [.inl a1, .inl a2]) (st := []) (k := 1) (ci := 2) dc_X10_make_18 ln_10_140 im_X2_fieldsOf (by decide) rfl rfl mk_X2_fieldsOf rfl (Nat.le_of_ble_eq_true rfl) (Nat.le_refl _) (v := (some (.inl (F_X2_fieldsOf a1 a2 σ)))) (σ1 := σ) (lk_X2_fieldsOf l d (by omega) a1 a2 σ _ rfl) _ rfl ?_
    obtain ⟨v1, e2, h⟩ := bnd_inv h
    refine go_ops ok_X10_make_21_6 (L' := [some (.inr 0), some (.inl a1), some (.inl a2), some (.inl a3), some (.inl a4), some (.inl a5), some (.inl v1), none, none, none]) (st' := [.inl a5, .inl a4, .inl a3, .inl v1, .inr 0]) (σ1 := σ) (by subst e2; rfl) ?_
    rcases xb_inv h with ⟨E1, s4, e5, h⟩ | ⟨v3, s4, e5, h⟩
    · have h9 := Option.some.inj h
      subst h9
      exact go_VX (M1 := m_X10_demandPatterns) (as := [.inl v1, .inl a3, .inl a4, .inl a5]) (st := []) (k := 0) (ci := 10) dc_X10_make_31 ln_10_172 im_X10_demandPatterns (by decide) rfl rfl mk_X10_demandPatterns rfl (Nat.le_of_ble_eq_true rfl) (Nat.le_refl _) (lk_X10_demandPatterns l hl d (by omega) v1 a3 a4 a5 σ _ e5) _ rfl
    refine go_V (M1 := m_X10_demandPatterns) (as := [.inl v1, .inl a3, .inl a4, .inl a5]) (st := []) (k := 0) (ci := 10) dc_X10_make_31 ln_10_172 im_X10_demandPatterns (by decide) rfl rfl mk_X10_demandPatterns rfl (Nat.le_of_ble_eq_true rfl) (Nat.le_refl _) (v := none) (σ1 := s4) (lk_X10_demandPatterns l hl d (by omega) v1 a3 a4 a5 σ _ e5) _ rfl ?_
    refine go_ops ok_X10_make_34_2 (L' := [some (.inr 0), some (.inl a1), some (.inl a2), some (.inl a3), some (.inl a4), some (.inl a5), some (.inl v1), some (.inl 0), none, none]) (st' := []) (σ1 := s4) rfl ?_
    obtain ⟨y10, e11, h⟩ := bind_inv h
    refine hL_X10_make_37 a1 a2 a3 a4 a5 v1 s4 4 0 y10 e11 ?_
    rcases y10 with z12 | r13
    rotate_left
    · show r13 = q
      cases h; rfl
    show Go l m_X10_make (d + 1) LAYC (ozI q.1) q.2 109 [some (.inr 0), some (.inl a1), some (.inl a2), some (.inl a3), some (.inl a4), some (.inl a5), none, none, none, none] [] s4
    rw [Sum.elim_inl] at h
    refine go_ops ok_X10_make_109_5 (L' := [some (.inr 0), some (.inl a1), some (.inl a2), some (.inl a3), some (.inl a4), some (.inl a5), none, none, none, none]) (st' := [.inl a5, .inl a4, .inl a3, .inr 10]) (σ1 := s4) rfl ?_
    refine go_V (M1 := m_X5_canBeParts) (as := [.inl a3, .inl a4, .inl a5]) (st := []) (k := 10) (ci := 5) dc_X10_make_118 ln_10_178 im_X5_canBeParts (by decide) rfl rfl mk_X5_canBeParts rfl (Nat.le_of_ble_eq_true rfl) (Nat.le_refl _) (v := (some (.inl (b2i (F_X5_canBeParts a3 a4 a5 s4))))) (σ1 := s4) (lk_X5_canBeParts l d (by omega) a3 a4 a5 s4 _ rfl) _ rfl ?_
    rcases Decidable.em (¬ (F_X5_canBeParts a3 a4 a5 s4) = true) with hc | hc
    · replace h := (if_neg hc).symm.trans h
      have h9 := Option.some.inj h
      subst h9
      exact go_SX (M1 := m_X10_demandArgument) (as := [.inl (b2i (F_X5_canBeParts a3 a4 a5 s4))]) (st := []) dc_X10_make_121 ln_10_98 sm_X10_demandArgument rfl mk_X10_demandArgument rfl (Nat.le_of_ble_eq_true rfl) (Nat.le_refl _) (lkX_X10_demandArgument l d hl (by omega) _ hc LAYC s4) _ rfl
    replace hc := Decidable.not_not.mp hc
    replace h := (if_pos hc).symm.trans h
    refine go_S (M1 := m_X10_demandArgument) (as := [.inl (b2i (F_X5_canBeParts a3 a4 a5 s4))]) (st := []) dc_X10_make_121 ln_10_98 sm_X10_demandArgument mk_X10_demandArgument rfl (Nat.le_of_ble_eq_true rfl) (Nat.le_refl _) (v := none) (σ1 := s4) (lk_X10_demandArgument l d _ hc _ s4) _ rfl ?_
    refine go_ops ok_X10_make_124_8 (L' := [some (.inr 0), some (.inl a1), some (.inl a2), some (.inl a3), some (.inl a4), some (.inl a5), none, none, none, none]) (st' := [.inl a5, .inl a4, .inl a3, .inl a2, .inl a2, .inl a1, .inl 3, .inr 0]) (σ1 := s4) rfl ?_
    rcases xb_inv h with ⟨E1, s15, e16, h⟩ | ⟨v14, s15, e16, h⟩
    · have h9 := Option.some.inj h
      subst h9
      exact go_VX (M1 := m_X10_keepPattern) (as := [.inl 3, .inl a1, .inl a2, .inl a2, .inl a3, .inl a4, .inl a5]) (st := []) (k := 0) (ci := 10) dc_X10_make_134 ln_10_155 im_X10_keepPattern (by decide) rfl rfl mk_X10_keepPattern rfl (Nat.le_of_ble_eq_true rfl) (Nat.le_refl _) (lk_X10_keepPattern l hl d (by omega) 3 a1 a2 a2 a3 a4 a5 s4 _ e16) _ rfl
    refine go_V (M1 := m_X10_keepPattern) (as := [.inl 3, .inl a1, .inl a2, .inl a2, .inl a3, .inl a4, .inl a5]) (st := []) (k := 0) (ci := 10) dc_X10_make_134 ln_10_155 im_X10_keepPattern (by decide) rfl rfl mk_X10_keepPattern rfl (Nat.le_of_ble_eq_true rfl) (Nat.le_refl _) (v := (some (.inl v14))) (σ1 := s15) (lk_X10_keepPattern l hl d (by omega) 3 a1 a2 a2 a3 a4 a5 s4 _ e16) _ rfl ?_
    have h9 := Option.some.inj h
    subst h9
    exact go_iret dc_X10_make_137 rfl
  have hf := go_co (as := [.inr 0, .inl a1, .inl a2, .inl a3, .inl a4, .inl a5]) mk_X10_make (fun _ _ => by decide +kernel) (by rfl) (Nat.le_of_ble_eq_true rfl) key
  exact hf
theorem dc_X10_either_5 : decode m_X10_either.2.2.1 5 = .ok (.invokevirtual 172, 3) := by decide +kernel
theorem dc_X10_either_14 : decode m_X10_either.2.2.1 14 = .ok (.invokevirtual 181, 3) := by decide +kernel
theorem dc_X10_either_17 : decode m_X10_either.2.2.1 17 = .ok (.invokestatic 98, 3) := by decide +kernel
theorem dc_X10_either_28 : decode m_X10_either.2.2.1 28 = .ok (.invokevirtual 184, 3) := by decide +kernel
theorem dc_X10_either_36 : decode m_X10_either.2.2.1 36 = .ok (.invokevirtual 155, 3) := by decide +kernel
theorem dc_X10_either_39 : decode m_X10_either.2.2.1 39 = .ok (.ireturn, 1) := by decide +kernel
theorem ok_X10_either_0_5 : oks m_X10_either.1 m_X10_either.2.2.1 0 [(.aload_n 0, 1, (0, 0, 0)), (.iconst 2, 1, (0, 0, 0)), (.iload_n 1, 1, (0, 0, 0)), (.iload_n 2, 1, (0, 0, 0)), (.iconst (-1), 1, (0, 0, 0))] = true ∧ plen 0 [(.aload_n 0, 1, (0, 0, 0)), (.iconst 2, 1, (0, 0, 0)), (.iload_n 1, 1, (0, 0, 0)), (.iload_n 2, 1, (0, 0, 0)), (.iconst (-1), 1, (0, 0, 0))] = 5 := by decide +kernel
theorem ok_X10_either_8_4 : oks m_X10_either.1 m_X10_either.2.2.1 8 [(.aload_n 0, 1, (0, 0, 0)), (.getfield 26, 3, (10, 2, 0)), (.iload_n 1, 1, (0, 0, 0)), (.iload_n 2, 1, (0, 0, 0))] = true ∧ plen 8 [(.aload_n 0, 1, (0, 0, 0)), (.getfield 26, 3, (10, 2, 0)), (.iload_n 1, 1, (0, 0, 0)), (.iload_n 2, 1, (0, 0, 0))] = 14 := by decide +kernel
theorem ok_X10_either_20_6 : oks m_X10_either.1 m_X10_either.2.2.1 20 [(.aload_n 0, 1, (0, 0, 0)), (.iconst 4, 1, (0, 0, 0)), (.aload_n 0, 1, (0, 0, 0)), (.getfield 26, 3, (10, 2, 0)), (.iload_n 1, 1, (0, 0, 0)), (.iload_n 2, 1, (0, 0, 0))] = true ∧ plen 20 [(.aload_n 0, 1, (0, 0, 0)), (.iconst 4, 1, (0, 0, 0)), (.aload_n 0, 1, (0, 0, 0)), (.getfield 26, 3, (10, 2, 0)), (.iload_n 1, 1, (0, 0, 0)), (.iload_n 2, 1, (0, 0, 0))] = 28 := by decide +kernel
theorem ok_X10_either_31_5 : oks m_X10_either.1 m_X10_either.2.2.1 31 [(.iconst 0, 1, (0, 0, 0)), (.iconst 0, 1, (0, 0, 0)), (.iload_n 1, 1, (0, 0, 0)), (.iload_n 2, 1, (0, 0, 0)), (.iconst (-1), 1, (0, 0, 0))] = true ∧ plen 31 [(.iconst 0, 1, (0, 0, 0)), (.iconst 0, 1, (0, 0, 0)), (.iload_n 1, 1, (0, 0, 0)), (.iload_n 2, 1, (0, 0, 0)), (.iconst (-1), 1, (0, 0, 0))] = 36 := by decide +kernel
def F_X10_either (a1 : Int) (a2 : Int) (σ : Sg) : Option ((Int ⊕ Nat) × Sg) :=
xb (F_X10_demandPatterns 2 a1 a2 (-1) σ) (fun E σ => some (.inr E, σ)) fun v1 s2 =>
if (F_X5_canAlternate a1 a2 s2) = true then
xb (F_X10_keepPattern 4 (F_X5_kindOfBoth a1 a2 s2) 0 0 a1 a2 (-1) s2) (fun E σ => some (.inr E, σ)) fun v4 s5 =>
some (.inl v4, s5)
else some (.inr 1, s2)
theorem lk_X10_either (l : Launch) (hl : l.stackTraces = false) (d : Nat) (hd : 8 ≤ d) (a1 : Int) (a2 : Int) (σ : Sg) (q : ((Int ⊕ Nat) × Sg)) (h : F_X10_either a1 a2 σ = some q) : outZ (ozI q.1) l d m_X10_either.2.1 m_X10_either.2.2.1 m_X10_either.2.2.2.1 m_X10_either.2.2.2.2 [.inr 0, .inl a1, .inl a2] (LAYC, σ) (LAYC, q.2) := by
  obtain ⟨d, rfl⟩ : ∃ e, d = e + 1 := ⟨d - 1, by omega⟩
  have key : Go l m_X10_either (d + 1) LAYC (ozI q.1) q.2 0 [some (.inr 0), some (.inl a1), some (.inl a2)] [] σ := by
    unfold F_X10_either at h
    refine go_ops ok_X10_either_0_5 (L' := [some (.inr 0), some (.inl a1), some (.inl a2)]) (st' := [.inl (-1), .inl a2, .inl a1, .inl 2, .inr 0]) (σ1 := σ) rfl ?_
    rcases xb_inv h with ⟨E1, s2, e3, h⟩ | ⟨v1, s2, e3, h⟩
    · have h9 := Option.some.inj h
      subst h9
      exact go_VX (M1 := m_X10_demandPatterns) (as := [.inl 2, .inl a1, .inl a2, .inl (-1)]) (st := []) (k := 0) (ci := 10) dc_X10_either_5 ln_10_172 im_X10_demandPatterns (by decide) rfl rfl mk_X10_demandPatterns rfl (Nat.le_of_ble_eq_true rfl) (Nat.le_refl _) (lk_X10_demandPatterns l hl d (by omega) 2 a1 a2 (-1) σ _ e3) _ rfl
    refine go_V (M1 := m_X10_demandPatterns) (as := [.inl 2, .inl a1, .inl a2, .inl (-1)]) (st := []) (k := 0) (ci := 10) dc_X10_either_5 ln_10_172 im_X10_demandPatterns (by decide) rfl rfl mk_X10_demandPatterns rfl (Nat.le_of_ble_eq_true rfl) (Nat.le_refl _) (v := none) (σ1 := s2) (lk_X10_demandPatterns l hl d (by omega) 2 a1 a2 (-1) σ _ e3) _ rfl ?_
    refine go_ops ok_X10_either_8_4 (L' := [some (.inr 0), some (.inl a1), some (.inl a2)]) (st' := [.inl a2, .inl a1, .inr 10]) (σ1 := s2) rfl ?_
    refine go_V (M1 := m_X5_canAlternate) (as := [.inl a1, .inl a2]) (st := []) (k := 10) (ci := 5) dc_X10_either_14 ln_10_181 im_X5_canAlternate (by decide) rfl rfl mk_X5_canAlternate rfl (Nat.le_of_ble_eq_true rfl) (Nat.le_refl _) (v := (some (.inl (b2i (F_X5_canAlternate a1 a2 s2))))) (σ1 := s2) (lk_X5_canAlternate l d (by omega) a1 a2 s2 _ rfl) _ rfl ?_
    rcases Decidable.em (¬ (F_X5_canAlternate a1 a2 s2) = true) with hc | hc
    · replace h := (if_neg hc).symm.trans h
      have h9 := Option.some.inj h
      subst h9
      exact go_SX (M1 := m_X10_demandArgument) (as := [.inl (b2i (F_X5_canAlternate a1 a2 s2))]) (st := []) dc_X10_either_17 ln_10_98 sm_X10_demandArgument rfl mk_X10_demandArgument rfl (Nat.le_of_ble_eq_true rfl) (Nat.le_refl _) (lkX_X10_demandArgument l d hl (by omega) _ hc LAYC s2) _ rfl
    replace hc := Decidable.not_not.mp hc
    replace h := (if_pos hc).symm.trans h
    refine go_S (M1 := m_X10_demandArgument) (as := [.inl (b2i (F_X5_canAlternate a1 a2 s2))]) (st := []) dc_X10_either_17 ln_10_98 sm_X10_demandArgument mk_X10_demandArgument rfl (Nat.le_of_ble_eq_true rfl) (Nat.le_refl _) (v := none) (σ1 := s2) (lk_X10_demandArgument l d _ hc _ s2) _ rfl ?_
    refine go_ops ok_X10_either_20_6 (L' := [some (.inr 0), some (.inl a1), some (.inl a2)]) (st' := [.inl a2, .inl a1, .inr 10, .inl 4, .inr 0]) (σ1 := s2) rfl ?_
    refine go_V (M1 := m_X5_kindOfBoth) (as := [.inl a1, .inl a2]) (st := [.inl 4, .inr 0]) (k := 10) (ci := 5) dc_X10_either_28 ln_10_184 im_X5_kindOfBoth (by decide) rfl rfl mk_X5_kindOfBoth rfl (Nat.le_of_ble_eq_true rfl) (Nat.le_refl _) (v := (some (.inl (F_X5_kindOfBoth a1 a2 s2)))) (σ1 := s2) (lk_X5_kindOfBoth l d (by omega) a1 a2 s2 _ rfl) _ rfl ?_
    refine go_ops ok_X10_either_31_5 (L' := [some (.inr 0), some (.inl a1), some (.inl a2)]) (st' := [.inl (-1), .inl a2, .inl a1, .inl 0, .inl 0, .inl (F_X5_kindOfBoth a1 a2 s2), .inl 4, .inr 0]) (σ1 := s2) rfl ?_
    rcases xb_inv h with ⟨E1, s5, e6, h⟩ | ⟨v4, s5, e6, h⟩
    · have h9 := Option.some.inj h
      subst h9
      exact go_VX (M1 := m_X10_keepPattern) (as := [.inl 4, .inl (F_X5_kindOfBoth a1 a2 s2), .inl 0, .inl 0, .inl a1, .inl a2, .inl (-1)]) (st := []) (k := 0) (ci := 10) dc_X10_either_36 ln_10_155 im_X10_keepPattern (by decide) rfl rfl mk_X10_keepPattern rfl (Nat.le_of_ble_eq_true rfl) (Nat.le_refl _) (lk_X10_keepPattern l hl d (by omega) 4 (F_X5_kindOfBoth a1 a2 s2) 0 0 a1 a2 (-1) s2 _ e6) _ rfl
    refine go_V (M1 := m_X10_keepPattern) (as := [.inl 4, .inl (F_X5_kindOfBoth a1 a2 s2), .inl 0, .inl 0, .inl a1, .inl a2, .inl (-1)]) (st := []) (k := 0) (ci := 10) dc_X10_either_36 ln_10_155 im_X10_keepPattern (by decide) rfl rfl mk_X10_keepPattern rfl (Nat.le_of_ble_eq_true rfl) (Nat.le_refl _) (v := (some (.inl v4))) (σ1 := s5) (lk_X10_keepPattern l hl d (by omega) 4 (F_X5_kindOfBoth a1 a2 s2) 0 0 a1 a2 (-1) s2 _ e6) _ rfl ?_
    have h9 := Option.some.inj h
    subst h9
    exact go_iret dc_X10_either_39 rfl
  have hf := go_co (as := [.inr 0, .inl a1, .inl a2]) mk_X10_either (fun _ _ => by decide +kernel) (by rfl) (Nat.le_of_ble_eq_true rfl) key
  exact hf
theorem dc_X10_isView_3 : decode m_X10_isView.2.2.1 3 = .ok (.invokestatic 94, 3) := by decide +kernel
theorem dc_X10_isView_6 : decode m_X10_isView.2.2.1 6 = .ok (.ireturn, 1) := by decide +kernel
theorem ok_X10_isView_0_3 : oks m_X10_isView.1 m_X10_isView.2.2.1 0 [(.iload_n 0, 1, (0, 0, 0)), (.iconst 0, 1, (0, 0, 0)), (.iconst 2, 1, (0, 0, 0))] = true ∧ plen 0 [(.iload_n 0, 1, (0, 0, 0)), (.iconst 0, 1, (0, 0, 0)), (.iconst 2, 1, (0, 0, 0))] = 3 := by decide +kernel
def F_X10_isView (a0 : Int) : Bool :=
F_X10_isIn a0 0 2
theorem lk_X10_isView (l : Launch) (d : Nat) (hd : 1 ≤ d) (a0 : Int) (σ : Sg) (q : Bool) (h : F_X10_isView a0 = q) : CT l d m_X10_isView.2.1 m_X10_isView.2.2.1 m_X10_isView.2.2.2.1 m_X10_isView.2.2.2.2 [.inl a0] (LAYC, σ) (some (.inl (b2i q))) (LAYC, σ) := by
  obtain ⟨d, rfl⟩ : ∃ e, d = e + 1 := ⟨d - 1, by omega⟩
  have key : Go l m_X10_isView (d + 1) LAYC (.inl (some (.inl (b2i q)))) σ 0 [some (.inl a0)] [] σ := by
    unfold F_X10_isView at h
    refine go_ops ok_X10_isView_0_3 (L' := [some (.inl a0)]) (st' := [.inl 2, .inl 0, .inl a0]) (σ1 := σ) rfl ?_
    refine go_S (M1 := m_X10_isIn) (as := [.inl a0, .inl 0, .inl 2]) (st := []) dc_X10_isView_3 ln_10_94 sm_X10_isIn mk_X10_isIn rfl (Nat.le_of_ble_eq_true rfl) (Nat.le_refl _) (v := (some (.inl (b2i (F_X10_isIn a0 0 2))))) (σ1 := σ) (lk_X10_isIn l d (by omega) a0 0 2 σ _ rfl) _ rfl ?_
    subst h
    exact go_zret (x := (F_X10_isIn a0 0 2)) dc_X10_isView_6 rfl
  have hf := go_ct (as := [.inl a0]) mk_X10_isView (by rfl) (Nat.le_of_ble_eq_true rfl) key
  exact hf
theorem dc_X10_view_1 : decode m_X10_view.2.2.1 1 = .ok (.invokestatic 187, 3) := by decide +kernel
theorem dc_X10_view_4 : decode m_X10_view.2.2.1 4 = .ok (.ifCond .eq 18, 3) := by decide +kernel
theorem dc_X10_view_12 : decode m_X10_view.2.2.1 12 = .ok (.invokevirtual 162, 3) := by decide +kernel
theorem dc_X10_view_15 : decode m_X10_view.2.2.1 15 = .ok (.ifCond .eq 7, 3) := by decide +kernel
theorem dc_X10_view_19 : decode m_X10_view.2.2.1 19 = .ok (.goto 4, 3) := by decide +kernel
theorem dc_X10_view_23 : decode m_X10_view.2.2.1 23 = .ok (.invokestatic 90, 3) := by decide +kernel
theorem dc_X10_view_31 : decode m_X10_view.2.2.1 31 = .ok (.invokevirtual 190, 3) := by decide +kernel
theorem dc_X10_view_34 : decode m_X10_view.2.2.1 34 = .ok (.ifCond .eq 20, 3) := by decide +kernel
theorem dc_X10_view_44 : decode m_X10_view.2.2.1 44 = .ok (.invokevirtual 168, 3) := by decide +kernel
theorem dc_X10_view_47 : decode m_X10_view.2.2.1 47 = .ok (.ifCond .eq 7, 3) := by decide +kernel
theorem dc_X10_view_51 : decode m_X10_view.2.2.1 51 = .ok (.goto 4, 3) := by decide +kernel
theorem dc_X10_view_55 : decode m_X10_view.2.2.1 55 = .ok (.invokestatic 98, 3) := by decide +kernel
theorem dc_X10_view_66 : decode m_X10_view.2.2.1 66 = .ok (.invokevirtual 155, 3) := by decide +kernel
theorem dc_X10_view_69 : decode m_X10_view.2.2.1 69 = .ok (.ireturn, 1) := by decide +kernel
theorem ok_X10_view_0_1 : oks m_X10_view.1 m_X10_view.2.2.1 0 [(.iload_n 1, 1, (0, 0, 0))] = true ∧ plen 0 [(.iload_n 1, 1, (0, 0, 0))] = 1 := by decide +kernel
theorem ok_X10_view_7_3 : oks m_X10_view.1 m_X10_view.2.2.1 7 [(.aload_n 0, 1, (0, 0, 0)), (.getfield 26, 3, (10, 2, 0)), (.iload_n 2, 1, (0, 0, 0))] = true ∧ plen 7 [(.aload_n 0, 1, (0, 0, 0)), (.getfield 26, 3, (10, 2, 0)), (.iload_n 2, 1, (0, 0, 0))] = 12 := by decide +kernel
theorem ok_X10_view_18_1 : oks m_X10_view.1 m_X10_view.2.2.1 18 [(.iconst 1, 1, (0, 0, 0))] = true ∧ plen 18 [(.iconst 1, 1, (0, 0, 0))] = 19 := by decide +kernel
theorem ok_X10_view_22_1 : oks m_X10_view.1 m_X10_view.2.2.1 22 [(.iconst 0, 1, (0, 0, 0))] = true ∧ plen 22 [(.iconst 0, 1, (0, 0, 0))] = 23 := by decide +kernel
theorem ok_X10_view_26_3 : oks m_X10_view.1 m_X10_view.2.2.1 26 [(.aload_n 0, 1, (0, 0, 0)), (.getfield 26, 3, (10, 2, 0)), (.iload_n 2, 1, (0, 0, 0))] = true ∧ plen 26 [(.aload_n 0, 1, (0, 0, 0)), (.getfield 26, 3, (10, 2, 0)), (.iload_n 2, 1, (0, 0, 0))] = 31 := by decide +kernel
theorem ok_X10_view_37_5 : oks m_X10_view.1 m_X10_view.2.2.1 37 [(.aload_n 0, 1, (0, 0, 0)), (.getfield 26, 3, (10, 2, 0)), (.iload_n 2, 1, (0, 0, 0)), (.iconst (-1), 1, (0, 0, 0)), (.iconst (-1), 1, (0, 0, 0))] = true ∧ plen 37 [(.aload_n 0, 1, (0, 0, 0)), (.getfield 26, 3, (10, 2, 0)), (.iload_n 2, 1, (0, 0, 0)), (.iconst (-1), 1, (0, 0, 0)), (.iconst (-1), 1, (0, 0, 0))] = 44 := by decide +kernel
theorem ok_X10_view_50_1 : oks m_X10_view.1 m_X10_view.2.2.1 50 [(.iconst 1, 1, (0, 0, 0))] = true ∧ plen 50 [(.iconst 1, 1, (0, 0, 0))] = 51 := by decide +kernel
theorem ok_X10_view_54_1 : oks m_X10_view.1 m_X10_view.2.2.1 54 [(.iconst 0, 1, (0, 0, 0))] = true ∧ plen 54 [(.iconst 0, 1, (0, 0, 0))] = 55 := by decide +kernel
theorem ok_X10_view_58_8 : oks m_X10_view.1 m_X10_view.2.2.1 58 [(.aload_n 0, 1, (0, 0, 0)), (.iconst 5, 1, (0, 0, 0)), (.iconst (-1), 1, (0, 0, 0)), (.iload_n 1, 1, (0, 0, 0)), (.iload_n 1, 1, (0, 0, 0)), (.iload_n 2, 1, (0, 0, 0)), (.iconst (-1), 1, (0, 0, 0)), (.iconst (-1), 1, (0, 0, 0))] = true ∧ plen 58 [(.aload_n 0, 1, (0, 0, 0)), (.iconst 5, 1, (0, 0, 0)), (.iconst (-1), 1, (0, 0, 0)), (.iload_n 1, 1, (0, 0, 0)), (.iload_n 1, 1, (0, 0, 0)), (.iload_n 2, 1, (0, 0, 0)), (.iconst (-1), 1, (0, 0, 0)), (.iconst (-1), 1, (0, 0, 0))] = 66 := by decide +kernel
def B_X10_view_55 (x1 : Int) (x2 : Int) (y0 : Bool) (σ : Sg) : Option ((Int ⊕ Nat) × Sg) :=
if y0 = true then
xb (F_X10_keepPattern 5 (-1) x1 x1 x2 (-1) (-1) σ) (fun E σ => some (.inr E, σ)) fun v1 s2 =>
some (.inl v1, s2)
else some (.inr 1, σ)
def B_X10_view_54 (x1 : Int) (x2 : Int) (σ : Sg) : Option ((Int ⊕ Nat) × Sg) :=
B_X10_view_55 x1 x2 false σ
def B_X10_view_23 (x1 : Int) (x2 : Int) (y0 : Bool) (σ : Sg) : Option ((Int ⊕ Nat) × Sg) :=
if y0 = true then
if (F_X5_isBare x2 σ) = true then
if (F_X5_isSmall x2 (-1) (-1) σ) = true then
B_X10_view_55 x1 x2 true σ
else
B_X10_view_54 x1 x2 σ
else
B_X10_view_54 x1 x2 σ
else some (.inr 0, σ)
def B_X10_view_22 (x1 : Int) (x2 : Int) (σ : Sg) : Option ((Int ⊕ Nat) × Sg) :=
B_X10_view_23 x1 x2 false σ
def F_X10_view (a1 : Int) (a2 : Int) (σ : Sg) : Option ((Int ⊕ Nat) × Sg) :=
if (F_X10_isView a1) = true then
if (F_X5_isThere a2 σ) = true then
B_X10_view_23 a1 a2 true σ
else
B_X10_view_22 a1 a2 σ
else
B_X10_view_22 a1 a2 σ
theorem lk_X10_view (l : Launch) (hl : l.stackTraces = false) (d : Nat) (hd : 8 ≤ d) (a1 : Int) (a2 : Int) (σ : Sg) (q : ((Int ⊕ Nat) × Sg)) (h : F_X10_view a1 a2 σ = some q) : outZ (ozI q.1) l d m_X10_view.2.1 m_X10_view.2.2.1 m_X10_view.2.2.2.1 m_X10_view.2.2.2.2 [.inr 0, .inl a1, .inl a2] (LAYC, σ) (LAYC, q.2) := by
  obtain ⟨d, rfl⟩ : ∃ e, d = e + 1 := ⟨d - 1, by omega⟩
  have key : Go l m_X10_view (d + 1) LAYC (ozI q.1) q.2 0 [some (.inr 0), some (.inl a1), some (.inl a2)] [] σ := by
    unfold F_X10_view at h
    have hB_X10_view_55 : ∀ (x1 : Int) (x2 : Int) (y0 : Bool) (σ : Sg), B_X10_view_55 x1 x2 y0 σ = some q → Go l m_X10_view (d + 1) LAYC (ozI q.1) q.2 55 [some (.inr 0), some (.inl x1), some (.inl x2)] [.inl (b2i y0)] σ := by
      intro x1 x2 y0 σ h
      unfold B_X10_view_55 at h
      rcases Decidable.em (¬ y0 = true) with hc | hc
      · replace h := (if_neg hc).symm.trans h
        have h9 := Option.some.inj h
        subst h9
        exact go_SX (M1 := m_X10_demandArgument) (as := [.inl (b2i y0)]) (st := []) dc_X10_view_55 ln_10_98 sm_X10_demandArgument rfl mk_X10_demandArgument rfl (Nat.le_of_ble_eq_true rfl) (Nat.le_refl _) (lkX_X10_demandArgument l d hl (by omega) _ hc LAYC σ) _ rfl
      replace hc := Decidable.not_not.mp hc
      replace h := (if_pos hc).symm.trans h
      refine go_S (M1 := m_X10_demandArgument) (as := [.inl (b2i y0)]) (st := []) dc_X10_view_55 ln_10_98 sm_X10_demandArgument mk_X10_demandArgument rfl (Nat.le_of_ble_eq_true rfl) (Nat.le_refl _) (v := none) (σ1 := σ) (lk_X10_demandArgument l d _ hc _ σ) _ rfl ?_
      refine go_ops ok_X10_view_58_8 (L' := [some (.inr 0), some (.inl x1), some (.inl x2)]) (st' := [.inl (-1), .inl (-1), .inl x2, .inl x1, .inl x1, .inl (-1), .inl 5, .inr 0]) (σ1 := σ) rfl ?_
      rcases xb_inv h with ⟨E1, s2, e3, h⟩ | ⟨v1, s2, e3, h⟩
      · have h9 := Option.some.inj h
        subst h9
        exact go_VX (M1 := m_X10_keepPattern) (as := [.inl 5, .inl (-1), .inl x1, .inl x1, .inl x2, .inl (-1), .inl (-1)]) (st := []) (k := 0) (ci := 10) dc_X10_view_66 ln_10_155 im_X10_keepPattern (by decide) rfl rfl mk_X10_keepPattern rfl (Nat.le_of_ble_eq_true rfl) (Nat.le_refl _) (lk_X10_keepPattern l hl d (by omega) 5 (-1) x1 x1 x2 (-1) (-1) σ _ e3) _ rfl
      refine go_V (M1 := m_X10_keepPattern) (as := [.inl 5, .inl (-1), .inl x1, .inl x1, .inl x2, .inl (-1), .inl (-1)]) (st := []) (k := 0) (ci := 10) dc_X10_view_66 ln_10_155 im_X10_keepPattern (by decide) rfl rfl mk_X10_keepPattern rfl (Nat.le_of_ble_eq_true rfl) (Nat.le_refl _) (v := (some (.inl v1))) (σ1 := s2) (lk_X10_keepPattern l hl d (by omega) 5 (-1) x1 x1 x2 (-1) (-1) σ _ e3) _ rfl ?_
      have h9 := Option.some.inj h
      subst h9
      exact go_iret dc_X10_view_69 rfl
    have hB_X10_view_54 : ∀ (x1 : Int) (x2 : Int) (σ : Sg), B_X10_view_54 x1 x2 σ = some q → Go l m_X10_view (d + 1) LAYC (ozI q.1) q.2 54 [some (.inr 0), some (.inl x1), some (.inl x2)] [] σ := by
      intro x1 x2 σ h
      unfold B_X10_view_54 at h
      refine go_ops ok_X10_view_54_1 (L' := [some (.inr 0), some (.inl x1), some (.inl x2)]) (st' := [.inl 0]) (σ1 := σ) rfl ?_
      exact hB_X10_view_55 x1 x2 false σ h
    have hB_X10_view_23 : ∀ (x1 : Int) (x2 : Int) (y0 : Bool) (σ : Sg), B_X10_view_23 x1 x2 y0 σ = some q → Go l m_X10_view (d + 1) LAYC (ozI q.1) q.2 23 [some (.inr 0), some (.inl x1), some (.inl x2)] [.inl (b2i y0)] σ := by
      intro x1 x2 y0 σ h
      unfold B_X10_view_23 at h
      rcases Decidable.em (¬ y0 = true) with hc | hc
      · replace h := (if_neg hc).symm.trans h
        have h9 := Option.some.inj h
        subst h9
        exact go_SX (M1 := m_X10_demandIndex) (as := [.inl (b2i y0)]) (st := []) dc_X10_view_23 ln_10_90 sm_X10_demandIndex rfl mk_X10_demandIndex rfl (Nat.le_of_ble_eq_true rfl) (Nat.le_refl _) (lkX_X10_demandIndex l d hl (by omega) _ hc LAYC σ) _ rfl
      replace hc := Decidable.not_not.mp hc
      replace h := (if_pos hc).symm.trans h
      refine go_S (M1 := m_X10_demandIndex) (as := [.inl (b2i y0)]) (st := []) dc_X10_view_23 ln_10_90 sm_X10_demandIndex mk_X10_demandIndex rfl (Nat.le_of_ble_eq_true rfl) (Nat.le_refl _) (v := none) (σ1 := σ) (lk_X10_demandIndex l d _ hc _ σ) _ rfl ?_
      refine go_ops ok_X10_view_26_3 (L' := [some (.inr 0), some (.inl x1), some (.inl x2)]) (st' := [.inl x2, .inr 10]) (σ1 := σ) rfl ?_
      refine go_V (M1 := m_X5_isBare) (as := [.inl x2]) (st := []) (k := 10) (ci := 5) dc_X10_view_31 ln_10_190 im_X5_isBare (by decide) rfl rfl mk_X5_isBare rfl (Nat.le_of_ble_eq_true rfl) (Nat.le_refl _) (v := (some (.inl (b2i (F_X5_isBare x2 σ))))) (σ1 := σ) (lk_X5_isBare l d (by omega) x2 σ _ rfl) _ rfl ?_
      refine go_ifb_eq dc_X10_view_34 (by rfl) (fun hc => ?_) (fun hc => ?_)
      · replace h := (if_neg hc).symm.trans h
        exact hB_X10_view_54 x1 x2 σ h
      · replace h := (if_pos hc).symm.trans h
        refine go_ops ok_X10_view_37_5 (L' := [some (.inr 0), some (.inl x1), some (.inl x2)]) (st' := [.inl (-1), .inl (-1), .inl x2, .inr 10]) (σ1 := σ) rfl ?_
        refine go_V (M1 := m_X5_isSmall) (as := [.inl x2, .inl (-1), .inl (-1)]) (st := []) (k := 10) (ci := 5) dc_X10_view_44 ln_10_168 im_X5_isSmall (by decide) rfl rfl mk_X5_isSmall rfl (Nat.le_of_ble_eq_true rfl) (Nat.le_refl _) (v := (some (.inl (b2i (F_X5_isSmall x2 (-1) (-1) σ))))) (σ1 := σ) (lk_X5_isSmall l d (by omega) x2 (-1) (-1) σ _ rfl) _ rfl ?_
        refine go_ifb_eq dc_X10_view_47 (by rfl) (fun hc => ?_) (fun hc => ?_)
        · replace h := (if_neg hc).symm.trans h
          exact hB_X10_view_54 x1 x2 σ h
        · replace h := (if_pos hc).symm.trans h
          refine go_ops ok_X10_view_50_1 (L' := [some (.inr 0), some (.inl x1), some (.inl x2)]) (st' := [.inl 1]) (σ1 := σ) rfl ?_
          refine go_goto dc_X10_view_51 (by rfl) ?_
          exact hB_X10_view_55 x1 x2 true σ h
    have hB_X10_view_22 : ∀ (x1 : Int) (x2 : Int) (σ : Sg), B_X10_view_22 x1 x2 σ = some q → Go l m_X10_view (d + 1) LAYC (ozI q.1) q.2 22 [some (.inr 0), some (.inl x1), some (.inl x2)] [] σ := by
      intro x1 x2 σ h
      unfold B_X10_view_22 at h
      refine go_ops ok_X10_view_22_1 (L' := [some (.inr 0), some (.inl x1), some (.inl x2)]) (st' := [.inl 0]) (σ1 := σ) rfl ?_
      exact hB_X10_view_23 x1 x2 false σ h
    refine go_ops ok_X10_view_0_1 (L' := [some (.inr 0), some (.inl a1), some (.inl a2)]) (st' := [.inl a1]) (σ1 := σ) rfl ?_
    refine go_S (M1 := m_X10_isView) (as := [.inl a1]) (st := []) dc_X10_view_1 ln_10_187 sm_X10_isView mk_X10_isView rfl (Nat.le_of_ble_eq_true rfl) (Nat.le_refl _) (v := (some (.inl (b2i (F_X10_isView a1))))) (σ1 := σ) (lk_X10_isView l d (by omega) a1 σ _ rfl) _ rfl ?_
    refine go_ifb_eq dc_X10_view_4 (by rfl) (fun hc => ?_) (fun hc => ?_)
    · replace h := (if_neg hc).symm.trans h
      exact hB_X10_view_22 a1 a2 σ h
    · replace h := (if_pos hc).symm.trans h
      refine go_ops ok_X10_view_7_3 (L' := [some (.inr 0), some (.inl a1), some (.inl a2)]) (st' := [.inl a2, .inr 10]) (σ1 := σ) rfl ?_
      refine go_V (M1 := m_X5_isThere) (as := [.inl a2]) (st := []) (k := 10) (ci := 5) dc_X10_view_12 ln_10_162 im_X5_isThere (by decide) rfl rfl mk_X5_isThere rfl (Nat.le_of_ble_eq_true rfl) (Nat.le_refl _) (v := (some (.inl (b2i (F_X5_isThere a2 σ))))) (σ1 := σ) (lk_X5_isThere l d (by omega) a2 σ _ rfl) _ rfl ?_
      refine go_ifb_eq dc_X10_view_15 (by rfl) (fun hc => ?_) (fun hc => ?_)
      · replace h := (if_neg hc).symm.trans h
        exact hB_X10_view_22 a1 a2 σ h
      · replace h := (if_pos hc).symm.trans h
        refine go_ops ok_X10_view_18_1 (L' := [some (.inr 0), some (.inl a1), some (.inl a2)]) (st' := [.inl 1]) (σ1 := σ) rfl ?_
        refine go_goto dc_X10_view_19 (by rfl) ?_
        exact hB_X10_view_23 a1 a2 true σ h
  have hf := go_co (as := [.inr 0, .inl a1, .inl a2]) mk_X10_view (fun _ _ => by decide +kernel) (by rfl) (Nat.le_of_ble_eq_true rfl) key
  exact hf
