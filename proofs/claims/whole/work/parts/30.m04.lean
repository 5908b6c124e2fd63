/-! read off: X11_mostNeeded .. X11_taken -/
theorem dc_X11_mostNeeded_12 : decode m_X11_mostNeeded.2.2.1 12 = .ok (.if_icmp .ge 31, 3) := by decide +kernel
theorem dc_X11_mostNeeded_17 : decode m_X11_mostNeeded.2.2.1 17 = .ok (.invokevirtual 330, 3) := by decide +kernel
theorem dc_X11_mostNeeded_20 : decode m_X11_mostNeeded.2.2.1 20 = .ok (.ifCond .ne 17, 3) := by decide +kernel
theorem dc_X11_mostNeeded_25 : decode m_X11_mostNeeded.2.2.1 25 = .ok (.invokevirtual 333, 3) := by decide +kernel
theorem dc_X11_mostNeeded_29 : decode m_X11_mostNeeded.2.2.1 29 = .ok (.if_icmp .eq 8, 3) := by decide +kernel
theorem dc_X11_mostNeeded_34 : decode m_X11_mostNeeded.2.2.1 34 = .ok (.invokevirtual 336, 3) := by decide +kernel
theorem dc_X11_mostNeeded_40 : decode m_X11_mostNeeded.2.2.1 40 = .ok (.goto (-33), 3) := by decide +kernel
theorem dc_X11_mostNeeded_52 : decode m_X11_mostNeeded.2.2.1 52 = .ok (.if_icmp .ge 70, 3) := by decide +kernel
theorem dc_X11_mostNeeded_60 : decode m_X11_mostNeeded.2.2.1 60 = .ok (.iaload, 1) := by decide +kernel
theorem dc_X11_mostNeeded_66 : decode m_X11_mostNeeded.2.2.1 66 = .ok (.iaload, 1) := by decide +kernel
theorem dc_X11_mostNeeded_67 : decode m_X11_mostNeeded.2.2.1 67 = .ok (.if_icmp .gt 33, 3) := by decide +kernel
theorem dc_X11_mostNeeded_75 : decode m_X11_mostNeeded.2.2.1 75 = .ok (.iaload, 1) := by decide +kernel
theorem dc_X11_mostNeeded_81 : decode m_X11_mostNeeded.2.2.1 81 = .ok (.iaload, 1) := by decide +kernel
theorem dc_X11_mostNeeded_82 : decode m_X11_mostNeeded.2.2.1 82 = .ok (.if_icmp .ne 22, 3) := by decide +kernel
theorem dc_X11_mostNeeded_90 : decode m_X11_mostNeeded.2.2.1 90 = .ok (.iaload, 1) := by decide +kernel
theorem dc_X11_mostNeeded_96 : decode m_X11_mostNeeded.2.2.1 96 = .ok (.iaload, 1) := by decide +kernel
theorem dc_X11_mostNeeded_97 : decode m_X11_mostNeeded.2.2.1 97 = .ok (.if_icmp .ge 7, 3) := by decide +kernel
theorem dc_X11_mostNeeded_101 : decode m_X11_mostNeeded.2.2.1 101 = .ok (.goto 4, 3) := by decide +kernel
theorem dc_X11_mostNeeded_107 : decode m_X11_mostNeeded.2.2.1 107 = .ok (.ifCond .eq 7, 3) := by decide +kernel
theorem dc_X11_mostNeeded_111 : decode m_X11_mostNeeded.2.2.1 111 = .ok (.goto 4, 3) := by decide +kernel
theorem dc_X11_mostNeeded_119 : decode m_X11_mostNeeded.2.2.1 119 = .ok (.goto (-72), 3) := by decide +kernel
theorem dc_X11_mostNeeded_127 : decode m_X11_mostNeeded.2.2.1 127 = .ok (.iaload, 1) := by decide +kernel
theorem dc_X11_mostNeeded_128 : decode m_X11_mostNeeded.2.2.1 128 = .ok (.ireturn, 1) := by decide +kernel
theorem ok_X11_mostNeeded_0_5 : oks m_X11_mostNeeded.1 m_X11_mostNeeded.2.2.1 0 [(.aload_n 0, 1, (0, 0, 0)), (.iconst 0, 1, (0, 0, 0)), (.putfield 324, 3, (11, 67, 0)), (.iconst 0, 1, (0, 0, 0)), (.istore_n 1, 1, (0, 0, 0))] = true ∧ plen 0 [(.aload_n 0, 1, (0, 0, 0)), (.iconst 0, 1, (0, 0, 0)), (.putfield 324, 3, (11, 67, 0)), (.iconst 0, 1, (0, 0, 0)), (.istore_n 1, 1, (0, 0, 0))] = 7 := by decide +kernel
theorem ok_X11_mostNeeded_7_3 : oks m_X11_mostNeeded.1 m_X11_mostNeeded.2.2.1 7 [(.iload_n 1, 1, (0, 0, 0)), (.aload_n 0, 1, (0, 0, 0)), (.getfield 228, 3, (11, 23, 0))] = true ∧ plen 7 [(.iload_n 1, 1, (0, 0, 0)), (.aload_n 0, 1, (0, 0, 0)), (.getfield 228, 3, (11, 23, 0))] = 12 := by decide +kernel
theorem ok_X11_mostNeeded_15_2 : oks m_X11_mostNeeded.1 m_X11_mostNeeded.2.2.1 15 [(.aload_n 0, 1, (0, 0, 0)), (.iload_n 1, 1, (0, 0, 0))] = true ∧ plen 15 [(.aload_n 0, 1, (0, 0, 0)), (.iload_n 1, 1, (0, 0, 0))] = 17 := by decide +kernel
theorem ok_X11_mostNeeded_23_2 : oks m_X11_mostNeeded.1 m_X11_mostNeeded.2.2.1 23 [(.aload_n 0, 1, (0, 0, 0)), (.iload_n 1, 1, (0, 0, 0))] = true ∧ plen 23 [(.aload_n 0, 1, (0, 0, 0)), (.iload_n 1, 1, (0, 0, 0))] = 25 := by decide +kernel
theorem ok_X11_mostNeeded_28_1 : oks m_X11_mostNeeded.1 m_X11_mostNeeded.2.2.1 28 [(.iconst 1, 1, (0, 0, 0))] = true ∧ plen 28 [(.iconst 1, 1, (0, 0, 0))] = 29 := by decide +kernel
theorem ok_X11_mostNeeded_32_2 : oks m_X11_mostNeeded.1 m_X11_mostNeeded.2.2.1 32 [(.aload_n 0, 1, (0, 0, 0)), (.iload_n 1, 1, (0, 0, 0))] = true ∧ plen 32 [(.aload_n 0, 1, (0, 0, 0)), (.iload_n 1, 1, (0, 0, 0))] = 34 := by decide +kernel
theorem ok_X11_mostNeeded_37_1 : oks m_X11_mostNeeded.1 m_X11_mostNeeded.2.2.1 37 [(.iinc 1 1, 3, (0, 0, 0))] = true ∧ plen 37 [(.iinc 1 1, 3, (0, 0, 0))] = 40 := by decide +kernel
theorem ok_X11_mostNeeded_43_4 : oks m_X11_mostNeeded.1 m_X11_mostNeeded.2.2.1 43 [(.iconst 0, 1, (0, 0, 0)), (.istore_n 1, 1, (0, 0, 0)), (.iconst 0, 1, (0, 0, 0)), (.istore_n 2, 1, (0, 0, 0))] = true ∧ plen 43 [(.iconst 0, 1, (0, 0, 0)), (.istore_n 1, 1, (0, 0, 0)), (.iconst 0, 1, (0, 0, 0)), (.istore_n 2, 1, (0, 0, 0))] = 47 := by decide +kernel
theorem ok_X11_mostNeeded_47_3 : oks m_X11_mostNeeded.1 m_X11_mostNeeded.2.2.1 47 [(.iload_n 2, 1, (0, 0, 0)), (.aload_n 0, 1, (0, 0, 0)), (.getfield 324, 3, (11, 67, 0))] = true ∧ plen 47 [(.iload_n 2, 1, (0, 0, 0)), (.aload_n 0, 1, (0, 0, 0)), (.getfield 324, 3, (11, 67, 0))] = 52 := by decide +kernel
theorem ok_X11_mostNeeded_55_3 : oks m_X11_mostNeeded.1 m_X11_mostNeeded.2.2.1 55 [(.aload_n 0, 1, (0, 0, 0)), (.getfield 152, 3, (11, 65, 0)), (.iload_n 2, 1, (0, 0, 0))] = true ∧ plen 55 [(.aload_n 0, 1, (0, 0, 0)), (.getfield 152, 3, (11, 65, 0)), (.iload_n 2, 1, (0, 0, 0))] = 60 := by decide +kernel
theorem ok_X11_mostNeeded_61_3 : oks m_X11_mostNeeded.1 m_X11_mostNeeded.2.2.1 61 [(.aload_n 0, 1, (0, 0, 0)), (.getfield 152, 3, (11, 65, 0)), (.iload_n 1, 1, (0, 0, 0))] = true ∧ plen 61 [(.aload_n 0, 1, (0, 0, 0)), (.getfield 152, 3, (11, 65, 0)), (.iload_n 1, 1, (0, 0, 0))] = 66 := by decide +kernel
theorem ok_X11_mostNeeded_70_3 : oks m_X11_mostNeeded.1 m_X11_mostNeeded.2.2.1 70 [(.aload_n 0, 1, (0, 0, 0)), (.getfield 152, 3, (11, 65, 0)), (.iload_n 2, 1, (0, 0, 0))] = true ∧ plen 70 [(.aload_n 0, 1, (0, 0, 0)), (.getfield 152, 3, (11, 65, 0)), (.iload_n 2, 1, (0, 0, 0))] = 75 := by decide +kernel
theorem ok_X11_mostNeeded_76_3 : oks m_X11_mostNeeded.1 m_X11_mostNeeded.2.2.1 76 [(.aload_n 0, 1, (0, 0, 0)), (.getfield 152, 3, (11, 65, 0)), (.iload_n 1, 1, (0, 0, 0))] = true ∧ plen 76 [(.aload_n 0, 1, (0, 0, 0)), (.getfield 152, 3, (11, 65, 0)), (.iload_n 1, 1, (0, 0, 0))] = 81 := by decide +kernel
theorem ok_X11_mostNeeded_85_3 : oks m_X11_mostNeeded.1 m_X11_mostNeeded.2.2.1 85 [(.aload_n 0, 1, (0, 0, 0)), (.getfield 149, 3, (11, 64, 0)), (.iload_n 2, 1, (0, 0, 0))] = true ∧ plen 85 [(.aload_n 0, 1, (0, 0, 0)), (.getfield 149, 3, (11, 64, 0)), (.iload_n 2, 1, (0, 0, 0))] = 90 := by decide +kernel
theorem ok_X11_mostNeeded_91_3 : oks m_X11_mostNeeded.1 m_X11_mostNeeded.2.2.1 91 [(.aload_n 0, 1, (0, 0, 0)), (.getfield 149, 3, (11, 64, 0)), (.iload_n 1, 1, (0, 0, 0))] = true ∧ plen 91 [(.aload_n 0, 1, (0, 0, 0)), (.getfield 149, 3, (11, 64, 0)), (.iload_n 1, 1, (0, 0, 0))] = 96 := by decide +kernel
theorem ok_X11_mostNeeded_100_1 : oks m_X11_mostNeeded.1 m_X11_mostNeeded.2.2.1 100 [(.iconst 1, 1, (0, 0, 0))] = true ∧ plen 100 [(.iconst 1, 1, (0, 0, 0))] = 101 := by decide +kernel
theorem ok_X11_mostNeeded_104_1 : oks m_X11_mostNeeded.1 m_X11_mostNeeded.2.2.1 104 [(.iconst 0, 1, (0, 0, 0))] = true ∧ plen 104 [(.iconst 0, 1, (0, 0, 0))] = 105 := by decide +kernel
theorem ok_X11_mostNeeded_105_2 : oks m_X11_mostNeeded.1 m_X11_mostNeeded.2.2.1 105 [(.istore_n 3, 1, (0, 0, 0)), (.iload_n 3, 1, (0, 0, 0))] = true ∧ plen 105 [(.istore_n 3, 1, (0, 0, 0)), (.iload_n 3, 1, (0, 0, 0))] = 107 := by decide +kernel
theorem ok_X11_mostNeeded_110_1 : oks m_X11_mostNeeded.1 m_X11_mostNeeded.2.2.1 110 [(.iload_n 2, 1, (0, 0, 0))] = true ∧ plen 110 [(.iload_n 2, 1, (0, 0, 0))] = 111 := by decide +kernel
theorem ok_X11_mostNeeded_114_1 : oks m_X11_mostNeeded.1 m_X11_mostNeeded.2.2.1 114 [(.iload_n 1, 1, (0, 0, 0))] = true ∧ plen 114 [(.iload_n 1, 1, (0, 0, 0))] = 115 := by decide +kernel
theorem ok_X11_mostNeeded_115_2 : oks m_X11_mostNeeded.1 m_X11_mostNeeded.2.2.1 115 [(.istore_n 1, 1, (0, 0, 0)), (.iinc 2 1, 3, (0, 0, 0))] = true ∧ plen 115 [(.istore_n 1, 1, (0, 0, 0)), (.iinc 2 1, 3, (0, 0, 0))] = 119 := by decide +kernel
theorem ok_X11_mostNeeded_122_3 : oks m_X11_mostNeeded.1 m_X11_mostNeeded.2.2.1 122 [(.aload_n 0, 1, (0, 0, 0)), (.getfield 149, 3, (11, 64, 0)), (.iload_n 1, 1, (0, 0, 0))] = true ∧ plen 122 [(.aload_n 0, 1, (0, 0, 0)), (.getfield 149, 3, (11, 64, 0)), (.iload_n 1, 1, (0, 0, 0))] = 127 := by decide +kernel
def B_X11_mostNeeded_37 (x1 : Int) (σ : Sg) : Option ((Int × Sg) ⊕ Sg) :=
some (.inl (wrap (x1 + 1), σ))
def L_X11_mostNeeded_7 (x1 : Int) (σ : Sg) : Option ((Int × Sg) ⊕ Sg) :=
if (σ 0 23) ≤ x1 then
some (.inr σ)
else
(F_X11_hasFailed x1 σ).bind fun q3 =>
if q3 = true then
B_X11_mostNeeded_37 x1 σ
else
(F_X11_tryCase x1 σ).bind fun q5 =>
if q5.1 = 1 then
B_X11_mostNeeded_37 x1 q5.2
else
(F_X11_needsOf x1 q5.2).bind fun q7 =>
B_X11_mostNeeded_37 x1 q7
def B_X11_mostNeeded_115 (x2 : Int) (y0 : Int) (σ : Sg) : Option ((Int × Int) ⊕ Int) :=
some (.inl (y0, wrap (x2 + 1)))
def B_X11_mostNeeded_105 (x1 : Int) (x2 : Int) (y0 : Bool) (σ : Sg) : Option ((Int × Int) ⊕ Int) :=
if y0 = true then
B_X11_mostNeeded_115 x2 x2 σ
else
B_X11_mostNeeded_115 x2 x1 σ
def B_X11_mostNeeded_100 (x1 : Int) (x2 : Int) (σ : Sg) : Option ((Int × Int) ⊕ Int) :=
B_X11_mostNeeded_105 x1 x2 true σ
def B_X11_mostNeeded_104 (x1 : Int) (x2 : Int) (σ : Sg) : Option ((Int × Int) ⊕ Int) :=
B_X11_mostNeeded_105 x1 x2 false σ
def L_X11_mostNeeded_47 (σ : Sg) (x1 : Int) (x2 : Int) : Option ((Int × Int) ⊕ Int) :=
if (σ 0 67) ≤ x2 then
some (.inr x1)
else
(rdn 512 σ 48 x2).bind fun v11 =>
(rdn 512 σ 48 x1).bind fun v13 =>
if v13 < v11 then
B_X11_mostNeeded_100 x1 x2 σ
else
(rdn 512 σ 48 x2).bind fun v15 =>
(rdn 512 σ 48 x1).bind fun v17 =>
if v15 = v17 then
(rdn 512 σ 47 x2).bind fun v19 =>
(rdn 512 σ 47 x1).bind fun v21 =>
if v21 ≤ v19 then
B_X11_mostNeeded_104 x1 x2 σ
else
B_X11_mostNeeded_100 x1 x2 σ
else
B_X11_mostNeeded_104 x1 x2 σ
def F_X11_mostNeeded (σ : Sg) : Option (Int × Sg) :=
bnd (up2 σ 0 67 0) fun s1 =>
(iter (fun a : (Int × Sg) => L_X11_mostNeeded_7 a.1 a.2) 3000 (0, s1)).bind fun y9 =>
(iter (fun a : (Int × Int) => L_X11_mostNeeded_47 y9 a.1 a.2) 3000 (0, 0)).bind fun y23 =>
(rdn 512 y9 47 y23).bind fun v25 =>
some (v25, y9)
theorem lk_X11_mostNeeded (l : Launch) (d : Nat) (hd : 6 ≤ d) (σ : Sg) (q : (Int × Sg)) (h : F_X11_mostNeeded σ = some q) : CT l d m_X11_mostNeeded.2.1 m_X11_mostNeeded.2.2.1 m_X11_mostNeeded.2.2.2.1 m_X11_mostNeeded.2.2.2.2 [.inr 0] (LAYM, σ) (some (.inl q.1)) (LAYM, q.2) := by
  obtain ⟨d, rfl⟩ : ∃ e, d = e + 1 := ⟨d - 1, by omega⟩
  have key : Go l m_X11_mostNeeded (d + 1) LAYM (.inl (some (.inl q.1))) q.2 0 [some (.inr 0), none, none, none] [] σ := by
    unfold F_X11_mostNeeded at h
    have hL_X11_mostNeeded_7 : ∀ (n : Nat) (a : (Int × Sg)) (y : Sg), iter (fun a : (Int × Sg) => L_X11_mostNeeded_7 a.1 a.2) n a = some y → (fun y : Sg => Go l m_X11_mostNeeded (d + 1) LAYM (.inl (some (.inl q.1))) q.2 43 [some (.inr 0), none, none, none] [] y) y → (fun a : (Int × Sg) => Go l m_X11_mostNeeded (d + 1) LAYM (.inl (some (.inl q.1))) q.2 7 [some (.inr 0), some (.inl a.1), none, none] [] a.2) a := by
      skip
      refine go_iter (G := fun a : (Int × Sg) => Go l m_X11_mostNeeded (d + 1) LAYM (.inl (some (.inl q.1))) q.2 7 [some (.inr 0), some (.inl a.1), none, none] [] a.2) (K := fun y : Sg => Go l m_X11_mostNeeded (d + 1) LAYM (.inl (some (.inl q.1))) q.2 43 [some (.inr 0), none, none, none] [] y) ?_
      rintro ⟨x1, σ⟩ w h hK
      replace h : L_X11_mostNeeded_7 x1 σ = some w := h
      show Go l m_X11_mostNeeded (d + 1) LAYM (.inl (some (.inl q.1))) q.2 7 [some (.inr 0), some (.inl x1), none, none] [] σ
      unfold L_X11_mostNeeded_7 at h
      have hB_X11_mostNeeded_37 : ∀ (x1 : Int) (σ : Sg), B_X11_mostNeeded_37 x1 σ = some w → Go l m_X11_mostNeeded (d + 1) LAYM (.inl (some (.inl q.1))) q.2 37 [some (.inr 0), some (.inl x1), none, none] [] σ := by
        intro x1 σ h
        unfold B_X11_mostNeeded_37 at h
        refine go_ops ok_X11_mostNeeded_37_1 (L' := [some (.inr 0), some (.inl (wrap (x1 + 1))), none, none]) (st' := []) (σ1 := σ) rfl ?_
        refine go_goto dc_X11_mostNeeded_40 (by rfl) ?_
        cases h
        exact hK
      refine go_ops ok_X11_mostNeeded_7_3 (L' := [some (.inr 0), some (.inl x1), none, none]) (st' := [.inl (σ 0 23), .inl x1]) (σ1 := σ) rfl ?_
      refine go_icmp_ge dc_X11_mostNeeded_12 (by rfl) (fun hc => ?_) (fun hc => ?_)
      · replace h := (if_pos hc).symm.trans h
        cases h
        refine go_wk (L' := [some (.inr 0), none, none, none]) ⟨rfl, trivial⟩ ?_
        exact hK
      · replace h := (if_neg hc).symm.trans h
        refine go_ops ok_X11_mostNeeded_15_2 (L' := [some (.inr 0), some (.inl x1), none, none]) (st' := [.inl x1, .inr 0]) (σ1 := σ) rfl ?_
        obtain ⟨q3, e4, h⟩ := bind_inv h
        refine go_V (M1 := m_X11_hasFailed) (as := [.inl x1]) (st := []) (k := 0) (ci := 11) dc_X11_mostNeeded_17 ln_11_330 im_X11_hasFailed (by decide) rfl rfl mk_X11_hasFailed rfl (Nat.le_of_ble_eq_true rfl) (Nat.le_refl _) (v := (some (.inl (b2i q3)))) (σ1 := σ) (lk_X11_hasFailed l d (by omega) x1 σ q3 e4) _ rfl ?_
        refine go_ifb_ne dc_X11_mostNeeded_20 (by rfl) (fun hc => ?_) (fun hc => ?_)
        · replace h := (if_pos hc).symm.trans h
          exact hB_X11_mostNeeded_37 x1 σ h
        · replace h := (if_neg hc).symm.trans h
          refine go_ops ok_X11_mostNeeded_23_2 (L' := [some (.inr 0), some (.inl x1), none, none]) (st' := [.inl x1, .inr 0]) (σ1 := σ) rfl ?_
          obtain ⟨q5, e6, h⟩ := bind_inv h
          refine go_V (M1 := m_X11_tryCase) (as := [.inl x1]) (st := []) (k := 0) (ci := 11) dc_X11_mostNeeded_25 ln_11_333 im_X11_tryCase (by decide) rfl rfl mk_X11_tryCase rfl (Nat.le_of_ble_eq_true rfl) (Nat.le_refl _) (v := (some (.inl q5.1))) (σ1 := q5.2) (lk_X11_tryCase l d (by omega) x1 σ q5 e6) _ rfl ?_
          refine go_ops ok_X11_mostNeeded_28_1 (L' := [some (.inr 0), some (.inl x1), none, none]) (st' := [.inl 1, .inl q5.1]) (σ1 := q5.2) rfl ?_
          refine go_icmp_eq dc_X11_mostNeeded_29 (by rfl) (fun hc => ?_) (fun hc => ?_)
          · replace h := (if_pos hc).symm.trans h
            exact hB_X11_mostNeeded_37 x1 q5.2 h
          · replace h := (if_neg hc).symm.trans h
            refine go_ops ok_X11_mostNeeded_32_2 (L' := [some (.inr 0), some (.inl x1), none, none]) (st' := [.inl x1, .inr 0]) (σ1 := q5.2) rfl ?_
            obtain ⟨q7, e8, h⟩ := bind_inv h
            refine go_V (M1 := m_X11_needsOf) (as := [.inl x1]) (st := []) (k := 0) (ci := 11) dc_X11_mostNeeded_34 ln_11_336 im_X11_needsOf (by decide) rfl rfl mk_X11_needsOf rfl (Nat.le_of_ble_eq_true rfl) (Nat.le_refl _) (v := none) (σ1 := q7) (lk_X11_needsOf l d (by omega) x1 q5.2 q7 e8) _ rfl ?_
            exact hB_X11_mostNeeded_37 x1 q7 h
    have hL_X11_mostNeeded_47 : ∀ (σ : Sg) (n : Nat) (a : (Int × Int)) (y : Int), iter (fun a : (Int × Int) => L_X11_mostNeeded_47 σ a.1 a.2) n a = some y → (fun y : Int => Go l m_X11_mostNeeded (d + 1) LAYM (.inl (some (.inl q.1))) q.2 122 [some (.inr 0), some (.inl y), none, none] [] σ) y → (fun a : (Int × Int) => Go l m_X11_mostNeeded (d + 1) LAYM (.inl (some (.inl q.1))) q.2 47 [some (.inr 0), some (.inl a.1), some (.inl a.2), none] [] σ) a := by
      intro σ
      refine go_iter (G := fun a : (Int × Int) => Go l m_X11_mostNeeded (d + 1) LAYM (.inl (some (.inl q.1))) q.2 47 [some (.inr 0), some (.inl a.1), some (.inl a.2), none] [] σ) (K := fun y : Int => Go l m_X11_mostNeeded (d + 1) LAYM (.inl (some (.inl q.1))) q.2 122 [some (.inr 0), some (.inl y), none, none] [] σ) ?_
      rintro ⟨x1, x2⟩ w h hK
      replace h : L_X11_mostNeeded_47 σ x1 x2 = some w := h
      show Go l m_X11_mostNeeded (d + 1) LAYM (.inl (some (.inl q.1))) q.2 47 [some (.inr 0), some (.inl x1), some (.inl x2), none] [] σ
      unfold L_X11_mostNeeded_47 at h
      have hB_X11_mostNeeded_115 : ∀ (x2 : Int) (y0 : Int), B_X11_mostNeeded_115 x2 y0 σ = some w → Go l m_X11_mostNeeded (d + 1) LAYM (.inl (some (.inl q.1))) q.2 115 [some (.inr 0), none, some (.inl x2), none] [.inl y0] σ := by
        intro x2 y0 h
        unfold B_X11_mostNeeded_115 at h
        refine go_ops ok_X11_mostNeeded_115_2 (L' := [some (.inr 0), some (.inl y0), some (.inl (wrap (x2 + 1))), none]) (st' := []) (σ1 := σ) rfl ?_
        refine go_goto dc_X11_mostNeeded_119 (by rfl) ?_
        cases h
        exact hK
      have hB_X11_mostNeeded_105 : ∀ (x1 : Int) (x2 : Int) (y0 : Bool), B_X11_mostNeeded_105 x1 x2 y0 σ = some w → Go l m_X11_mostNeeded (d + 1) LAYM (.inl (some (.inl q.1))) q.2 105 [some (.inr 0), some (.inl x1), some (.inl x2), none] [.inl (b2i y0)] σ := by
        intro x1 x2 y0 h
        unfold B_X11_mostNeeded_105 at h
        refine go_ops ok_X11_mostNeeded_105_2 (L' := [some (.inr 0), some (.inl x1), some (.inl x2), some (.inl (b2i y0))]) (st' := [.inl (b2i y0)]) (σ1 := σ) rfl ?_
        refine go_ifb_eq dc_X11_mostNeeded_107 (by rfl) (fun hc => ?_) (fun hc => ?_)
        · replace h := (if_neg hc).symm.trans h
          refine go_ops ok_X11_mostNeeded_114_1 (L' := [some (.inr 0), some (.inl x1), some (.inl x2), some (.inl (b2i y0))]) (st' := [.inl x1]) (σ1 := σ) rfl ?_
          refine go_wk (L' := [some (.inr 0), none, some (.inl x2), none]) ⟨rfl, rfl, trivial⟩ ?_
          exact hB_X11_mostNeeded_115 x2 x1 h
        · replace h := (if_pos hc).symm.trans h
          refine go_ops ok_X11_mostNeeded_110_1 (L' := [some (.inr 0), some (.inl x1), some (.inl x2), some (.inl (b2i y0))]) (st' := [.inl x2]) (σ1 := σ) rfl ?_
          refine go_goto dc_X11_mostNeeded_111 (by rfl) ?_
          refine go_wk (L' := [some (.inr 0), none, some (.inl x2), none]) ⟨rfl, rfl, trivial⟩ ?_
          exact hB_X11_mostNeeded_115 x2 x2 h
      have hB_X11_mostNeeded_100 : ∀ (x1 : Int) (x2 : Int), B_X11_mostNeeded_100 x1 x2 σ = some w → Go l m_X11_mostNeeded (d + 1) LAYM (.inl (some (.inl q.1))) q.2 100 [some (.inr 0), some (.inl x1), some (.inl x2), none] [] σ := by
        intro x1 x2 h
        unfold B_X11_mostNeeded_100 at h
        refine go_ops ok_X11_mostNeeded_100_1 (L' := [some (.inr 0), some (.inl x1), some (.inl x2), none]) (st' := [.inl 1]) (σ1 := σ) rfl ?_
        refine go_goto dc_X11_mostNeeded_101 (by rfl) ?_
        exact hB_X11_mostNeeded_105 x1 x2 true h
      have hB_X11_mostNeeded_104 : ∀ (x1 : Int) (x2 : Int), B_X11_mostNeeded_104 x1 x2 σ = some w → Go l m_X11_mostNeeded (d + 1) LAYM (.inl (some (.inl q.1))) q.2 104 [some (.inr 0), some (.inl x1), some (.inl x2), none] [] σ := by
        intro x1 x2 h
        unfold B_X11_mostNeeded_104 at h
        refine go_ops ok_X11_mostNeeded_104_1 (L' := [some (.inr 0), some (.inl x1), some (.inl x2), none]) (st' := [.inl 0]) (σ1 := σ) rfl ?_
        exact hB_X11_mostNeeded_105 x1 x2 false h
      refine go_ops ok_X11_mostNeeded_47_3 (L' := [some (.inr 0), some (.inl x1), some (.inl x2), none]) (st' := [.inl (σ 0 67), .inl x2]) (σ1 := σ) rfl ?_
      refine go_icmp_ge dc_X11_mostNeeded_52 (by rfl) (fun hc => ?_) (fun hc => ?_)
      · replace h := (if_pos hc).symm.trans h
        cases h
        refine go_wk (L' := [some (.inr 0), some (.inl x1), none, none]) ⟨rfl, rfl, trivial⟩ ?_
        exact hK
      · replace h := (if_neg hc).symm.trans h
        refine go_ops ok_X11_mostNeeded_55_3 (L' := [some (.inr 0), some (.inl x1), some (.inl x2), none]) (st' := [.inl x2, .inr 48]) (σ1 := σ) rfl ?_
        obtain ⟨v11, e12, h⟩ := bind_inv h
        refine go_rd (k := 48) dc_X11_mostNeeded_60 rfl e12 ?_
        refine go_ops ok_X11_mostNeeded_61_3 (L' := [some (.inr 0), some (.inl x1), some (.inl x2), none]) (st' := [.inl x1, .inr 48, .inl v11]) (σ1 := σ) rfl ?_
        obtain ⟨v13, e14, h⟩ := bind_inv h
        refine go_rd (k := 48) dc_X11_mostNeeded_66 rfl e14 ?_
        refine go_icmp_gt dc_X11_mostNeeded_67 (by rfl) (fun hc => ?_) (fun hc => ?_)
        · replace h := (if_pos hc).symm.trans h
          exact hB_X11_mostNeeded_100 x1 x2 h
        · replace h := (if_neg hc).symm.trans h
          refine go_ops ok_X11_mostNeeded_70_3 (L' := [some (.inr 0), some (.inl x1), some (.inl x2), none]) (st' := [.inl x2, .inr 48]) (σ1 := σ) rfl ?_
          obtain ⟨v15, e16, h⟩ := bind_inv h
          refine go_rd (k := 48) dc_X11_mostNeeded_75 rfl e16 ?_
          refine go_ops ok_X11_mostNeeded_76_3 (L' := [some (.inr 0), some (.inl x1), some (.inl x2), none]) (st' := [.inl x1, .inr 48, .inl v15]) (σ1 := σ) rfl ?_
          obtain ⟨v17, e18, h⟩ := bind_inv h
          refine go_rd (k := 48) dc_X11_mostNeeded_81 rfl e18 ?_
          refine go_icmp_ne dc_X11_mostNeeded_82 (by rfl) (fun hc => ?_) (fun hc => ?_)
          · replace h := (if_neg hc).symm.trans h
            exact hB_X11_mostNeeded_104 x1 x2 h
          · replace h := (if_pos hc).symm.trans h
            refine go_ops ok_X11_mostNeeded_85_3 (L' := [some (.inr 0), some (.inl x1), some (.inl x2), none]) (st' := [.inl x2, .inr 47]) (σ1 := σ) rfl ?_
            obtain ⟨v19, e20, h⟩ := bind_inv h
            refine go_rd (k := 47) dc_X11_mostNeeded_90 rfl e20 ?_
            refine go_ops ok_X11_mostNeeded_91_3 (L' := [some (.inr 0), some (.inl x1), some (.inl x2), none]) (st' := [.inl x1, .inr 47, .inl v19]) (σ1 := σ) rfl ?_
            obtain ⟨v21, e22, h⟩ := bind_inv h
            refine go_rd (k := 47) dc_X11_mostNeeded_96 rfl e22 ?_
            refine go_icmp_ge dc_X11_mostNeeded_97 (by rfl) (fun hc => ?_) (fun hc => ?_)
            · replace h := (if_pos hc).symm.trans h
              exact hB_X11_mostNeeded_104 x1 x2 h
            · replace h := (if_neg hc).symm.trans h
              exact hB_X11_mostNeeded_100 x1 x2 h
    obtain ⟨s1, e2, h⟩ := bnd_inv h
    refine go_ops ok_X11_mostNeeded_0_5 (L' := [some (.inr 0), some (.inl 0), none, none]) (st' := []) (σ1 := s1) (by subst e2; rfl) ?_
    obtain ⟨y9, e10, h⟩ := bind_inv h
    refine hL_X11_mostNeeded_7  3000 (0, s1) y9 e10 ?_
    show Go l m_X11_mostNeeded (d + 1) LAYM (.inl (some (.inl q.1))) q.2 43 [some (.inr 0), none, none, none] [] y9
    refine go_ops ok_X11_mostNeeded_43_4 (L' := [some (.inr 0), some (.inl 0), some (.inl 0), none]) (st' := []) (σ1 := y9) rfl ?_
    obtain ⟨y23, e24, h⟩ := bind_inv h
    refine hL_X11_mostNeeded_47 y9 3000 (0, 0) y23 e24 ?_
    show Go l m_X11_mostNeeded (d + 1) LAYM (.inl (some (.inl q.1))) q.2 122 [some (.inr 0), some (.inl y23), none, none] [] y9
    refine go_ops ok_X11_mostNeeded_122_3 (L' := [some (.inr 0), some (.inl y23), none, none]) (st' := [.inl y23, .inr 47]) (σ1 := y9) rfl ?_
    obtain ⟨v25, e26, h⟩ := bind_inv h
    refine go_rd (k := 47) dc_X11_mostNeeded_127 rfl e26 ?_
    have h9 := Option.some.inj h
    subst h9
    exact go_iret dc_X11_mostNeeded_128 rfl
  have hf := go_ct (as := [.inr 0]) mk_X11_mostNeeded (by rfl) (Nat.le_of_ble_eq_true rfl) key
  exact hf
theorem dc_X11_lay_15 : decode m_X11_lay.2.2.1 15 = .ok (.ifCond .eq 59, 3) := by decide +kernel
theorem dc_X11_lay_23 : decode m_X11_lay.2.2.1 23 = .ok (.if_icmp .ge 51, 3) := by decide +kernel
theorem dc_X11_lay_28 : decode m_X11_lay.2.2.1 28 = .ok (.invokevirtual 330, 3) := by decide +kernel
theorem dc_X11_lay_31 : decode m_X11_lay.2.2.1 31 = .ok (.ifCond .eq 7, 3) := by decide +kernel
theorem dc_X11_lay_35 : decode m_X11_lay.2.2.1 35 = .ok (.goto 8, 3) := by decide +kernel
theorem dc_X11_lay_40 : decode m_X11_lay.2.2.1 40 = .ok (.invokevirtual 333, 3) := by decide +kernel
theorem dc_X11_lay_48 : decode m_X11_lay.2.2.1 48 = .ok (.if_icmp .ne 7, 3) := by decide +kernel
theorem dc_X11_lay_52 : decode m_X11_lay.2.2.1 52 = .ok (.goto 4, 3) := by decide +kernel
theorem dc_X11_lay_61 : decode m_X11_lay.2.2.1 61 = .ok (.ifCond .eq 7, 3) := by decide +kernel
theorem dc_X11_lay_65 : decode m_X11_lay.2.2.1 65 = .ok (.goto 4, 3) := by decide +kernel
theorem dc_X11_lay_71 : decode m_X11_lay.2.2.1 71 = .ok (.goto (-58), 3) := by decide +kernel
theorem dc_X11_lay_76 : decode m_X11_lay.2.2.1 76 = .ok (.ifCond .eq 12, 3) := by decide +kernel
theorem dc_X11_lay_85 : decode m_X11_lay.2.2.1 85 = .ok (.iastore, 1) := by decide +kernel
theorem dc_X11_lay_87 : decode m_X11_lay.2.2.1 87 = .ok (.ireturn, 1) := by decide +kernel
theorem dc_X11_lay_94 : decode m_X11_lay.2.2.1 94 = .ok (.iastore, 1) := by decide +kernel
theorem dc_X11_lay_97 : decode m_X11_lay.2.2.1 97 = .ok (.ifCond .ne 22, 3) := by decide +kernel
theorem dc_X11_lay_105 : decode m_X11_lay.2.2.1 105 = .ok (.iaload, 1) := by decide +kernel
theorem dc_X11_lay_107 : decode m_X11_lay.2.2.1 107 = .ok (.if_icmp .ne 12, 3) := by decide +kernel
theorem dc_X11_lay_116 : decode m_X11_lay.2.2.1 116 = .ok (.iastore, 1) := by decide +kernel
theorem dc_X11_lay_118 : decode m_X11_lay.2.2.1 118 = .ok (.ireturn, 1) := by decide +kernel
theorem dc_X11_lay_124 : decode m_X11_lay.2.2.1 124 = .ok (.ifCond .ne 7, 3) := by decide +kernel
theorem dc_X11_lay_128 : decode m_X11_lay.2.2.1 128 = .ok (.goto 7, 3) := by decide +kernel
theorem dc_X11_lay_140 : decode m_X11_lay.2.2.1 140 = .ok (.if_icmp .ne 41, 3) := by decide +kernel
theorem dc_X11_lay_152 : decode m_X11_lay.2.2.1 152 = .ok (.iastore, 1) := by decide +kernel
theorem dc_X11_lay_162 : decode m_X11_lay.2.2.1 162 = .ok (.iastore, 1) := by decide +kernel
theorem dc_X11_lay_175 : decode m_X11_lay.2.2.1 175 = .ok (.iaload, 1) := by decide +kernel
theorem dc_X11_lay_178 : decode m_X11_lay.2.2.1 178 = .ok (.goto 89, 3) := by decide +kernel
theorem dc_X11_lay_184 : decode m_X11_lay.2.2.1 184 = .ok (.if_icmp .ne 83, 3) := by decide +kernel
theorem dc_X11_lay_194 : decode m_X11_lay.2.2.1 194 = .ok (.if_icmp .ne 10, 3) := by decide +kernel
theorem dc_X11_lay_198 : decode m_X11_lay.2.2.1 198 = .ok (.invokevirtual 339, 3) := by decide +kernel
theorem dc_X11_lay_201 : decode m_X11_lay.2.2.1 201 = .ok (.goto 7, 3) := by decide +kernel
theorem dc_X11_lay_208 : decode m_X11_lay.2.2.1 208 = .ok (.iastore, 1) := by decide +kernel
theorem dc_X11_lay_220 : decode m_X11_lay.2.2.1 220 = .ok (.iaload, 1) := by decide +kernel
theorem dc_X11_lay_221 : decode m_X11_lay.2.2.1 221 = .ok (.invokevirtual 342, 3) := by decide +kernel
theorem dc_X11_lay_224 : decode m_X11_lay.2.2.1 224 = .ok (.iastore, 1) := by decide +kernel
theorem dc_X11_lay_230 : decode m_X11_lay.2.2.1 230 = .ok (.iaload, 1) := by decide +kernel
theorem dc_X11_lay_232 : decode m_X11_lay.2.2.1 232 = .ok (.if_icmp .ne 8, 3) := by decide +kernel
theorem dc_X11_lay_237 : decode m_X11_lay.2.2.1 237 = .ok (.goto 28, 3) := by decide +kernel
theorem dc_X11_lay_245 : decode m_X11_lay.2.2.1 245 = .ok (.iaload, 1) := by decide +kernel
theorem dc_X11_lay_247 : decode m_X11_lay.2.2.1 247 = .ok (.if_icmp .ne 7, 3) := by decide +kernel
theorem dc_X11_lay_251 : decode m_X11_lay.2.2.1 251 = .ok (.goto 14, 3) := by decide +kernel
theorem dc_X11_lay_263 : decode m_X11_lay.2.2.1 263 = .ok (.iaload, 1) := by decide +kernel
theorem dc_X11_lay_264 : decode m_X11_lay.2.2.1 264 = .ok (.iaload, 1) := by decide +kernel
theorem dc_X11_lay_274 : decode m_X11_lay.2.2.1 274 = .ok (.iastore, 1) := by decide +kernel
theorem dc_X11_lay_285 : decode m_X11_lay.2.2.1 285 = .ok (.if_icmp .le 5, 3) := by decide +kernel
theorem dc_X11_lay_289 : decode m_X11_lay.2.2.1 289 = .ok (.ireturn, 1) := by decide +kernel
theorem dc_X11_lay_299 : decode m_X11_lay.2.2.1 299 = .ok (.iastore, 1) := by decide +kernel
theorem dc_X11_lay_307 : decode m_X11_lay.2.2.1 307 = .ok (.iastore, 1) := by decide +kernel
theorem dc_X11_lay_315 : decode m_X11_lay.2.2.1 315 = .ok (.if_icmp .ge 65, 3) := by decide +kernel
theorem dc_X11_lay_321 : decode m_X11_lay.2.2.1 321 = .ok (.if_icmp .ne 22, 3) := by decide +kernel
theorem dc_X11_lay_326 : decode m_X11_lay.2.2.1 326 = .ok (.ifCond .eq 13, 3) := by decide +kernel
theorem dc_X11_lay_334 : decode m_X11_lay.2.2.1 334 = .ok (.iaload, 1) := by decide +kernel
theorem dc_X11_lay_336 : decode m_X11_lay.2.2.1 336 = .ok (.if_icmp .ne 7, 3) := by decide +kernel
theorem dc_X11_lay_340 : decode m_X11_lay.2.2.1 340 = .ok (.goto 4, 3) := by decide +kernel
theorem dc_X11_lay_350 : decode m_X11_lay.2.2.1 350 = .ok (.ifCond .eq 16, 3) := by decide +kernel
theorem dc_X11_lay_355 : decode m_X11_lay.2.2.1 355 = .ok (.ifCond .ne 7, 3) := by decide +kernel
theorem dc_X11_lay_359 : decode m_X11_lay.2.2.1 359 = .ok (.goto 9, 3) := by decide +kernel
theorem dc_X11_lay_363 : decode m_X11_lay.2.2.1 363 = .ok (.goto 5, 3) := by decide +kernel
theorem dc_X11_lay_370 : decode m_X11_lay.2.2.1 370 = .ok (.invokevirtual 345, 3) := by decide +kernel
theorem dc_X11_lay_377 : decode m_X11_lay.2.2.1 377 = .ok (.goto (-66), 3) := by decide +kernel
theorem dc_X11_lay_381 : decode m_X11_lay.2.2.1 381 = .ok (.ireturn, 1) := by decide +kernel
theorem ok_X11_lay_0_9 : oks m_X11_lay.1 m_X11_lay.2.2.1 0 [(.aload_n 0, 1, (0, 0, 0)), (.iload_n 1, 1, (0, 0, 0)), (.putfield 268, 3, (11, 41, 0)), (.iconst 0, 1, (0, 0, 0)), (.istore_n 3, 1, (0, 0, 0)), (.iconst 1, 1, (0, 0, 0)), (.istore 4, 2, (0, 0, 0)), (.iconst 1, 1, (0, 0, 0)), (.istore 5, 2, (0, 0, 0))] = true ∧ plen 0 [(.aload_n 0, 1, (0, 0, 0)), (.iload_n 1, 1, (0, 0, 0)), (.putfield 268, 3, (11, 41, 0)), (.iconst 0, 1, (0, 0, 0)), (.istore_n 3, 1, (0, 0, 0)), (.iconst 1, 1, (0, 0, 0)), (.istore 4, 2, (0, 0, 0)), (.iconst 1, 1, (0, 0, 0)), (.istore 5, 2, (0, 0, 0))] = 13 := by decide +kernel
theorem ok_X11_lay_13_1 : oks m_X11_lay.1 m_X11_lay.2.2.1 13 [(.iload 5, 2, (0, 0, 0))] = true ∧ plen 13 [(.iload 5, 2, (0, 0, 0))] = 15 := by decide +kernel
theorem ok_X11_lay_18_3 : oks m_X11_lay.1 m_X11_lay.2.2.1 18 [(.iload_n 3, 1, (0, 0, 0)), (.aload_n 0, 1, (0, 0, 0)), (.getfield 228, 3, (11, 23, 0))] = true ∧ plen 18 [(.iload_n 3, 1, (0, 0, 0)), (.aload_n 0, 1, (0, 0, 0)), (.getfield 228, 3, (11, 23, 0))] = 23 := by decide +kernel
theorem ok_X11_lay_26_2 : oks m_X11_lay.1 m_X11_lay.2.2.1 26 [(.aload_n 0, 1, (0, 0, 0)), (.iload_n 3, 1, (0, 0, 0))] = true ∧ plen 26 [(.aload_n 0, 1, (0, 0, 0)), (.iload_n 3, 1, (0, 0, 0))] = 28 := by decide +kernel
theorem ok_X11_lay_34_1 : oks m_X11_lay.1 m_X11_lay.2.2.1 34 [(.iconst 1, 1, (0, 0, 0))] = true ∧ plen 34 [(.iconst 1, 1, (0, 0, 0))] = 35 := by decide +kernel
theorem ok_X11_lay_38_2 : oks m_X11_lay.1 m_X11_lay.2.2.1 38 [(.aload_n 0, 1, (0, 0, 0)), (.iload_n 3, 1, (0, 0, 0))] = true ∧ plen 38 [(.aload_n 0, 1, (0, 0, 0)), (.iload_n 3, 1, (0, 0, 0))] = 40 := by decide +kernel
theorem ok_X11_lay_43_3 : oks m_X11_lay.1 m_X11_lay.2.2.1 43 [(.istore 4, 2, (0, 0, 0)), (.iload 4, 2, (0, 0, 0)), (.iconst 1, 1, (0, 0, 0))] = true ∧ plen 43 [(.istore 4, 2, (0, 0, 0)), (.iload 4, 2, (0, 0, 0)), (.iconst 1, 1, (0, 0, 0))] = 48 := by decide +kernel
theorem ok_X11_lay_51_1 : oks m_X11_lay.1 m_X11_lay.2.2.1 51 [(.iconst 1, 1, (0, 0, 0))] = true ∧ plen 51 [(.iconst 1, 1, (0, 0, 0))] = 52 := by decide +kernel
theorem ok_X11_lay_55_1 : oks m_X11_lay.1 m_X11_lay.2.2.1 55 [(.iconst 0, 1, (0, 0, 0))] = true ∧ plen 55 [(.iconst 0, 1, (0, 0, 0))] = 56 := by decide +kernel
theorem ok_X11_lay_56_3 : oks m_X11_lay.1 m_X11_lay.2.2.1 56 [(.istore 5, 2, (0, 0, 0)), (.iload_n 3, 1, (0, 0, 0)), (.iload 5, 2, (0, 0, 0))] = true ∧ plen 56 [(.istore 5, 2, (0, 0, 0)), (.iload_n 3, 1, (0, 0, 0)), (.iload 5, 2, (0, 0, 0))] = 61 := by decide +kernel
theorem ok_X11_lay_64_1 : oks m_X11_lay.1 m_X11_lay.2.2.1 64 [(.iconst 1, 1, (0, 0, 0))] = true ∧ plen 64 [(.iconst 1, 1, (0, 0, 0))] = 65 := by decide +kernel
theorem ok_X11_lay_68_1 : oks m_X11_lay.1 m_X11_lay.2.2.1 68 [(.iconst 0, 1, (0, 0, 0))] = true ∧ plen 68 [(.iconst 0, 1, (0, 0, 0))] = 69 := by decide +kernel
theorem ok_X11_lay_69_2 : oks m_X11_lay.1 m_X11_lay.2.2.1 69 [(.iadd, 1, (0, 0, 0)), (.istore_n 3, 1, (0, 0, 0))] = true ∧ plen 69 [(.iadd, 1, (0, 0, 0)), (.istore_n 3, 1, (0, 0, 0))] = 71 := by decide +kernel
theorem ok_X11_lay_74_1 : oks m_X11_lay.1 m_X11_lay.2.2.1 74 [(.iload 5, 2, (0, 0, 0))] = true ∧ plen 74 [(.iload 5, 2, (0, 0, 0))] = 76 := by decide +kernel
theorem ok_X11_lay_79_4 : oks m_X11_lay.1 m_X11_lay.2.2.1 79 [(.aload_n 0, 1, (0, 0, 0)), (.getfield 131, 3, (11, 58, 0)), (.iload_n 1, 1, (0, 0, 0)), (.iconst 2, 1, (0, 0, 0))] = true ∧ plen 79 [(.aload_n 0, 1, (0, 0, 0)), (.getfield 131, 3, (11, 58, 0)), (.iload_n 1, 1, (0, 0, 0)), (.iconst 2, 1, (0, 0, 0))] = 85 := by decide +kernel
theorem ok_X11_lay_86_1 : oks m_X11_lay.1 m_X11_lay.2.2.1 86 [(.iconst 1, 1, (0, 0, 0))] = true ∧ plen 86 [(.iconst 1, 1, (0, 0, 0))] = 87 := by decide +kernel
theorem ok_X11_lay_88_4 : oks m_X11_lay.1 m_X11_lay.2.2.1 88 [(.aload_n 0, 1, (0, 0, 0)), (.getfield 134, 3, (11, 59, 0)), (.iload_n 1, 1, (0, 0, 0)), (.iload_n 3, 1, (0, 0, 0))] = true ∧ plen 88 [(.aload_n 0, 1, (0, 0, 0)), (.getfield 134, 3, (11, 59, 0)), (.iload_n 1, 1, (0, 0, 0)), (.iload_n 3, 1, (0, 0, 0))] = 94 := by decide +kernel
theorem ok_X11_lay_95_1 : oks m_X11_lay.1 m_X11_lay.2.2.1 95 [(.iload 4, 2, (0, 0, 0))] = true ∧ plen 95 [(.iload 4, 2, (0, 0, 0))] = 97 := by decide +kernel
theorem ok_X11_lay_100_3 : oks m_X11_lay.1 m_X11_lay.2.2.1 100 [(.aload_n 0, 1, (0, 0, 0)), (.getfield 74, 3, (11, 26, 0)), (.iload_n 3, 1, (0, 0, 0))] = true ∧ plen 100 [(.aload_n 0, 1, (0, 0, 0)), (.getfield 74, 3, (11, 26, 0)), (.iload_n 3, 1, (0, 0, 0))] = 105 := by decide +kernel
theorem ok_X11_lay_106_1 : oks m_X11_lay.1 m_X11_lay.2.2.1 106 [(.iconst (-1), 1, (0, 0, 0))] = true ∧ plen 106 [(.iconst (-1), 1, (0, 0, 0))] = 107 := by decide +kernel
theorem ok_X11_lay_110_4 : oks m_X11_lay.1 m_X11_lay.2.2.1 110 [(.aload_n 0, 1, (0, 0, 0)), (.getfield 131, 3, (11, 58, 0)), (.iload_n 1, 1, (0, 0, 0)), (.iconst 0, 1, (0, 0, 0))] = true ∧ plen 110 [(.aload_n 0, 1, (0, 0, 0)), (.getfield 131, 3, (11, 58, 0)), (.iload_n 1, 1, (0, 0, 0)), (.iconst 0, 1, (0, 0, 0))] = 116 := by decide +kernel
theorem ok_X11_lay_117_1 : oks m_X11_lay.1 m_X11_lay.2.2.1 117 [(.iconst 1, 1, (0, 0, 0))] = true ∧ plen 117 [(.iconst 1, 1, (0, 0, 0))] = 118 := by decide +kernel
theorem ok_X11_lay_119_3 : oks m_X11_lay.1 m_X11_lay.2.2.1 119 [(.iconst 2, 1, (0, 0, 0)), (.istore 6, 2, (0, 0, 0)), (.iload 4, 2, (0, 0, 0))] = true ∧ plen 119 [(.iconst 2, 1, (0, 0, 0)), (.istore 6, 2, (0, 0, 0)), (.iload 4, 2, (0, 0, 0))] = 124 := by decide +kernel
theorem ok_X11_lay_127_1 : oks m_X11_lay.1 m_X11_lay.2.2.1 127 [(.iconst 3, 1, (0, 0, 0))] = true ∧ plen 127 [(.iconst 3, 1, (0, 0, 0))] = 128 := by decide +kernel
theorem ok_X11_lay_131_2 : oks m_X11_lay.1 m_X11_lay.2.2.1 131 [(.aload_n 0, 1, (0, 0, 0)), (.getfield 283, 3, (11, 42, 0))] = true ∧ plen 131 [(.aload_n 0, 1, (0, 0, 0)), (.getfield 283, 3, (11, 42, 0))] = 135 := by decide +kernel
theorem ok_X11_lay_135_3 : oks m_X11_lay.1 m_X11_lay.2.2.1 135 [(.istore 7, 2, (0, 0, 0)), (.iload 7, 2, (0, 0, 0)), (.iconst 4, 1, (0, 0, 0))] = true ∧ plen 135 [(.istore 7, 2, (0, 0, 0)), (.iload 7, 2, (0, 0, 0)), (.iconst 4, 1, (0, 0, 0))] = 140 := by decide +kernel
theorem ok_X11_lay_143_5 : oks m_X11_lay.1 m_X11_lay.2.2.1 143 [(.aload_n 0, 1, (0, 0, 0)), (.getfield 134, 3, (11, 59, 0)), (.iload_n 1, 1, (0, 0, 0)), (.aload_n 0, 1, (0, 0, 0)), (.getfield 302, 3, (11, 43, 0))] = true ∧ plen 143 [(.aload_n 0, 1, (0, 0, 0)), (.getfield 134, 3, (11, 59, 0)), (.iload_n 1, 1, (0, 0, 0)), (.aload_n 0, 1, (0, 0, 0)), (.getfield 302, 3, (11, 43, 0))] = 152 := by decide +kernel
theorem ok_X11_lay_153_5 : oks m_X11_lay.1 m_X11_lay.2.2.1 153 [(.aload_n 0, 1, (0, 0, 0)), (.getfield 137, 3, (11, 60, 0)), (.iload_n 1, 1, (0, 0, 0)), (.aload_n 0, 1, (0, 0, 0)), (.getfield 286, 3, (11, 44, 0))] = true ∧ plen 153 [(.aload_n 0, 1, (0, 0, 0)), (.getfield 137, 3, (11, 60, 0)), (.iload_n 1, 1, (0, 0, 0)), (.aload_n 0, 1, (0, 0, 0)), (.getfield 286, 3, (11, 44, 0))] = 162 := by decide +kernel
theorem ok_X11_lay_163_8 : oks m_X11_lay.1 m_X11_lay.2.2.1 163 [(.aload_n 0, 1, (0, 0, 0)), (.getfield 62, 3, (11, 20, 0)), (.iconst 4, 1, (0, 0, 0)), (.aload_n 0, 1, (0, 0, 0)), (.getfield 302, 3, (11, 43, 0)), (.imul, 1, (0, 0, 0)), (.iconst 3, 1, (0, 0, 0)), (.iadd, 1, (0, 0, 0))] = true ∧ plen 163 [(.aload_n 0, 1, (0, 0, 0)), (.getfield 62, 3, (11, 20, 0)), (.iconst 4, 1, (0, 0, 0)), (.aload_n 0, 1, (0, 0, 0)), (.getfield 302, 3, (11, 43, 0)), (.imul, 1, (0, 0, 0)), (.iconst 3, 1, (0, 0, 0)), (.iadd, 1, (0, 0, 0))] = 175 := by decide +kernel
theorem ok_X11_lay_176_1 : oks m_X11_lay.1 m_X11_lay.2.2.1 176 [(.istore 6, 2, (0, 0, 0))] = true ∧ plen 176 [(.istore 6, 2, (0, 0, 0))] = 178 := by decide +kernel
theorem ok_X11_lay_181_2 : oks m_X11_lay.1 m_X11_lay.2.2.1 181 [(.iload 7, 2, (0, 0, 0)), (.iconst 5, 1, (0, 0, 0))] = true ∧ plen 181 [(.iload 7, 2, (0, 0, 0)), (.iconst 5, 1, (0, 0, 0))] = 184 := by decide +kernel
theorem ok_X11_lay_187_5 : oks m_X11_lay.1 m_X11_lay.2.2.1 187 [(.aload_n 0, 1, (0, 0, 0)), (.getfield 137, 3, (11, 60, 0)), (.iload_n 1, 1, (0, 0, 0)), (.iload_n 2, 1, (0, 0, 0)), (.iconst 3, 1, (0, 0, 0))] = true ∧ plen 187 [(.aload_n 0, 1, (0, 0, 0)), (.getfield 137, 3, (11, 60, 0)), (.iload_n 1, 1, (0, 0, 0)), (.iload_n 2, 1, (0, 0, 0)), (.iconst 3, 1, (0, 0, 0))] = 194 := by decide +kernel
theorem ok_X11_lay_197_1 : oks m_X11_lay.1 m_X11_lay.2.2.1 197 [(.aload_n 0, 1, (0, 0, 0))] = true ∧ plen 197 [(.aload_n 0, 1, (0, 0, 0))] = 198 := by decide +kernel
theorem ok_X11_lay_204_2 : oks m_X11_lay.1 m_X11_lay.2.2.1 204 [(.aload_n 0, 1, (0, 0, 0)), (.getfield 286, 3, (11, 44, 0))] = true ∧ plen 204 [(.aload_n 0, 1, (0, 0, 0)), (.getfield 286, 3, (11, 44, 0))] = 208 := by decide +kernel
theorem ok_X11_lay_209_7 : oks m_X11_lay.1 m_X11_lay.2.2.1 209 [(.aload_n 0, 1, (0, 0, 0)), (.getfield 134, 3, (11, 59, 0)), (.iload_n 1, 1, (0, 0, 0)), (.aload_n 0, 1, (0, 0, 0)), (.aload_n 0, 1, (0, 0, 0)), (.getfield 137, 3, (11, 60, 0)), (.iload_n 1, 1, (0, 0, 0))] = true ∧ plen 209 [(.aload_n 0, 1, (0, 0, 0)), (.getfield 134, 3, (11, 59, 0)), (.iload_n 1, 1, (0, 0, 0)), (.aload_n 0, 1, (0, 0, 0)), (.aload_n 0, 1, (0, 0, 0)), (.getfield 137, 3, (11, 60, 0)), (.iload_n 1, 1, (0, 0, 0))] = 220 := by decide +kernel
theorem ok_X11_lay_225_3 : oks m_X11_lay.1 m_X11_lay.2.2.1 225 [(.aload_n 0, 1, (0, 0, 0)), (.getfield 134, 3, (11, 59, 0)), (.iload_n 1, 1, (0, 0, 0))] = true ∧ plen 225 [(.aload_n 0, 1, (0, 0, 0)), (.getfield 134, 3, (11, 59, 0)), (.iload_n 1, 1, (0, 0, 0))] = 230 := by decide +kernel
theorem ok_X11_lay_231_1 : oks m_X11_lay.1 m_X11_lay.2.2.1 231 [(.iconst 4, 1, (0, 0, 0))] = true ∧ plen 231 [(.iconst 4, 1, (0, 0, 0))] = 232 := by decide +kernel
theorem ok_X11_lay_235_1 : oks m_X11_lay.1 m_X11_lay.2.2.1 235 [(.bipush 10, 2, (0, 0, 0))] = true ∧ plen 235 [(.bipush 10, 2, (0, 0, 0))] = 237 := by decide +kernel
theorem ok_X11_lay_240_3 : oks m_X11_lay.1 m_X11_lay.2.2.1 240 [(.aload_n 0, 1, (0, 0, 0)), (.getfield 134, 3, (11, 59, 0)), (.iload_n 1, 1, (0, 0, 0))] = true ∧ plen 240 [(.aload_n 0, 1, (0, 0, 0)), (.getfield 134, 3, (11, 59, 0)), (.iload_n 1, 1, (0, 0, 0))] = 245 := by decide +kernel
theorem ok_X11_lay_246_1 : oks m_X11_lay.1 m_X11_lay.2.2.1 246 [(.iconst 5, 1, (0, 0, 0))] = true ∧ plen 246 [(.iconst 5, 1, (0, 0, 0))] = 247 := by decide +kernel
theorem ok_X11_lay_250_1 : oks m_X11_lay.1 m_X11_lay.2.2.1 250 [(.iconst 4, 1, (0, 0, 0))] = true ∧ plen 250 [(.iconst 4, 1, (0, 0, 0))] = 251 := by decide +kernel
theorem ok_X11_lay_254_5 : oks m_X11_lay.1 m_X11_lay.2.2.1 254 [(.aload_n 0, 1, (0, 0, 0)), (.getfield 7, 3, (11, 1, 0)), (.aload_n 0, 1, (0, 0, 0)), (.getfield 134, 3, (11, 59, 0)), (.iload_n 1, 1, (0, 0, 0))] = true ∧ plen 254 [(.aload_n 0, 1, (0, 0, 0)), (.getfield 7, 3, (11, 1, 0)), (.aload_n 0, 1, (0, 0, 0)), (.getfield 134, 3, (11, 59, 0)), (.iload_n 1, 1, (0, 0, 0))] = 263 := by decide +kernel
theorem ok_X11_lay_265_1 : oks m_X11_lay.1 m_X11_lay.2.2.1 265 [(.istore 6, 2, (0, 0, 0))] = true ∧ plen 265 [(.istore 6, 2, (0, 0, 0))] = 267 := by decide +kernel
theorem ok_X11_lay_267_4 : oks m_X11_lay.1 m_X11_lay.2.2.1 267 [(.aload_n 0, 1, (0, 0, 0)), (.getfield 131, 3, (11, 58, 0)), (.iload_n 1, 1, (0, 0, 0)), (.iload 7, 2, (0, 0, 0))] = true ∧ plen 267 [(.aload_n 0, 1, (0, 0, 0)), (.getfield 131, 3, (11, 58, 0)), (.iload_n 1, 1, (0, 0, 0)), (.iload 7, 2, (0, 0, 0))] = 274 := by decide +kernel
theorem ok_X11_lay_275_5 : oks m_X11_lay.1 m_X11_lay.2.2.1 275 [(.aload_n 0, 1, (0, 0, 0)), (.getfield 321, 3, (11, 56, 0)), (.iload 6, 2, (0, 0, 0)), (.iadd, 1, (0, 0, 0)), (.sipush 500, 3, (0, 0, 0))] = true ∧ plen 275 [(.aload_n 0, 1, (0, 0, 0)), (.getfield 321, 3, (11, 56, 0)), (.iload 6, 2, (0, 0, 0)), (.iadd, 1, (0, 0, 0)), (.sipush 500, 3, (0, 0, 0))] = 285 := by decide +kernel
theorem ok_X11_lay_288_1 : oks m_X11_lay.1 m_X11_lay.2.2.1 288 [(.iconst 0, 1, (0, 0, 0))] = true ∧ plen 288 [(.iconst 0, 1, (0, 0, 0))] = 289 := by decide +kernel
theorem ok_X11_lay_290_5 : oks m_X11_lay.1 m_X11_lay.2.2.1 290 [(.aload_n 0, 1, (0, 0, 0)), (.getfield 140, 3, (11, 61, 0)), (.iload_n 1, 1, (0, 0, 0)), (.aload_n 0, 1, (0, 0, 0)), (.getfield 321, 3, (11, 56, 0))] = true ∧ plen 290 [(.aload_n 0, 1, (0, 0, 0)), (.getfield 140, 3, (11, 61, 0)), (.iload_n 1, 1, (0, 0, 0)), (.aload_n 0, 1, (0, 0, 0)), (.getfield 321, 3, (11, 56, 0))] = 299 := by decide +kernel
theorem ok_X11_lay_300_4 : oks m_X11_lay.1 m_X11_lay.2.2.1 300 [(.aload_n 0, 1, (0, 0, 0)), (.getfield 143, 3, (11, 62, 0)), (.iload_n 1, 1, (0, 0, 0)), (.iload 6, 2, (0, 0, 0))] = true ∧ plen 300 [(.aload_n 0, 1, (0, 0, 0)), (.getfield 143, 3, (11, 62, 0)), (.iload_n 1, 1, (0, 0, 0)), (.iload 6, 2, (0, 0, 0))] = 307 := by decide +kernel
theorem ok_X11_lay_308_2 : oks m_X11_lay.1 m_X11_lay.2.2.1 308 [(.iconst 0, 1, (0, 0, 0)), (.istore 8, 2, (0, 0, 0))] = true ∧ plen 308 [(.iconst 0, 1, (0, 0, 0)), (.istore 8, 2, (0, 0, 0))] = 311 := by decide +kernel
theorem ok_X11_lay_311_2 : oks m_X11_lay.1 m_X11_lay.2.2.1 311 [(.iload 8, 2, (0, 0, 0)), (.iload 6, 2, (0, 0, 0))] = true ∧ plen 311 [(.iload 8, 2, (0, 0, 0)), (.iload 6, 2, (0, 0, 0))] = 315 := by decide +kernel
theorem ok_X11_lay_318_2 : oks m_X11_lay.1 m_X11_lay.2.2.1 318 [(.iload 7, 2, (0, 0, 0)), (.iconst 3, 1, (0, 0, 0))] = true ∧ plen 318 [(.iload 7, 2, (0, 0, 0)), (.iconst 3, 1, (0, 0, 0))] = 321 := by decide +kernel
theorem ok_X11_lay_324_1 : oks m_X11_lay.1 m_X11_lay.2.2.1 324 [(.iload 8, 2, (0, 0, 0))] = true ∧ plen 324 [(.iload 8, 2, (0, 0, 0))] = 326 := by decide +kernel
theorem ok_X11_lay_329_3 : oks m_X11_lay.1 m_X11_lay.2.2.1 329 [(.aload_n 0, 1, (0, 0, 0)), (.getfield 74, 3, (11, 26, 0)), (.iload_n 3, 1, (0, 0, 0))] = true ∧ plen 329 [(.aload_n 0, 1, (0, 0, 0)), (.getfield 74, 3, (11, 26, 0)), (.iload_n 3, 1, (0, 0, 0))] = 334 := by decide +kernel
theorem ok_X11_lay_335_1 : oks m_X11_lay.1 m_X11_lay.2.2.1 335 [(.iconst 3, 1, (0, 0, 0))] = true ∧ plen 335 [(.iconst 3, 1, (0, 0, 0))] = 336 := by decide +kernel
theorem ok_X11_lay_339_1 : oks m_X11_lay.1 m_X11_lay.2.2.1 339 [(.iconst 1, 1, (0, 0, 0))] = true ∧ plen 339 [(.iconst 1, 1, (0, 0, 0))] = 340 := by decide +kernel
theorem ok_X11_lay_343_1 : oks m_X11_lay.1 m_X11_lay.2.2.1 343 [(.iconst 0, 1, (0, 0, 0))] = true ∧ plen 343 [(.iconst 0, 1, (0, 0, 0))] = 344 := by decide +kernel
theorem ok_X11_lay_344_4 : oks m_X11_lay.1 m_X11_lay.2.2.1 344 [(.istore 9, 2, (0, 0, 0)), (.aload_n 0, 1, (0, 0, 0)), (.iload_n 1, 1, (0, 0, 0)), (.iload 9, 2, (0, 0, 0))] = true ∧ plen 344 [(.istore 9, 2, (0, 0, 0)), (.aload_n 0, 1, (0, 0, 0)), (.iload_n 1, 1, (0, 0, 0)), (.iload 9, 2, (0, 0, 0))] = 350 := by decide +kernel
theorem ok_X11_lay_353_1 : oks m_X11_lay.1 m_X11_lay.2.2.1 353 [(.iload 8, 2, (0, 0, 0))] = true ∧ plen 353 [(.iload 8, 2, (0, 0, 0))] = 355 := by decide +kernel
theorem ok_X11_lay_358_1 : oks m_X11_lay.1 m_X11_lay.2.2.1 358 [(.iconst 0, 1, (0, 0, 0))] = true ∧ plen 358 [(.iconst 0, 1, (0, 0, 0))] = 359 := by decide +kernel
theorem ok_X11_lay_362_1 : oks m_X11_lay.1 m_X11_lay.2.2.1 362 [(.iconst 1, 1, (0, 0, 0))] = true ∧ plen 362 [(.iconst 1, 1, (0, 0, 0))] = 363 := by decide +kernel
theorem ok_X11_lay_366_1 : oks m_X11_lay.1 m_X11_lay.2.2.1 366 [(.bipush (-9), 2, (0, 0, 0))] = true ∧ plen 366 [(.bipush (-9), 2, (0, 0, 0))] = 368 := by decide +kernel
theorem ok_X11_lay_368_2 : oks m_X11_lay.1 m_X11_lay.2.2.1 368 [(.iload_n 3, 1, (0, 0, 0)), (.iconst 0, 1, (0, 0, 0))] = true ∧ plen 368 [(.iload_n 3, 1, (0, 0, 0)), (.iconst 0, 1, (0, 0, 0))] = 370 := by decide +kernel
theorem ok_X11_lay_373_2 : oks m_X11_lay.1 m_X11_lay.2.2.1 373 [(.pop, 1, (0, 0, 0)), (.iinc 8 1, 3, (0, 0, 0))] = true ∧ plen 373 [(.pop, 1, (0, 0, 0)), (.iinc 8 1, 3, (0, 0, 0))] = 377 := by decide +kernel
theorem ok_X11_lay_380_1 : oks m_X11_lay.1 m_X11_lay.2.2.1 380 [(.iconst 1, 1, (0, 0, 0))] = true ∧ plen 380 [(.iconst 1, 1, (0, 0, 0))] = 381 := by decide +kernel
def B_X11_lay_69 (x4 : Int) (x5 : Bool) (y0 : Bool) (y1 : Int) (σ : Sg) : Option ((Int × Int × Bool × Sg) ⊕ (Int × Int × Bool × Sg)) :=
bnd (wrap (y1 + (b2i y0))) fun v7 =>
some (.inl (v7, x4, x5, σ))
def B_X11_lay_56 (x3 : Int) (x4 : Int) (y0 : Bool) (σ : Sg) : Option ((Int × Int × Bool × Sg) ⊕ (Int × Int × Bool × Sg)) :=
if y0 = true then
B_X11_lay_69 x4 y0 true x3 σ
else
B_X11_lay_69 x4 y0 false x3 σ
def B_X11_lay_43 (x3 : Int) (y0 : Int) (σ : Sg) : Option ((Int × Int × Bool × Sg) ⊕ (Int × Int × Bool × Sg)) :=
if y0 = 1 then
B_X11_lay_56 x3 y0 true σ
else
B_X11_lay_56 x3 y0 false σ
def L_X11_lay_13 (x3 : Int) (x4 : Int) (x5 : Bool) (σ : Sg) : Option ((Int × Int × Bool × Sg) ⊕ (Int × Int × Bool × Sg)) :=
if x5 = true then
if (σ 0 23) ≤ x3 then
some (.inr (x3, x4, x5, σ))
else
(F_X11_hasFailed x3 σ).bind fun q3 =>
if q3 = true then
B_X11_lay_43 x3 1 σ
else
(F_X11_tryCase x3 σ).bind fun q5 =>
B_X11_lay_43 x3 q5.1 q5.2
else
some (.inr (x3, x4, x5, σ))
def B_X11_lay_368 (x3 : Int) (x8 : Int) (y0 : Int) (y1 : Int) (σ : Sg) : Option ((Int × Sg) ⊕ Sg) :=
(F_X11_node y1 y0 x3 0 σ).bind fun q19 =>
some (.inl (wrap (x8 + 1), q19.2))
def B_X11_lay_344 (x1 : Int) (x3 : Int) (x8 : Int) (y0 : Bool) (σ : Sg) : Option ((Int × Sg) ⊕ Sg) :=
if y0 = true then
if x8 = 0 then
B_X11_lay_368 x3 x8 0 x1 σ
else
B_X11_lay_368 x3 x8 1 x1 σ
else
B_X11_lay_368 x3 x8 (-9) x1 σ
def B_X11_lay_343 (x1 : Int) (x3 : Int) (x8 : Int) (σ : Sg) : Option ((Int × Sg) ⊕ Sg) :=
B_X11_lay_344 x1 x3 x8 false σ
def B_X11_lay_339 (x1 : Int) (x3 : Int) (x8 : Int) (σ : Sg) : Option ((Int × Sg) ⊕ Sg) :=
B_X11_lay_344 x1 x3 x8 true σ
def L_X11_lay_311 (x1 : Int) (x3 : Int) (x6 : Int) (x7 : Int) (x8 : Int) (σ : Sg) : Option ((Int × Sg) ⊕ Sg) :=
if x6 ≤ x8 then
some (.inr σ)
else
if x7 = 3 then
if x8 = 0 then
B_X11_lay_339 x1 x3 x8 σ
else
(rdn 8 σ 22 x3).bind fun v21 =>
if v21 = 3 then
B_X11_lay_339 x1 x3 x8 σ
else
B_X11_lay_343 x1 x3 x8 σ
else
B_X11_lay_343 x1 x3 x8 σ
def B_X11_lay_267 (x1 : Int) (x3 : Int) (x6 : Int) (x7 : Int) (σ : Sg) : Option (Bool × Sg) :=
(wrn 512 σ 41 x1 x7).bind fun s13 =>
if (wrap ((s13 0 56) + x6)) ≤ 500 then
(wrn 512 s13 44 x1 (s13 0 56)).bind fun s15 =>
(wrn 512 s15 45 x1 x6).bind fun s17 =>
(iter (fun a : (Int × Sg) => L_X11_lay_311 x1 x3 x6 x7 a.1 a.2) 3000 (0, s17)).bind fun y23 =>
some (true, y23)
else
some (false, s13)
def B_X11_lay_265 (x1 : Int) (x3 : Int) (x7 : Int) (y0 : Int) (σ : Sg) : Option (Bool × Sg) :=
B_X11_lay_267 x1 x3 y0 x7 σ
def B_X11_lay_208 (x1 : Int) (x3 : Int) (x7 : Int) (y0 : Int) (y1 : Int) (σ : Sg) : Option (Bool × Sg) :=
(wrn 512 σ 43 y1 y0).bind fun s25 =>
(rdn 512 s25 43 x1).bind fun v27 =>
(F_X11_kindOf v27 s25).bind fun q29 =>
(wrn 512 q29.2 42 x1 q29.1).bind fun s31 =>
(rdn 512 s31 42 x1).bind fun v33 =>
if v33 = 4 then
B_X11_lay_265 x1 x3 x7 10 s31
else
(rdn 512 s31 42 x1).bind fun v35 =>
if v35 = 5 then
B_X11_lay_265 x1 x3 x7 4 s31
else
(rdn 512 s31 42 x1).bind fun v37 =>
(rdn 4 s31 1 v37).bind fun v39 =>
B_X11_lay_265 x1 x3 x7 v39 s31
def B_X11_lay_135 (x1 : Int) (x2 : Int) (x3 : Int) (x6 : Int) (y0 : Int) (σ : Sg) : Option (Bool × Sg) :=
if y0 = 4 then
(wrn 512 σ 42 x1 (σ 0 43)).bind fun s43 =>
(wrn 512 s43 43 x1 (s43 0 44)).bind fun s45 =>
(rdn 12 s45 18 (wrap ((wrap (4 * (s45 0 43))) + 3))).bind fun v47 =>
B_X11_lay_267 x1 x3 v47 y0 s45
else
if y0 = 5 then
if x2 = 3 then
(F_X11_mostNeeded σ).bind fun q41 =>
B_X11_lay_208 x1 x3 y0 q41.1 x1 q41.2
else
B_X11_lay_208 x1 x3 y0 (σ 0 44) x1 σ
else
B_X11_lay_267 x1 x3 x6 y0 σ
def B_X11_lay_119 (x1 : Int) (x2 : Int) (x3 : Int) (x4 : Int) (σ : Sg) : Option (Bool × Sg) :=
if x4 = 0 then
B_X11_lay_135 x1 x2 x3 2 3 σ
else
B_X11_lay_135 x1 x2 x3 2 (σ 0 42) σ
def F_X11_lay (a1 : Int) (a2 : Int) (σ : Sg) : Option (Bool × Sg) :=
bnd (up2 σ 0 41 a1) fun s1 =>
(iter (fun a : (Int × Int × Bool × Sg) => L_X11_lay_13 a.1 a.2.1 a.2.2.1 a.2.2.2) 3000 (0, 1, true, s1)).bind fun y9 =>
if y9.2.2.1 = true then
(wrn 512 y9.2.2.2 41 a1 2).bind fun s53 =>
some (true, s53)
else
(wrn 512 y9.2.2.2 42 a1 y9.1).bind fun s11 =>
if y9.2.1 = 0 then
(rdn 8 s11 22 y9.1).bind fun v49 =>
if v49 = (-1) then
(wrn 512 s11 41 a1 0).bind fun s51 =>
some (true, s51)
else
B_X11_lay_119 a1 a2 y9.1 y9.2.1 s11
else
B_X11_lay_119 a1 a2 y9.1 y9.2.1 s11
theorem lk_X11_lay (l : Launch) (d : Nat) (hd : 7 ≤ d) (a1 : Int) (a2 : Int) (σ : Sg) (q : (Bool × Sg)) (h : F_X11_lay a1 a2 σ = some q) : CT l d m_X11_lay.2.1 m_X11_lay.2.2.1 m_X11_lay.2.2.2.1 m_X11_lay.2.2.2.2 [.inr 0, .inl a1, .inl a2] (LAYM, σ) (some (.inl (b2i q.1))) (LAYM, q.2) := by
  obtain ⟨d, rfl⟩ : ∃ e, d = e + 1 := ⟨d - 1, by omega⟩
  have key : Go l m_X11_lay (d + 1) LAYM (.inl (some (.inl (b2i q.1)))) q.2 0 [some (.inr 0), some (.inl a1), some (.inl a2), none, none, none, none, none, none, none] [] σ := by
    unfold F_X11_lay at h
    have hL_X11_lay_13 : ∀ (x1 : Int) (x2 : Int) (n : Nat) (a : (Int × Int × Bool × Sg)) (y : (Int × Int × Bool × Sg)), iter (fun a : (Int × Int × Bool × Sg) => L_X11_lay_13 a.1 a.2.1 a.2.2.1 a.2.2.2) n a = some y → (fun y : (Int × Int × Bool × Sg) => Go l m_X11_lay (d + 1) LAYM (.inl (some (.inl (b2i q.1)))) q.2 74 [some (.inr 0), some (.inl x1), some (.inl x2), some (.inl y.1), some (.inl y.2.1), some (.inl (b2i y.2.2.1)), none, none, none, none] [] y.2.2.2) y → (fun a : (Int × Int × Bool × Sg) => Go l m_X11_lay (d + 1) LAYM (.inl (some (.inl (b2i q.1)))) q.2 13 [some (.inr 0), some (.inl x1), some (.inl x2), some (.inl a.1), some (.inl a.2.1), some (.inl (b2i a.2.2.1)), none, none, none, none] [] a.2.2.2) a := by
      intro x1 x2
      refine go_iter (G := fun a : (Int × Int × Bool × Sg) => Go l m_X11_lay (d + 1) LAYM (.inl (some (.inl (b2i q.1)))) q.2 13 [some (.inr 0), some (.inl x1), some (.inl x2), some (.inl a.1), some (.inl a.2.1), some (.inl (b2i a.2.2.1)), none, none, none, none] [] a.2.2.2) (K := fun y : (Int × Int × Bool × Sg) => Go l m_X11_lay (d + 1) LAYM (.inl (some (.inl (b2i q.1)))) q.2 74 [some (.inr 0), some (.inl x1), some (.inl x2), some (.inl y.1), some (.inl y.2.1), some (.inl (b2i y.2.2.1)), none, none, none, none] [] y.2.2.2) ?_
      rintro ⟨x3, x4, x5, σ⟩ w h hK
      replace h : L_X11_lay_13 x3 x4 x5 σ = some w := h
      show Go l m_X11_lay (d + 1) LAYM (.inl (some (.inl (b2i q.1)))) q.2 13 [some (.inr 0), some (.inl x1), some (.inl x2), some (.inl x3), some (.inl x4), some (.inl (b2i x5)), none, none, none, none] [] σ
      unfold L_X11_lay_13 at h
      have hB_X11_lay_69 : ∀ (x4 : Int) (x5 : Bool) (y0 : Bool) (y1 : Int) (σ : Sg), B_X11_lay_69 x4 x5 y0 y1 σ = some w → Go l m_X11_lay (d + 1) LAYM (.inl (some (.inl (b2i q.1)))) q.2 69 [some (.inr 0), some (.inl x1), some (.inl x2), none, some (.inl x4), some (.inl (b2i x5)), none, none, none, none] [.inl (b2i y0), .inl y1] σ := by
        intro x4 x5 y0 y1 σ h
        unfold B_X11_lay_69 at h
        obtain ⟨v7, e8, h⟩ := bnd_inv h
        refine go_ops ok_X11_lay_69_2 (L' := [some (.inr 0), some (.inl x1), some (.inl x2), some (.inl v7), some (.inl x4), some (.inl (b2i x5)), none, none, none, none]) (st' := []) (σ1 := σ) (by subst e8; rfl) ?_
        refine go_goto dc_X11_lay_71 (by rfl) ?_
        cases h
        exact hK
      have hB_X11_lay_56 : ∀ (x3 : Int) (x4 : Int) (y0 : Bool) (σ : Sg), B_X11_lay_56 x3 x4 y0 σ = some w → Go l m_X11_lay (d + 1) LAYM (.inl (some (.inl (b2i q.1)))) q.2 56 [some (.inr 0), some (.inl x1), some (.inl x2), some (.inl x3), some (.inl x4), none, none, none, none, none] [.inl (b2i y0)] σ := by
        intro x3 x4 y0 σ h
        unfold B_X11_lay_56 at h
        refine go_ops ok_X11_lay_56_3 (L' := [some (.inr 0), some (.inl x1), some (.inl x2), some (.inl x3), some (.inl x4), some (.inl (b2i y0)), none, none, none, none]) (st' := [.inl (b2i y0), .inl x3]) (σ1 := σ) rfl ?_
        refine go_ifb_eq dc_X11_lay_61 (by rfl) (fun hc => ?_) (fun hc => ?_)
        · replace h := (if_neg hc).symm.trans h
          refine go_ops ok_X11_lay_68_1 (L' := [some (.inr 0), some (.inl x1), some (.inl x2), some (.inl x3), some (.inl x4), some (.inl (b2i y0)), none, none, none, none]) (st' := [.inl 0, .inl x3]) (σ1 := σ) rfl ?_
          refine go_wk (L' := [some (.inr 0), some (.inl x1), some (.inl x2), none, some (.inl x4), some (.inl (b2i y0)), none, none, none, none]) ⟨rfl, rfl, rfl, rfl, rfl, trivial⟩ ?_
          exact hB_X11_lay_69 x4 y0 false x3 σ h
        · replace h := (if_pos hc).symm.trans h
          refine go_ops ok_X11_lay_64_1 (L' := [some (.inr 0), some (.inl x1), some (.inl x2), some (.inl x3), some (.inl x4), some (.inl (b2i y0)), none, none, none, none]) (st' := [.inl 1, .inl x3]) (σ1 := σ) rfl ?_
          refine go_goto dc_X11_lay_65 (by rfl) ?_
          refine go_wk (L' := [some (.inr 0), some (.inl x1), some (.inl x2), none, some (.inl x4), some (.inl (b2i y0)), none, none, none, none]) ⟨rfl, rfl, rfl, rfl, rfl, trivial⟩ ?_
          exact hB_X11_lay_69 x4 y0 true x3 σ h
      have hB_X11_lay_43 : ∀ (x3 : Int) (y0 : Int) (σ : Sg), B_X11_lay_43 x3 y0 σ = some w → Go l m_X11_lay (d + 1) LAYM (.inl (some (.inl (b2i q.1)))) q.2 43 [some (.inr 0), some (.inl x1), some (.inl x2), some (.inl x3), none, none, none, none, none, none] [.inl y0] σ := by
        intro x3 y0 σ h
        unfold B_X11_lay_43 at h
        refine go_ops ok_X11_lay_43_3 (L' := [some (.inr 0), some (.inl x1), some (.inl x2), some (.inl x3), some (.inl y0), none, none, none, none, none]) (st' := [.inl 1, .inl y0]) (σ1 := σ) rfl ?_
        refine go_icmp_ne dc_X11_lay_48 (by rfl) (fun hc => ?_) (fun hc => ?_)
        · replace h := (if_neg hc).symm.trans h
          refine go_ops ok_X11_lay_55_1 (L' := [some (.inr 0), some (.inl x1), some (.inl x2), some (.inl x3), some (.inl y0), none, none, none, none, none]) (st' := [.inl 0]) (σ1 := σ) rfl ?_
          exact hB_X11_lay_56 x3 y0 false σ h
        · replace h := (if_pos hc).symm.trans h
          refine go_ops ok_X11_lay_51_1 (L' := [some (.inr 0), some (.inl x1), some (.inl x2), some (.inl x3), some (.inl y0), none, none, none, none, none]) (st' := [.inl 1]) (σ1 := σ) rfl ?_
          refine go_goto dc_X11_lay_52 (by rfl) ?_
          exact hB_X11_lay_56 x3 y0 true σ h
      refine go_ops ok_X11_lay_13_1 (L' := [some (.inr 0), some (.inl x1), some (.inl x2), some (.inl x3), some (.inl x4), some (.inl (b2i x5)), none, none, none, none]) (st' := [.inl (b2i x5)]) (σ1 := σ) rfl ?_
      refine go_ifb_eq dc_X11_lay_15 (by rfl) (fun hc => ?_) (fun hc => ?_)
      · replace h := (if_neg hc).symm.trans h
        cases h
        exact hK
      · replace h := (if_pos hc).symm.trans h
        refine go_ops ok_X11_lay_18_3 (L' := [some (.inr 0), some (.inl x1), some (.inl x2), some (.inl x3), some (.inl x4), some (.inl (b2i x5)), none, none, none, none]) (st' := [.inl (σ 0 23), .inl x3]) (σ1 := σ) rfl ?_
        refine go_icmp_ge dc_X11_lay_23 (by rfl) (fun hc => ?_) (fun hc => ?_)
        · replace h := (if_pos hc).symm.trans h
          cases h
          exact hK
        · replace h := (if_neg hc).symm.trans h
          refine go_ops ok_X11_lay_26_2 (L' := [some (.inr 0), some (.inl x1), some (.inl x2), some (.inl x3), some (.inl x4), some (.inl (b2i x5)), none, none, none, none]) (st' := [.inl x3, .inr 0]) (σ1 := σ) rfl ?_
          obtain ⟨q3, e4, h⟩ := bind_inv h
          refine go_V (M1 := m_X11_hasFailed) (as := [.inl x3]) (st := []) (k := 0) (ci := 11) dc_X11_lay_28 ln_11_330 im_X11_hasFailed (by decide) rfl rfl mk_X11_hasFailed rfl (Nat.le_of_ble_eq_true rfl) (Nat.le_refl _) (v := (some (.inl (b2i q3)))) (σ1 := σ) (lk_X11_hasFailed l d (by omega) x3 σ q3 e4) _ rfl ?_
          refine go_ifb_eq dc_X11_lay_31 (by rfl) (fun hc => ?_) (fun hc => ?_)
          · replace h := (if_neg hc).symm.trans h
            refine go_ops ok_X11_lay_38_2 (L' := [some (.inr 0), some (.inl x1), some (.inl x2), some (.inl x3), some (.inl x4), some (.inl (b2i x5)), none, none, none, none]) (st' := [.inl x3, .inr 0]) (σ1 := σ) rfl ?_
            obtain ⟨q5, e6, h⟩ := bind_inv h
            refine go_V (M1 := m_X11_tryCase) (as := [.inl x3]) (st := []) (k := 0) (ci := 11) dc_X11_lay_40 ln_11_333 im_X11_tryCase (by decide) rfl rfl mk_X11_tryCase rfl (Nat.le_of_ble_eq_true rfl) (Nat.le_refl _) (v := (some (.inl q5.1))) (σ1 := q5.2) (lk_X11_tryCase l d (by omega) x3 σ q5 e6) _ rfl ?_
            refine go_wk (L' := [some (.inr 0), some (.inl x1), some (.inl x2), some (.inl x3), none, none, none, none, none, none]) ⟨rfl, rfl, rfl, rfl, trivial⟩ ?_
            exact hB_X11_lay_43 x3 q5.1 q5.2 h
          · replace h := (if_pos hc).symm.trans h
            refine go_ops ok_X11_lay_34_1 (L' := [some (.inr 0), some (.inl x1), some (.inl x2), some (.inl x3), some (.inl x4), some (.inl (b2i x5)), none, none, none, none]) (st' := [.inl 1]) (σ1 := σ) rfl ?_
            refine go_goto dc_X11_lay_35 (by rfl) ?_
            refine go_wk (L' := [some (.inr 0), some (.inl x1), some (.inl x2), some (.inl x3), none, none, none, none, none, none]) ⟨rfl, rfl, rfl, rfl, trivial⟩ ?_
            exact hB_X11_lay_43 x3 1 σ h
    have hL_X11_lay_311 : ∀ (x1 : Int) (x3 : Int) (x6 : Int) (x7 : Int) (n : Nat) (a : (Int × Sg)) (y : Sg), iter (fun a : (Int × Sg) => L_X11_lay_311 x1 x3 x6 x7 a.1 a.2) n a = some y → (fun y : Sg => Go l m_X11_lay (d + 1) LAYM (.inl (some (.inl (b2i q.1)))) q.2 380 [none, none, none, none, none, none, none, none, none, none] [] y) y → (fun a : (Int × Sg) => Go l m_X11_lay (d + 1) LAYM (.inl (some (.inl (b2i q.1)))) q.2 311 [some (.inr 0), some (.inl x1), none, some (.inl x3), none, none, some (.inl x6), some (.inl x7), some (.inl a.1), none] [] a.2) a := by
      intro x1 x3 x6 x7
      refine go_iter (G := fun a : (Int × Sg) => Go l m_X11_lay (d + 1) LAYM (.inl (some (.inl (b2i q.1)))) q.2 311 [some (.inr 0), some (.inl x1), none, some (.inl x3), none, none, some (.inl x6), some (.inl x7), some (.inl a.1), none] [] a.2) (K := fun y : Sg => Go l m_X11_lay (d + 1) LAYM (.inl (some (.inl (b2i q.1)))) q.2 380 [none, none, none, none, none, none, none, none, none, none] [] y) ?_
      rintro ⟨x8, σ⟩ w h hK
      replace h : L_X11_lay_311 x1 x3 x6 x7 x8 σ = some w := h
      show Go l m_X11_lay (d + 1) LAYM (.inl (some (.inl (b2i q.1)))) q.2 311 [some (.inr 0), some (.inl x1), none, some (.inl x3), none, none, some (.inl x6), some (.inl x7), some (.inl x8), none] [] σ
      unfold L_X11_lay_311 at h
      have hB_X11_lay_368 : ∀ (x8 : Int) (y0 : Int) (y1 : Int) (σ : Sg), B_X11_lay_368 x3 x8 y0 y1 σ = some w → Go l m_X11_lay (d + 1) LAYM (.inl (some (.inl (b2i q.1)))) q.2 368 [some (.inr 0), some (.inl x1), none, some (.inl x3), none, none, some (.inl x6), some (.inl x7), some (.inl x8), none] [.inl y0, .inl y1, .inr 0] σ := by
        intro x8 y0 y1 σ h
        unfold B_X11_lay_368 at h
        refine go_ops ok_X11_lay_368_2 (L' := [some (.inr 0), some (.inl x1), none, some (.inl x3), none, none, some (.inl x6), some (.inl x7), some (.inl x8), none]) (st' := [.inl 0, .inl x3, .inl y0, .inl y1, .inr 0]) (σ1 := σ) rfl ?_
        obtain ⟨q19, e20, h⟩ := bind_inv h
        refine go_V (M1 := m_X11_node) (as := [.inl y1, .inl y0, .inl x3, .inl 0]) (st := []) (k := 0) (ci := 11) dc_X11_lay_370 ln_11_345 im_X11_node (by decide) rfl rfl mk_X11_node rfl (Nat.le_of_ble_eq_true rfl) (Nat.le_refl _) (v := (some (.inl q19.1))) (σ1 := q19.2) (lk_X11_node l d (by omega) y1 y0 x3 0 σ q19 e20) _ rfl ?_
        refine go_ops ok_X11_lay_373_2 (L' := [some (.inr 0), some (.inl x1), none, some (.inl x3), none, none, some (.inl x6), some (.inl x7), some (.inl (wrap (x8 + 1))), none]) (st' := []) (σ1 := q19.2) rfl ?_
        refine go_goto dc_X11_lay_377 (by rfl) ?_
        cases h
        exact hK
      have hB_X11_lay_344 : ∀ (x8 : Int) (y0 : Bool) (σ : Sg), B_X11_lay_344 x1 x3 x8 y0 σ = some w → Go l m_X11_lay (d + 1) LAYM (.inl (some (.inl (b2i q.1)))) q.2 344 [some (.inr 0), some (.inl x1), none, some (.inl x3), none, none, some (.inl x6), some (.inl x7), some (.inl x8), none] [.inl (b2i y0)] σ := by
        intro x8 y0 σ h
        unfold B_X11_lay_344 at h
        refine go_ops ok_X11_lay_344_4 (L' := [some (.inr 0), some (.inl x1), none, some (.inl x3), none, none, some (.inl x6), some (.inl x7), some (.inl x8), some (.inl (b2i y0))]) (st' := [.inl (b2i y0), .inl x1, .inr 0]) (σ1 := σ) rfl ?_
        refine go_ifb_eq dc_X11_lay_350 (by rfl) (fun hc => ?_) (fun hc => ?_)
        · replace h := (if_neg hc).symm.trans h
          refine go_ops ok_X11_lay_366_1 (L' := [some (.inr 0), some (.inl x1), none, some (.inl x3), none, none, some (.inl x6), some (.inl x7), some (.inl x8), some (.inl (b2i y0))]) (st' := [.inl (-9), .inl x1, .inr 0]) (σ1 := σ) rfl ?_
          refine go_wk (L' := [some (.inr 0), some (.inl x1), none, some (.inl x3), none, none, some (.inl x6), some (.inl x7), some (.inl x8), none]) ⟨rfl, rfl, rfl, rfl, rfl, rfl, trivial⟩ ?_
          exact hB_X11_lay_368 x8 (-9) x1 σ h
        · replace h := (if_pos hc).symm.trans h
          refine go_ops ok_X11_lay_353_1 (L' := [some (.inr 0), some (.inl x1), none, some (.inl x3), none, none, some (.inl x6), some (.inl x7), some (.inl x8), some (.inl (b2i y0))]) (st' := [.inl x8, .inl x1, .inr 0]) (σ1 := σ) rfl ?_
          refine go_if_ne dc_X11_lay_355 (by rfl) (fun hc => ?_) (fun hc => ?_)
          · replace h := (if_neg hc).symm.trans h
            refine go_ops ok_X11_lay_362_1 (L' := [some (.inr 0), some (.inl x1), none, some (.inl x3), none, none, some (.inl x6), some (.inl x7), some (.inl x8), some (.inl (b2i y0))]) (st' := [.inl 1, .inl x1, .inr 0]) (σ1 := σ) rfl ?_
            refine go_goto dc_X11_lay_363 (by rfl) ?_
            refine go_wk (L' := [some (.inr 0), some (.inl x1), none, some (.inl x3), none, none, some (.inl x6), some (.inl x7), some (.inl x8), none]) ⟨rfl, rfl, rfl, rfl, rfl, rfl, trivial⟩ ?_
            exact hB_X11_lay_368 x8 1 x1 σ h
          · replace h := (if_pos hc).symm.trans h
            refine go_ops ok_X11_lay_358_1 (L' := [some (.inr 0), some (.inl x1), none, some (.inl x3), none, none, some (.inl x6), some (.inl x7), some (.inl x8), some (.inl (b2i y0))]) (st' := [.inl 0, .inl x1, .inr 0]) (σ1 := σ) rfl ?_
            refine go_goto dc_X11_lay_359 (by rfl) ?_
            refine go_wk (L' := [some (.inr 0), some (.inl x1), none, some (.inl x3), none, none, some (.inl x6), some (.inl x7), some (.inl x8), none]) ⟨rfl, rfl, rfl, rfl, rfl, rfl, trivial⟩ ?_
            exact hB_X11_lay_368 x8 0 x1 σ h
      have hB_X11_lay_343 : ∀ (x8 : Int) (σ : Sg), B_X11_lay_343 x1 x3 x8 σ = some w → Go l m_X11_lay (d + 1) LAYM (.inl (some (.inl (b2i q.1)))) q.2 343 [some (.inr 0), some (.inl x1), none, some (.inl x3), none, none, some (.inl x6), some (.inl x7), some (.inl x8), none] [] σ := by
        intro x8 σ h
        unfold B_X11_lay_343 at h
        refine go_ops ok_X11_lay_343_1 (L' := [some (.inr 0), some (.inl x1), none, some (.inl x3), none, none, some (.inl x6), some (.inl x7), some (.inl x8), none]) (st' := [.inl 0]) (σ1 := σ) rfl ?_
        exact hB_X11_lay_344 x8 false σ h
      have hB_X11_lay_339 : ∀ (x8 : Int) (σ : Sg), B_X11_lay_339 x1 x3 x8 σ = some w → Go l m_X11_lay (d + 1) LAYM (.inl (some (.inl (b2i q.1)))) q.2 339 [some (.inr 0), some (.inl x1), none, some (.inl x3), none, none, some (.inl x6), some (.inl x7), some (.inl x8), none] [] σ := by
        intro x8 σ h
        unfold B_X11_lay_339 at h
        refine go_ops ok_X11_lay_339_1 (L' := [some (.inr 0), some (.inl x1), none, some (.inl x3), none, none, some (.inl x6), some (.inl x7), some (.inl x8), none]) (st' := [.inl 1]) (σ1 := σ) rfl ?_
        refine go_goto dc_X11_lay_340 (by rfl) ?_
        exact hB_X11_lay_344 x8 true σ h
      refine go_ops ok_X11_lay_311_2 (L' := [some (.inr 0), some (.inl x1), none, some (.inl x3), none, none, some (.inl x6), some (.inl x7), some (.inl x8), none]) (st' := [.inl x6, .inl x8]) (σ1 := σ) rfl ?_
      refine go_icmp_ge dc_X11_lay_315 (by rfl) (fun hc => ?_) (fun hc => ?_)
      · replace h := (if_pos hc).symm.trans h
        cases h
        refine go_wk (L' := [none, none, none, none, none, none, none, none, none, none]) trivial ?_
        exact hK
      · replace h := (if_neg hc).symm.trans h
        refine go_ops ok_X11_lay_318_2 (L' := [some (.inr 0), some (.inl x1), none, some (.inl x3), none, none, some (.inl x6), some (.inl x7), some (.inl x8), none]) (st' := [.inl 3, .inl x7]) (σ1 := σ) rfl ?_
        refine go_icmp_ne dc_X11_lay_321 (by rfl) (fun hc => ?_) (fun hc => ?_)
        · replace h := (if_neg hc).symm.trans h
          exact hB_X11_lay_343 x8 σ h
        · replace h := (if_pos hc).symm.trans h
          refine go_ops ok_X11_lay_324_1 (L' := [some (.inr 0), some (.inl x1), none, some (.inl x3), none, none, some (.inl x6), some (.inl x7), some (.inl x8), none]) (st' := [.inl x8]) (σ1 := σ) rfl ?_
          refine go_if_eq dc_X11_lay_326 (by rfl) (fun hc => ?_) (fun hc => ?_)
          · replace h := (if_pos hc).symm.trans h
            exact hB_X11_lay_339 x8 σ h
          · replace h := (if_neg hc).symm.trans h
            refine go_ops ok_X11_lay_329_3 (L' := [some (.inr 0), some (.inl x1), none, some (.inl x3), none, none, some (.inl x6), some (.inl x7), some (.inl x8), none]) (st' := [.inl x3, .inr 22]) (σ1 := σ) rfl ?_
            obtain ⟨v21, e22, h⟩ := bind_inv h
            refine go_rd (k := 22) dc_X11_lay_334 rfl e22 ?_
            refine go_ops ok_X11_lay_335_1 (L' := [some (.inr 0), some (.inl x1), none, some (.inl x3), none, none, some (.inl x6), some (.inl x7), some (.inl x8), none]) (st' := [.inl 3, .inl v21]) (σ1 := σ) rfl ?_
            refine go_icmp_ne dc_X11_lay_336 (by rfl) (fun hc => ?_) (fun hc => ?_)
            · replace h := (if_neg hc).symm.trans h
              exact hB_X11_lay_343 x8 σ h
            · replace h := (if_pos hc).symm.trans h
              exact hB_X11_lay_339 x8 σ h
    have hB_X11_lay_267 : ∀ (x1 : Int) (x3 : Int) (x6 : Int) (x7 : Int) (σ : Sg), B_X11_lay_267 x1 x3 x6 x7 σ = some q → Go l m_X11_lay (d + 1) LAYM (.inl (some (.inl (b2i q.1)))) q.2 267 [some (.inr 0), some (.inl x1), none, some (.inl x3), none, none, some (.inl x6), some (.inl x7), none, none] [] σ := by
      intro x1 x3 x6 x7 σ h
      unfold B_X11_lay_267 at h
      refine go_ops ok_X11_lay_267_4 (L' := [some (.inr 0), some (.inl x1), none, some (.inl x3), none, none, some (.inl x6), some (.inl x7), none, none]) (st' := [.inl x7, .inl x1, .inr 41]) (σ1 := σ) rfl ?_
      obtain ⟨s13, e14, h⟩ := bind_inv h
      refine go_wr (k := 41) dc_X11_lay_274 rfl e14 ?_
      refine go_ops ok_X11_lay_275_5 (L' := [some (.inr 0), some (.inl x1), none, some (.inl x3), none, none, some (.inl x6), some (.inl x7), none, none]) (st' := [.inl 500, .inl (wrap ((s13 0 56) + x6))]) (σ1 := s13) rfl ?_
      refine go_icmp_le dc_X11_lay_285 (by rfl) (fun hc => ?_) (fun hc => ?_)
      · replace h := (if_pos hc).symm.trans h
        refine go_ops ok_X11_lay_290_5 (L' := [some (.inr 0), some (.inl x1), none, some (.inl x3), none, none, some (.inl x6), some (.inl x7), none, none]) (st' := [.inl (s13 0 56), .inl x1, .inr 44]) (σ1 := s13) rfl ?_
        obtain ⟨s15, e16, h⟩ := bind_inv h
        refine go_wr (k := 44) dc_X11_lay_299 rfl e16 ?_
        refine go_ops ok_X11_lay_300_4 (L' := [some (.inr 0), some (.inl x1), none, some (.inl x3), none, none, some (.inl x6), some (.inl x7), none, none]) (st' := [.inl x6, .inl x1, .inr 45]) (σ1 := s15) rfl ?_
        obtain ⟨s17, e18, h⟩ := bind_inv h
        refine go_wr (k := 45) dc_X11_lay_307 rfl e18 ?_
        refine go_ops ok_X11_lay_308_2 (L' := [some (.inr 0), some (.inl x1), none, some (.inl x3), none, none, some (.inl x6), some (.inl x7), some (.inl 0), none]) (st' := []) (σ1 := s17) rfl ?_
        obtain ⟨y23, e24, h⟩ := bind_inv h
        refine hL_X11_lay_311 x1 x3 x6 x7 3000 (0, s17) y23 e24 ?_
        show Go l m_X11_lay (d + 1) LAYM (.inl (some (.inl (b2i q.1)))) q.2 380 [none, none, none, none, none, none, none, none, none, none] [] y23
        refine go_ops ok_X11_lay_380_1 (L' := [none, none, none, none, none, none, none, none, none, none]) (st' := [.inl 1]) (σ1 := y23) rfl ?_
        have h9 := Option.some.inj h
        subst h9
        exact go_zret (x := true) dc_X11_lay_381 rfl
      · replace h := (if_neg hc).symm.trans h
        refine go_ops ok_X11_lay_288_1 (L' := [some (.inr 0), some (.inl x1), none, some (.inl x3), none, none, some (.inl x6), some (.inl x7), none, none]) (st' := [.inl 0]) (σ1 := s13) rfl ?_
        have h9 := Option.some.inj h
        subst h9
        exact go_zret (x := false) dc_X11_lay_289 rfl
    have hB_X11_lay_265 : ∀ (x1 : Int) (x3 : Int) (x7 : Int) (y0 : Int) (σ : Sg), B_X11_lay_265 x1 x3 x7 y0 σ = some q → Go l m_X11_lay (d + 1) LAYM (.inl (some (.inl (b2i q.1)))) q.2 265 [some (.inr 0), some (.inl x1), none, some (.inl x3), none, none, none, some (.inl x7), none, none] [.inl y0] σ := by
      intro x1 x3 x7 y0 σ h
      unfold B_X11_lay_265 at h
      refine go_ops ok_X11_lay_265_1 (L' := [some (.inr 0), some (.inl x1), none, some (.inl x3), none, none, some (.inl y0), some (.inl x7), none, none]) (st' := []) (σ1 := σ) rfl ?_
      exact hB_X11_lay_267 x1 x3 y0 x7 σ h
    have hB_X11_lay_208 : ∀ (x1 : Int) (x3 : Int) (x7 : Int) (y0 : Int) (y1 : Int) (σ : Sg), B_X11_lay_208 x1 x3 x7 y0 y1 σ = some q → Go l m_X11_lay (d + 1) LAYM (.inl (some (.inl (b2i q.1)))) q.2 208 [some (.inr 0), some (.inl x1), none, some (.inl x3), none, none, none, some (.inl x7), none, none] [.inl y0, .inl y1, .inr 43] σ := by
      intro x1 x3 x7 y0 y1 σ h
      unfold B_X11_lay_208 at h
      obtain ⟨s25, e26, h⟩ := bind_inv h
      refine go_wr (k := 43) dc_X11_lay_208 rfl e26 ?_
      refine go_ops ok_X11_lay_209_7 (L' := [some (.inr 0), some (.inl x1), none, some (.inl x3), none, none, none, some (.inl x7), none, none]) (st' := [.inl x1, .inr 43, .inr 0, .inl x1, .inr 42]) (σ1 := s25) rfl ?_
      obtain ⟨v27, e28, h⟩ := bind_inv h
      refine go_rd (k := 43) dc_X11_lay_220 rfl e28 ?_
      obtain ⟨q29, e30, h⟩ := bind_inv h
      refine go_V (M1 := m_X11_kindOf) (as := [.inl v27]) (st := [.inl x1, .inr 42]) (k := 0) (ci := 11) dc_X11_lay_221 ln_11_342 im_X11_kindOf (by decide) rfl rfl mk_X11_kindOf rfl (Nat.le_of_ble_eq_true rfl) (Nat.le_refl _) (v := (some (.inl q29.1))) (σ1 := q29.2) (lk_X11_kindOf l d (by omega) v27 s25 q29 e30) _ rfl ?_
      obtain ⟨s31, e32, h⟩ := bind_inv h
      refine go_wr (k := 42) dc_X11_lay_224 rfl e32 ?_
      refine go_ops ok_X11_lay_225_3 (L' := [some (.inr 0), some (.inl x1), none, some (.inl x3), none, none, none, some (.inl x7), none, none]) (st' := [.inl x1, .inr 42]) (σ1 := s31) rfl ?_
      obtain ⟨v33, e34, h⟩ := bind_inv h
      refine go_rd (k := 42) dc_X11_lay_230 rfl e34 ?_
      refine go_ops ok_X11_lay_231_1 (L' := [some (.inr 0), some (.inl x1), none, some (.inl x3), none, none, none, some (.inl x7), none, none]) (st' := [.inl 4, .inl v33]) (σ1 := s31) rfl ?_
      refine go_icmp_ne dc_X11_lay_232 (by rfl) (fun hc => ?_) (fun hc => ?_)
      · replace h := (if_neg hc).symm.trans h
        refine go_ops ok_X11_lay_240_3 (L' := [some (.inr 0), some (.inl x1), none, some (.inl x3), none, none, none, some (.inl x7), none, none]) (st' := [.inl x1, .inr 42]) (σ1 := s31) rfl ?_
        obtain ⟨v35, e36, h⟩ := bind_inv h
        refine go_rd (k := 42) dc_X11_lay_245 rfl e36 ?_
        refine go_ops ok_X11_lay_246_1 (L' := [some (.inr 0), some (.inl x1), none, some (.inl x3), none, none, none, some (.inl x7), none, none]) (st' := [.inl 5, .inl v35]) (σ1 := s31) rfl ?_
        refine go_icmp_ne dc_X11_lay_247 (by rfl) (fun hc => ?_) (fun hc => ?_)
        · replace h := (if_neg hc).symm.trans h
          refine go_ops ok_X11_lay_254_5 (L' := [some (.inr 0), some (.inl x1), none, some (.inl x3), none, none, none, some (.inl x7), none, none]) (st' := [.inl x1, .inr 42, .inr 1]) (σ1 := s31) rfl ?_
          obtain ⟨v37, e38, h⟩ := bind_inv h
          refine go_rd (k := 42) dc_X11_lay_263 rfl e38 ?_
          obtain ⟨v39, e40, h⟩ := bind_inv h
          refine go_rd (k := 1) dc_X11_lay_264 rfl e40 ?_
          exact hB_X11_lay_265 x1 x3 x7 v39 s31 h
        · replace h := (if_pos hc).symm.trans h
          refine go_ops ok_X11_lay_250_1 (L' := [some (.inr 0), some (.inl x1), none, some (.inl x3), none, none, none, some (.inl x7), none, none]) (st' := [.inl 4]) (σ1 := s31) rfl ?_
          refine go_goto dc_X11_lay_251 (by rfl) ?_
          exact hB_X11_lay_265 x1 x3 x7 4 s31 h
      · replace h := (if_pos hc).symm.trans h
        refine go_ops ok_X11_lay_235_1 (L' := [some (.inr 0), some (.inl x1), none, some (.inl x3), none, none, none, some (.inl x7), none, none]) (st' := [.inl 10]) (σ1 := s31) rfl ?_
        refine go_goto dc_X11_lay_237 (by rfl) ?_
        exact hB_X11_lay_265 x1 x3 x7 10 s31 h
    have hB_X11_lay_135 : ∀ (x1 : Int) (x2 : Int) (x3 : Int) (x6 : Int) (y0 : Int) (σ : Sg), B_X11_lay_135 x1 x2 x3 x6 y0 σ = some q → Go l m_X11_lay (d + 1) LAYM (.inl (some (.inl (b2i q.1)))) q.2 135 [some (.inr 0), some (.inl x1), some (.inl x2), some (.inl x3), none, none, some (.inl x6), none, none, none] [.inl y0] σ := by
      intro x1 x2 x3 x6 y0 σ h
      unfold B_X11_lay_135 at h
      refine go_ops ok_X11_lay_135_3 (L' := [some (.inr 0), some (.inl x1), some (.inl x2), some (.inl x3), none, none, some (.inl x6), some (.inl y0), none, none]) (st' := [.inl 4, .inl y0]) (σ1 := σ) rfl ?_
      refine go_icmp_ne dc_X11_lay_140 (by rfl) (fun hc => ?_) (fun hc => ?_)
      · replace h := (if_neg hc).symm.trans h
        refine go_ops ok_X11_lay_181_2 (L' := [some (.inr 0), some (.inl x1), some (.inl x2), some (.inl x3), none, none, some (.inl x6), some (.inl y0), none, none]) (st' := [.inl 5, .inl y0]) (σ1 := σ) rfl ?_
        refine go_icmp_ne dc_X11_lay_184 (by rfl) (fun hc => ?_) (fun hc => ?_)
        · replace h := (if_neg hc).symm.trans h
          refine go_wk (L' := [some (.inr 0), some (.inl x1), none, some (.inl x3), none, none, some (.inl x6), some (.inl y0), none, none]) ⟨rfl, rfl, rfl, rfl, rfl, trivial⟩ ?_
          exact hB_X11_lay_267 x1 x3 x6 y0 σ h
        · replace h := (if_pos hc).symm.trans h
          refine go_ops ok_X11_lay_187_5 (L' := [some (.inr 0), some (.inl x1), some (.inl x2), some (.inl x3), none, none, some (.inl x6), some (.inl y0), none, none]) (st' := [.inl 3, .inl x2, .inl x1, .inr 43]) (σ1 := σ) rfl ?_
          refine go_icmp_ne dc_X11_lay_194 (by rfl) (fun hc => ?_) (fun hc => ?_)
          · replace h := (if_neg hc).symm.trans h
            refine go_ops ok_X11_lay_204_2 (L' := [some (.inr 0), some (.inl x1), some (.inl x2), some (.inl x3), none, none, some (.inl x6), some (.inl y0), none, none]) (st' := [.inl (σ 0 44), .inl x1, .inr 43]) (σ1 := σ) rfl ?_
            refine go_wk (L' := [some (.inr 0), some (.inl x1), none, some (.inl x3), none, none, none, some (.inl y0), none, none]) ⟨rfl, rfl, rfl, rfl, trivial⟩ ?_
            exact hB_X11_lay_208 x1 x3 y0 (σ 0 44) x1 σ h
          · replace h := (if_pos hc).symm.trans h
            refine go_ops ok_X11_lay_197_1 (L' := [some (.inr 0), some (.inl x1), some (.inl x2), some (.inl x3), none, none, some (.inl x6), some (.inl y0), none, none]) (st' := [.inr 0, .inl x1, .inr 43]) (σ1 := σ) rfl ?_
            obtain ⟨q41, e42, h⟩ := bind_inv h
            refine go_V (M1 := m_X11_mostNeeded) (as := []) (st := [.inl x1, .inr 43]) (k := 0) (ci := 11) dc_X11_lay_198 ln_11_339 im_X11_mostNeeded (by decide) rfl rfl mk_X11_mostNeeded rfl (Nat.le_of_ble_eq_true rfl) (Nat.le_refl _) (v := (some (.inl q41.1))) (σ1 := q41.2) (lk_X11_mostNeeded l d (by omega) σ q41 e42) _ rfl ?_
            refine go_goto dc_X11_lay_201 (by rfl) ?_
            refine go_wk (L' := [some (.inr 0), some (.inl x1), none, some (.inl x3), none, none, none, some (.inl y0), none, none]) ⟨rfl, rfl, rfl, rfl, trivial⟩ ?_
            exact hB_X11_lay_208 x1 x3 y0 q41.1 x1 q41.2 h
      · replace h := (if_pos hc).symm.trans h
        refine go_ops ok_X11_lay_143_5 (L' := [some (.inr 0), some (.inl x1), some (.inl x2), some (.inl x3), none, none, some (.inl x6), some (.inl y0), none, none]) (st' := [.inl (σ 0 43), .inl x1, .inr 42]) (σ1 := σ) rfl ?_
        obtain ⟨s43, e44, h⟩ := bind_inv h
        refine go_wr (k := 42) dc_X11_lay_152 rfl e44 ?_
        refine go_ops ok_X11_lay_153_5 (L' := [some (.inr 0), some (.inl x1), some (.inl x2), some (.inl x3), none, none, some (.inl x6), some (.inl y0), none, none]) (st' := [.inl (s43 0 44), .inl x1, .inr 43]) (σ1 := s43) rfl ?_
        obtain ⟨s45, e46, h⟩ := bind_inv h
        refine go_wr (k := 43) dc_X11_lay_162 rfl e46 ?_
        refine go_ops ok_X11_lay_163_8 (L' := [some (.inr 0), some (.inl x1), some (.inl x2), some (.inl x3), none, none, some (.inl x6), some (.inl y0), none, none]) (st' := [.inl (wrap ((wrap (4 * (s45 0 43))) + 3)), .inr 18]) (σ1 := s45) rfl ?_
        obtain ⟨v47, e48, h⟩ := bind_inv h
        refine go_rd (k := 18) dc_X11_lay_175 rfl e48 ?_
        refine go_ops ok_X11_lay_176_1 (L' := [some (.inr 0), some (.inl x1), some (.inl x2), some (.inl x3), none, none, some (.inl v47), some (.inl y0), none, none]) (st' := []) (σ1 := s45) rfl ?_
        refine go_goto dc_X11_lay_178 (by rfl) ?_
        refine go_wk (L' := [some (.inr 0), some (.inl x1), none, some (.inl x3), none, none, some (.inl v47), some (.inl y0), none, none]) ⟨rfl, rfl, rfl, rfl, rfl, trivial⟩ ?_
        exact hB_X11_lay_267 x1 x3 v47 y0 s45 h
    have hB_X11_lay_119 : ∀ (x1 : Int) (x2 : Int) (x3 : Int) (x4 : Int) (σ : Sg), B_X11_lay_119 x1 x2 x3 x4 σ = some q → Go l m_X11_lay (d + 1) LAYM (.inl (some (.inl (b2i q.1)))) q.2 119 [some (.inr 0), some (.inl x1), some (.inl x2), some (.inl x3), some (.inl x4), none, none, none, none, none] [] σ := by
      intro x1 x2 x3 x4 σ h
      unfold B_X11_lay_119 at h
      refine go_ops ok_X11_lay_119_3 (L' := [some (.inr 0), some (.inl x1), some (.inl x2), some (.inl x3), some (.inl x4), none, some (.inl 2), none, none, none]) (st' := [.inl x4]) (σ1 := σ) rfl ?_
      refine go_if_ne dc_X11_lay_124 (by rfl) (fun hc => ?_) (fun hc => ?_)
      · replace h := (if_neg hc).symm.trans h
        refine go_ops ok_X11_lay_131_2 (L' := [some (.inr 0), some (.inl x1), some (.inl x2), some (.inl x3), some (.inl x4), none, some (.inl 2), none, none, none]) (st' := [.inl (σ 0 42)]) (σ1 := σ) rfl ?_
        refine go_wk (L' := [some (.inr 0), some (.inl x1), some (.inl x2), some (.inl x3), none, none, some (.inl 2), none, none, none]) ⟨rfl, rfl, rfl, rfl, rfl, trivial⟩ ?_
        exact hB_X11_lay_135 x1 x2 x3 2 (σ 0 42) σ h
      · replace h := (if_pos hc).symm.trans h
        refine go_ops ok_X11_lay_127_1 (L' := [some (.inr 0), some (.inl x1), some (.inl x2), some (.inl x3), some (.inl x4), none, some (.inl 2), none, none, none]) (st' := [.inl 3]) (σ1 := σ) rfl ?_
        refine go_goto dc_X11_lay_128 (by rfl) ?_
        refine go_wk (L' := [some (.inr 0), some (.inl x1), some (.inl x2), some (.inl x3), none, none, some (.inl 2), none, none, none]) ⟨rfl, rfl, rfl, rfl, rfl, trivial⟩ ?_
        exact hB_X11_lay_135 x1 x2 x3 2 3 σ h
    obtain ⟨s1, e2, h⟩ := bnd_inv h
    refine go_ops ok_X11_lay_0_9 (L' := [some (.inr 0), some (.inl a1), some (.inl a2), some (.inl 0), some (.inl 1), some (.inl 1), none, none, none, none]) (st' := []) (σ1 := s1) (by subst e2; rfl) ?_
    obtain ⟨y9, e10, h⟩ := bind_inv h
    refine hL_X11_lay_13 a1 a2 3000 (0, 1, true, s1) y9 e10 ?_
    show Go l m_X11_lay (d + 1) LAYM (.inl (some (.inl (b2i q.1)))) q.2 74 [some (.inr 0), some (.inl a1), some (.inl a2), some (.inl y9.1), some (.inl y9.2.1), some (.inl (b2i y9.2.2.1)), none, none, none, none] [] y9.2.2.2
    refine go_ops ok_X11_lay_74_1 (L' := [some (.inr 0), some (.inl a1), some (.inl a2), some (.inl y9.1), some (.inl y9.2.1), some (.inl (b2i y9.2.2.1)), none, none, none, none]) (st' := [.inl (b2i y9.2.2.1)]) (σ1 := y9.2.2.2) rfl ?_
    refine go_ifb_eq dc_X11_lay_76 (by rfl) (fun hc => ?_) (fun hc => ?_)
    · replace h := (if_neg hc).symm.trans h
      refine go_ops ok_X11_lay_88_4 (L' := [some (.inr 0), some (.inl a1), some (.inl a2), some (.inl y9.1), some (.inl y9.2.1), some (.inl (b2i y9.2.2.1)), none, none, none, none]) (st' := [.inl y9.1, .inl a1, .inr 42]) (σ1 := y9.2.2.2) rfl ?_
      obtain ⟨s11, e12, h⟩ := bind_inv h
      refine go_wr (k := 42) dc_X11_lay_94 rfl e12 ?_
      refine go_ops ok_X11_lay_95_1 (L' := [some (.inr 0), some (.inl a1), some (.inl a2), some (.inl y9.1), some (.inl y9.2.1), some (.inl (b2i y9.2.2.1)), none, none, none, none]) (st' := [.inl y9.2.1]) (σ1 := s11) rfl ?_
      refine go_if_ne dc_X11_lay_97 (by rfl) (fun hc => ?_) (fun hc => ?_)
      · replace h := (if_neg hc).symm.trans h
        refine go_wk (L' := [some (.inr 0), some (.inl a1), some (.inl a2), some (.inl y9.1), some (.inl y9.2.1), none, none, none, none, none]) ⟨rfl, rfl, rfl, rfl, rfl, trivial⟩ ?_
        exact hB_X11_lay_119 a1 a2 y9.1 y9.2.1 s11 h
      · replace h := (if_pos hc).symm.trans h
        refine go_ops ok_X11_lay_100_3 (L' := [some (.inr 0), some (.inl a1), some (.inl a2), some (.inl y9.1), some (.inl y9.2.1), some (.inl (b2i y9.2.2.1)), none, none, none, none]) (st' := [.inl y9.1, .inr 22]) (σ1 := s11) rfl ?_
        obtain ⟨v49, e50, h⟩ := bind_inv h
        refine go_rd (k := 22) dc_X11_lay_105 rfl e50 ?_
        refine go_ops ok_X11_lay_106_1 (L' := [some (.inr 0), some (.inl a1), some (.inl a2), some (.inl y9.1), some (.inl y9.2.1), some (.inl (b2i y9.2.2.1)), none, none, none, none]) (st' := [.inl (-1), .inl v49]) (σ1 := s11) rfl ?_
        refine go_icmp_ne dc_X11_lay_107 (by rfl) (fun hc => ?_) (fun hc => ?_)
        · replace h := (if_neg hc).symm.trans h
          refine go_wk (L' := [some (.inr 0), some (.inl a1), some (.inl a2), some (.inl y9.1), some (.inl y9.2.1), none, none, none, none, none]) ⟨rfl, rfl, rfl, rfl, rfl, trivial⟩ ?_
          exact hB_X11_lay_119 a1 a2 y9.1 y9.2.1 s11 h
        · replace h := (if_pos hc).symm.trans h
          refine go_ops ok_X11_lay_110_4 (L' := [some (.inr 0), some (.inl a1), some (.inl a2), some (.inl y9.1), some (.inl y9.2.1), some (.inl (b2i y9.2.2.1)), none, none, none, none]) (st' := [.inl 0, .inl a1, .inr 41]) (σ1 := s11) rfl ?_
          obtain ⟨s51, e52, h⟩ := bind_inv h
          refine go_wr (k := 41) dc_X11_lay_116 rfl e52 ?_
          refine go_ops ok_X11_lay_117_1 (L' := [some (.inr 0), some (.inl a1), some (.inl a2), some (.inl y9.1), some (.inl y9.2.1), some (.inl (b2i y9.2.2.1)), none, none, none, none]) (st' := [.inl 1]) (σ1 := s51) rfl ?_
          have h9 := Option.some.inj h
          subst h9
          exact go_zret (x := true) dc_X11_lay_118 rfl
    · replace h := (if_pos hc).symm.trans h
      refine go_ops ok_X11_lay_79_4 (L' := [some (.inr 0), some (.inl a1), some (.inl a2), some (.inl y9.1), some (.inl y9.2.1), some (.inl (b2i y9.2.2.1)), none, none, none, none]) (st' := [.inl 2, .inl a1, .inr 41]) (σ1 := y9.2.2.2) rfl ?_
      obtain ⟨s53, e54, h⟩ := bind_inv h
      refine go_wr (k := 41) dc_X11_lay_85 rfl e54 ?_
      refine go_ops ok_X11_lay_86_1 (L' := [some (.inr 0), some (.inl a1), some (.inl a2), some (.inl y9.1), some (.inl y9.2.1), some (.inl (b2i y9.2.2.1)), none, none, none, none]) (st' := [.inl 1]) (σ1 := s53) rfl ?_
      have h9 := Option.some.inj h
      subst h9
      exact go_zret (x := true) dc_X11_lay_87 rfl
  have hf := go_ct (as := [.inr 0, .inl a1, .inl a2]) mk_X11_lay (by rfl) (Nat.le_of_ble_eq_true rfl) key
  exact hf
theorem dc_X11_build_5 : decode m_X11_build.2.2.1 5 = .ok (.if_icmp .ne 4, 3) := by decide +kernel
theorem dc_X11_build_8 : decode m_X11_build.2.2.1 8 = .ok (.return_, 1) := by decide +kernel
theorem dc_X11_build_16 : decode m_X11_build.2.2.1 16 = .ok (.putfield 261, 3) := by decide +kernel
theorem dc_X11_build_21 : decode m_X11_build.2.2.1 21 = .ok (.putfield 348, 3) := by decide +kernel
theorem dc_X11_build_35 : decode m_X11_build.2.2.1 35 = .ok (.invokevirtual 345, 3) := by decide +kernel
theorem dc_X11_build_46 : decode m_X11_build.2.2.1 46 = .ok (.if_icmp .ge 45, 3) := by decide +kernel
theorem dc_X11_build_53 : decode m_X11_build.2.2.1 53 = .ok (.ifCond .ne 38, 3) := by decide +kernel
theorem dc_X11_build_62 : decode m_X11_build.2.2.1 62 = .ok (.iaload, 1) := by decide +kernel
theorem dc_X11_build_65 : decode m_X11_build.2.2.1 65 = .ok (.if_icmp .ne 16, 3) := by decide +kernel
theorem dc_X11_build_71 : decode m_X11_build.2.2.1 71 = .ok (.invokevirtual 351, 3) := by decide +kernel
theorem dc_X11_build_74 : decode m_X11_build.2.2.1 74 = .ok (.ifCond .ne 7, 3) := by decide +kernel
theorem dc_X11_build_78 : decode m_X11_build.2.2.1 78 = .ok (.goto 4, 3) := by decide +kernel
theorem dc_X11_build_82 : decode m_X11_build.2.2.1 82 = .ok (.putfield 348, 3) := by decide +kernel
theorem dc_X11_build_88 : decode m_X11_build.2.2.1 88 = .ok (.goto (-47), 3) := by decide +kernel
theorem dc_X11_build_91 : decode m_X11_build.2.2.1 91 = .ok (.return_, 1) := by decide +kernel
theorem ok_X11_build_0_3 : oks m_X11_build.1 m_X11_build.2.2.1 0 [(.aload_n 0, 1, (0, 0, 0)), (.getfield 161, 3, (11, 54, 0)), (.iload_n 1, 1, (0, 0, 0))] = true ∧ plen 0 [(.aload_n 0, 1, (0, 0, 0)), (.getfield 161, 3, (11, 54, 0)), (.iload_n 1, 1, (0, 0, 0))] = 5 := by decide +kernel
theorem ok_X11_build_9_5 : oks m_X11_build.1 m_X11_build.2.2.1 9 [(.aload_n 0, 1, (0, 0, 0)), (.iload_n 1, 1, (0, 0, 0)), (.putfield 161, 3, (11, 54, 0)), (.aload_n 0, 1, (0, 0, 0)), (.iconst 0, 1, (0, 0, 0))] = true ∧ plen 9 [(.aload_n 0, 1, (0, 0, 0)), (.iload_n 1, 1, (0, 0, 0)), (.putfield 161, 3, (11, 54, 0)), (.aload_n 0, 1, (0, 0, 0)), (.iconst 0, 1, (0, 0, 0))] = 16 := by decide +kernel
theorem ok_X11_build_19_2 : oks m_X11_build.1 m_X11_build.2.2.1 19 [(.aload_n 0, 1, (0, 0, 0)), (.iconst 0, 1, (0, 0, 0))] = true ∧ plen 19 [(.aload_n 0, 1, (0, 0, 0)), (.iconst 0, 1, (0, 0, 0))] = 21 := by decide +kernel
theorem ok_X11_build_24_8 : oks m_X11_build.1 m_X11_build.2.2.1 24 [(.aload_n 0, 1, (0, 0, 0)), (.iconst 0, 1, (0, 0, 0)), (.putfield 321, 3, (11, 56, 0)), (.aload_n 0, 1, (0, 0, 0)), (.iconst (-1), 1, (0, 0, 0)), (.bipush (-9), 2, (0, 0, 0)), (.iconst 0, 1, (0, 0, 0)), (.iconst 0, 1, (0, 0, 0))] = true ∧ plen 24 [(.aload_n 0, 1, (0, 0, 0)), (.iconst 0, 1, (0, 0, 0)), (.putfield 321, 3, (11, 56, 0)), (.aload_n 0, 1, (0, 0, 0)), (.iconst (-1), 1, (0, 0, 0)), (.bipush (-9), 2, (0, 0, 0)), (.iconst 0, 1, (0, 0, 0)), (.iconst 0, 1, (0, 0, 0))] = 35 := by decide +kernel
theorem ok_X11_build_38_3 : oks m_X11_build.1 m_X11_build.2.2.1 38 [(.pop, 1, (0, 0, 0)), (.iconst 0, 1, (0, 0, 0)), (.istore_n 2, 1, (0, 0, 0))] = true ∧ plen 38 [(.pop, 1, (0, 0, 0)), (.iconst 0, 1, (0, 0, 0)), (.istore_n 2, 1, (0, 0, 0))] = 41 := by decide +kernel
theorem ok_X11_build_41_3 : oks m_X11_build.1 m_X11_build.2.2.1 41 [(.iload_n 2, 1, (0, 0, 0)), (.aload_n 0, 1, (0, 0, 0)), (.getfield 321, 3, (11, 56, 0))] = true ∧ plen 41 [(.iload_n 2, 1, (0, 0, 0)), (.aload_n 0, 1, (0, 0, 0)), (.getfield 321, 3, (11, 56, 0))] = 46 := by decide +kernel
theorem ok_X11_build_49_2 : oks m_X11_build.1 m_X11_build.2.2.1 49 [(.aload_n 0, 1, (0, 0, 0)), (.getfield 348, 3, (11, 55, 0))] = true ∧ plen 49 [(.aload_n 0, 1, (0, 0, 0)), (.getfield 348, 3, (11, 55, 0))] = 53 := by decide +kernel
theorem ok_X11_build_56_4 : oks m_X11_build.1 m_X11_build.2.2.1 56 [(.aload_n 0, 1, (0, 0, 0)), (.aload_n 0, 1, (0, 0, 0)), (.getfield 131, 3, (11, 58, 0)), (.iload_n 2, 1, (0, 0, 0))] = true ∧ plen 56 [(.aload_n 0, 1, (0, 0, 0)), (.aload_n 0, 1, (0, 0, 0)), (.getfield 131, 3, (11, 58, 0)), (.iload_n 2, 1, (0, 0, 0))] = 62 := by decide +kernel
theorem ok_X11_build_63_1 : oks m_X11_build.1 m_X11_build.2.2.1 63 [(.bipush (-9), 2, (0, 0, 0))] = true ∧ plen 63 [(.bipush (-9), 2, (0, 0, 0))] = 65 := by decide +kernel
theorem ok_X11_build_68_3 : oks m_X11_build.1 m_X11_build.2.2.1 68 [(.aload_n 0, 1, (0, 0, 0)), (.iload_n 2, 1, (0, 0, 0)), (.iload_n 1, 1, (0, 0, 0))] = true ∧ plen 68 [(.aload_n 0, 1, (0, 0, 0)), (.iload_n 2, 1, (0, 0, 0)), (.iload_n 1, 1, (0, 0, 0))] = 71 := by decide +kernel
theorem ok_X11_build_77_1 : oks m_X11_build.1 m_X11_build.2.2.1 77 [(.iconst 1, 1, (0, 0, 0))] = true ∧ plen 77 [(.iconst 1, 1, (0, 0, 0))] = 78 := by decide +kernel
theorem ok_X11_build_81_1 : oks m_X11_build.1 m_X11_build.2.2.1 81 [(.iconst 0, 1, (0, 0, 0))] = true ∧ plen 81 [(.iconst 0, 1, (0, 0, 0))] = 82 := by decide +kernel
theorem ok_X11_build_85_1 : oks m_X11_build.1 m_X11_build.2.2.1 85 [(.iinc 2 1, 3, (0, 0, 0))] = true ∧ plen 85 [(.iinc 2 1, 3, (0, 0, 0))] = 88 := by decide +kernel
def B_X11_build_82 (x2 : Int) (y0 : Bool) (σ : Sg) : Option ((Int × Sg) ⊕ Sg) :=
bnd (up2 σ 0 55 (b2i y0)) fun s13 =>
some (.inl (wrap (x2 + 1), s13))
def B_X11_build_81 (x2 : Int) (σ : Sg) : Option ((Int × Sg) ⊕ Sg) :=
B_X11_build_82 x2 false σ
def L_X11_build_41 (x1 : Int) (x2 : Int) (σ : Sg) : Option ((Int × Sg) ⊕ Sg) :=
if (σ 0 56) ≤ x2 then
some (.inr σ)
else
if (σ 0 55) = 0 then
(rdn 512 σ 41 x2).bind fun v11 =>
if v11 = (-9) then
(F_X11_lay x2 x1 σ).bind fun q15 =>
if q15.1 = true then
B_X11_build_81 x2 q15.2
else
B_X11_build_82 x2 true q15.2
else
B_X11_build_81 x2 σ
else
some (.inr σ)
def F_X11_build (a1 : Int) (σ : Sg) : Option Sg :=
if (σ 0 54) = a1 then
some σ
else
bnd (up2 σ 0 54 a1) fun s1 =>
bnd (up2 s1 0 40 0) fun s3 =>
bnd (up2 s3 0 55 0) fun s5 =>
bnd (up2 s5 0 56 0) fun s7 =>
(F_X11_node (-1) (-9) 0 0 s7).bind fun q9 =>
(iter (fun a : (Int × Sg) => L_X11_build_41 a1 a.1 a.2) 3000 (0, q9.2)).bind fun y17 =>
some y17
theorem lk_X11_build (l : Launch) (d : Nat) (hd : 8 ≤ d) (a1 : Int) (σ : Sg) (q : Sg) (h : F_X11_build a1 σ = some q) : CT l d m_X11_build.2.1 m_X11_build.2.2.1 m_X11_build.2.2.2.1 m_X11_build.2.2.2.2 [.inr 0, .inl a1] (LAYM, σ) none (LAYM, q) := by
  obtain ⟨d, rfl⟩ : ∃ e, d = e + 1 := ⟨d - 1, by omega⟩
  have key : Go l m_X11_build (d + 1) LAYM (.inl none) q 0 [some (.inr 0), some (.inl a1), none] [] σ := by
    unfold F_X11_build at h
    have hL_X11_build_41 : ∀ (x1 : Int) (n : Nat) (a : (Int × Sg)) (y : Sg), iter (fun a : (Int × Sg) => L_X11_build_41 x1 a.1 a.2) n a = some y → (fun y : Sg => Go l m_X11_build (d + 1) LAYM (.inl none) q 91 [none, none, none] [] y) y → (fun a : (Int × Sg) => Go l m_X11_build (d + 1) LAYM (.inl none) q 41 [some (.inr 0), some (.inl x1), some (.inl a.1)] [] a.2) a := by
      intro x1
      refine go_iter (G := fun a : (Int × Sg) => Go l m_X11_build (d + 1) LAYM (.inl none) q 41 [some (.inr 0), some (.inl x1), some (.inl a.1)] [] a.2) (K := fun y : Sg => Go l m_X11_build (d + 1) LAYM (.inl none) q 91 [none, none, none] [] y) ?_
      rintro ⟨x2, σ⟩ w h hK
      replace h : L_X11_build_41 x1 x2 σ = some w := h
      show Go l m_X11_build (d + 1) LAYM (.inl none) q 41 [some (.inr 0), some (.inl x1), some (.inl x2)] [] σ
      unfold L_X11_build_41 at h
      have hB_X11_build_82 : ∀ (x2 : Int) (y0 : Bool) (σ : Sg), B_X11_build_82 x2 y0 σ = some w → Go l m_X11_build (d + 1) LAYM (.inl none) q 82 [some (.inr 0), some (.inl x1), some (.inl x2)] [.inl (b2i y0), .inr 0] σ := by
        intro x2 y0 σ h
        unfold B_X11_build_82 at h
        obtain ⟨s13, e14, h⟩ := bnd_inv h
        refine go_pfb (b := y0) (k := 0) (ci := 11) (sl := 55) dc_X11_build_82 (by decide +kernel) (by decide) rfl rfl (by decide +kernel) (by decide +kernel) e14 ?_
        refine go_ops ok_X11_build_85_1 (L' := [some (.inr 0), some (.inl x1), some (.inl (wrap (x2 + 1)))]) (st' := []) (σ1 := s13) rfl ?_
        refine go_goto dc_X11_build_88 (by rfl) ?_
        cases h
        exact hK
      have hB_X11_build_81 : ∀ (x2 : Int) (σ : Sg), B_X11_build_81 x2 σ = some w → Go l m_X11_build (d + 1) LAYM (.inl none) q 81 [some (.inr 0), some (.inl x1), some (.inl x2)] [.inr 0] σ := by
        intro x2 σ h
        unfold B_X11_build_81 at h
        refine go_ops ok_X11_build_81_1 (L' := [some (.inr 0), some (.inl x1), some (.inl x2)]) (st' := [.inl 0, .inr 0]) (σ1 := σ) rfl ?_
        exact hB_X11_build_82 x2 false σ h
      refine go_ops ok_X11_build_41_3 (L' := [some (.inr 0), some (.inl x1), some (.inl x2)]) (st' := [.inl (σ 0 56), .inl x2]) (σ1 := σ) rfl ?_
      refine go_icmp_ge dc_X11_build_46 (by rfl) (fun hc => ?_) (fun hc => ?_)
      · replace h := (if_pos hc).symm.trans h
        cases h
        refine go_wk (L' := [none, none, none]) trivial ?_
        exact hK
      · replace h := (if_neg hc).symm.trans h
        refine go_ops ok_X11_build_49_2 (L' := [some (.inr 0), some (.inl x1), some (.inl x2)]) (st' := [.inl (σ 0 55)]) (σ1 := σ) rfl ?_
        refine go_if_ne dc_X11_build_53 (by rfl) (fun hc => ?_) (fun hc => ?_)
        · replace h := (if_neg hc).symm.trans h
          cases h
          refine go_wk (L' := [none, none, none]) trivial ?_
          exact hK
        · replace h := (if_pos hc).symm.trans h
          refine go_ops ok_X11_build_56_4 (L' := [some (.inr 0), some (.inl x1), some (.inl x2)]) (st' := [.inl x2, .inr 41, .inr 0]) (σ1 := σ) rfl ?_
          obtain ⟨v11, e12, h⟩ := bind_inv h
          refine go_rd (k := 41) dc_X11_build_62 rfl e12 ?_
          refine go_ops ok_X11_build_63_1 (L' := [some (.inr 0), some (.inl x1), some (.inl x2)]) (st' := [.inl (-9), .inl v11, .inr 0]) (σ1 := σ) rfl ?_
          refine go_icmp_ne dc_X11_build_65 (by rfl) (fun hc => ?_) (fun hc => ?_)
          · replace h := (if_neg hc).symm.trans h
            exact hB_X11_build_81 x2 σ h
          · replace h := (if_pos hc).symm.trans h
            refine go_ops ok_X11_build_68_3 (L' := [some (.inr 0), some (.inl x1), some (.inl x2)]) (st' := [.inl x1, .inl x2, .inr 0, .inr 0]) (σ1 := σ) rfl ?_
            obtain ⟨q15, e16, h⟩ := bind_inv h
            refine go_V (M1 := m_X11_lay) (as := [.inl x2, .inl x1]) (st := [.inr 0]) (k := 0) (ci := 11) dc_X11_build_71 ln_11_351 im_X11_lay (by decide) rfl rfl mk_X11_lay rfl (Nat.le_of_ble_eq_true rfl) (Nat.le_refl _) (v := (some (.inl (b2i q15.1)))) (σ1 := q15.2) (lk_X11_lay l d (by omega) x2 x1 σ q15 e16) _ rfl ?_
            refine go_ifb_ne dc_X11_build_74 (by rfl) (fun hc => ?_) (fun hc => ?_)
            · replace h := (if_pos hc).symm.trans h
              exact hB_X11_build_81 x2 q15.2 h
            · replace h := (if_neg hc).symm.trans h
              refine go_ops ok_X11_build_77_1 (L' := [some (.inr 0), some (.inl x1), some (.inl x2)]) (st' := [.inl 1, .inr 0]) (σ1 := q15.2) rfl ?_
              refine go_goto dc_X11_build_78 (by rfl) ?_
              exact hB_X11_build_82 x2 true q15.2 h
    refine go_ops ok_X11_build_0_3 (L' := [some (.inr 0), some (.inl a1), none]) (st' := [.inl a1, .inl (σ 0 54)]) (σ1 := σ) rfl ?_
    refine go_icmp_ne dc_X11_build_5 (by rfl) (fun hc => ?_) (fun hc => ?_)
    · replace h := (if_neg hc).symm.trans h
      obtain ⟨s1, e2, h⟩ := bnd_inv h
      refine go_ops ok_X11_build_9_5 (L' := [some (.inr 0), some (.inl a1), none]) (st' := [.inl 0, .inr 0]) (σ1 := s1) (by subst e2; rfl) ?_
      obtain ⟨s3, e4, h⟩ := bnd_inv h
      refine go_pfb (b := false) (k := 0) (ci := 11) (sl := 40) dc_X11_build_16 (by decide +kernel) (by decide) rfl rfl (by decide +kernel) (by decide +kernel) e4 ?_
      refine go_ops ok_X11_build_19_2 (L' := [some (.inr 0), some (.inl a1), none]) (st' := [.inl 0, .inr 0]) (σ1 := s3) rfl ?_
      obtain ⟨s5, e6, h⟩ := bnd_inv h
      refine go_pfb (b := false) (k := 0) (ci := 11) (sl := 55) dc_X11_build_21 (by decide +kernel) (by decide) rfl rfl (by decide +kernel) (by decide +kernel) e6 ?_
      obtain ⟨s7, e8, h⟩ := bnd_inv h
      refine go_ops ok_X11_build_24_8 (L' := [some (.inr 0), some (.inl a1), none]) (st' := [.inl 0, .inl 0, .inl (-9), .inl (-1), .inr 0]) (σ1 := s7) (by subst e8; rfl) ?_
      obtain ⟨q9, e10, h⟩ := bind_inv h
      refine go_V (M1 := m_X11_node) (as := [.inl (-1), .inl (-9), .inl 0, .inl 0]) (st := []) (k := 0) (ci := 11) dc_X11_build_35 ln_11_345 im_X11_node (by decide) rfl rfl mk_X11_node rfl (Nat.le_of_ble_eq_true rfl) (Nat.le_refl _) (v := (some (.inl q9.1))) (σ1 := q9.2) (lk_X11_node l d (by omega) (-1) (-9) 0 0 s7 q9 e10) _ rfl ?_
      refine go_ops ok_X11_build_38_3 (L' := [some (.inr 0), some (.inl a1), some (.inl 0)]) (st' := []) (σ1 := q9.2) rfl ?_
      obtain ⟨y17, e18, h⟩ := bind_inv h
      refine hL_X11_build_41 a1 3000 (0, q9.2) y17 e18 ?_
      show Go l m_X11_build (d + 1) LAYM (.inl none) q 91 [none, none, none] [] y17
      have h9 := Option.some.inj h
      subst h9
      exact go_vret dc_X11_build_91 rfl
    · replace h := (if_pos hc).symm.trans h
      have h9 := Option.some.inj h
      subst h9
      exact go_vret dc_X11_build_8 rfl
  have hf := go_ct (as := [.inr 0, .inl a1]) mk_X11_build (by rfl) (Nat.le_of_ble_eq_true rfl) key
  exact hf
theorem dc_X11_guarded_10 : decode m_X11_guarded.2.2.1 10 = .ok (.iaload, 1) := by decide +kernel
theorem dc_X11_guarded_11 : decode m_X11_guarded.2.2.1 11 = .ok (.iaload, 1) := by decide +kernel
theorem dc_X11_guarded_12 : decode m_X11_guarded.2.2.1 12 = .ok (.invokevirtual 265, 3) := by decide +kernel
theorem dc_X11_guarded_21 : decode m_X11_guarded.2.2.1 21 = .ok (.iaload, 1) := by decide +kernel
theorem dc_X11_guarded_28 : decode m_X11_guarded.2.2.1 28 = .ok (.iaload, 1) := by decide +kernel
theorem dc_X11_guarded_33 : decode m_X11_guarded.2.2.1 33 = .ok (.ifCond .ne 16, 3) := by decide +kernel
theorem dc_X11_guarded_38 : decode m_X11_guarded.2.2.1 38 = .ok (.if_icmp .ge 7, 3) := by decide +kernel
theorem dc_X11_guarded_42 : decode m_X11_guarded.2.2.1 42 = .ok (.goto 55, 3) := by decide +kernel
theorem dc_X11_guarded_46 : decode m_X11_guarded.2.2.1 46 = .ok (.goto 51, 3) := by decide +kernel
theorem dc_X11_guarded_52 : decode m_X11_guarded.2.2.1 52 = .ok (.if_icmp .ne 16, 3) := by decide +kernel
theorem dc_X11_guarded_57 : decode m_X11_guarded.2.2.1 57 = .ok (.if_icmp .ne 7, 3) := by decide +kernel
theorem dc_X11_guarded_61 : decode m_X11_guarded.2.2.1 61 = .ok (.goto 36, 3) := by decide +kernel
theorem dc_X11_guarded_65 : decode m_X11_guarded.2.2.1 65 = .ok (.goto 32, 3) := by decide +kernel
theorem dc_X11_guarded_71 : decode m_X11_guarded.2.2.1 71 = .ok (.if_icmp .ne 16, 3) := by decide +kernel
theorem dc_X11_guarded_76 : decode m_X11_guarded.2.2.1 76 = .ok (.if_icmp .le 7, 3) := by decide +kernel
theorem dc_X11_guarded_80 : decode m_X11_guarded.2.2.1 80 = .ok (.goto 17, 3) := by decide +kernel
theorem dc_X11_guarded_84 : decode m_X11_guarded.2.2.1 84 = .ok (.goto 13, 3) := by decide +kernel
theorem dc_X11_guarded_89 : decode m_X11_guarded.2.2.1 89 = .ok (.if_icmp .eq 7, 3) := by decide +kernel
theorem dc_X11_guarded_93 : decode m_X11_guarded.2.2.1 93 = .ok (.goto 4, 3) := by decide +kernel
theorem dc_X11_guarded_101 : decode m_X11_guarded.2.2.1 101 = .ok (.ifCond .eq 7, 3) := by decide +kernel
theorem dc_X11_guarded_105 : decode m_X11_guarded.2.2.1 105 = .ok (.goto 14, 3) := by decide +kernel
theorem dc_X11_guarded_111 : decode m_X11_guarded.2.2.1 111 = .ok (.if_icmp .ne 7, 3) := by decide +kernel
theorem dc_X11_guarded_115 : decode m_X11_guarded.2.2.1 115 = .ok (.goto 4, 3) := by decide +kernel
theorem dc_X11_guarded_119 : decode m_X11_guarded.2.2.1 119 = .ok (.ireturn, 1) := by decide +kernel
theorem ok_X11_guarded_0_6 : oks m_X11_guarded.1 m_X11_guarded.2.2.1 0 [(.aload_n 0, 1, (0, 0, 0)), (.aload_n 0, 1, (0, 0, 0)), (.getfield 107, 3, (11, 39, 0)), (.aload_n 0, 1, (0, 0, 0)), (.getfield 77, 3, (11, 27, 0)), (.iload_n 1, 1, (0, 0, 0))] = true ∧ plen 0 [(.aload_n 0, 1, (0, 0, 0)), (.aload_n 0, 1, (0, 0, 0)), (.getfield 107, 3, (11, 39, 0)), (.aload_n 0, 1, (0, 0, 0)), (.getfield 77, 3, (11, 27, 0)), (.iload_n 1, 1, (0, 0, 0))] = 10 := by decide +kernel
theorem ok_X11_guarded_15_4 : oks m_X11_guarded.1 m_X11_guarded.2.2.1 15 [(.istore_n 2, 1, (0, 0, 0)), (.aload_n 0, 1, (0, 0, 0)), (.getfield 80, 3, (11, 28, 0)), (.iload_n 1, 1, (0, 0, 0))] = true ∧ plen 15 [(.istore_n 2, 1, (0, 0, 0)), (.aload_n 0, 1, (0, 0, 0)), (.getfield 80, 3, (11, 28, 0)), (.iload_n 1, 1, (0, 0, 0))] = 21 := by decide +kernel
theorem ok_X11_guarded_22_4 : oks m_X11_guarded.1 m_X11_guarded.2.2.1 22 [(.istore_n 3, 1, (0, 0, 0)), (.aload_n 0, 1, (0, 0, 0)), (.getfield 74, 3, (11, 26, 0)), (.iload_n 1, 1, (0, 0, 0))] = true ∧ plen 22 [(.istore_n 3, 1, (0, 0, 0)), (.aload_n 0, 1, (0, 0, 0)), (.getfield 74, 3, (11, 26, 0)), (.iload_n 1, 1, (0, 0, 0))] = 28 := by decide +kernel
theorem ok_X11_guarded_29_2 : oks m_X11_guarded.1 m_X11_guarded.2.2.1 29 [(.istore 4, 2, (0, 0, 0)), (.iload 4, 2, (0, 0, 0))] = true ∧ plen 29 [(.istore 4, 2, (0, 0, 0)), (.iload 4, 2, (0, 0, 0))] = 33 := by decide +kernel
theorem ok_X11_guarded_36_2 : oks m_X11_guarded.1 m_X11_guarded.2.2.1 36 [(.iload_n 2, 1, (0, 0, 0)), (.iload_n 3, 1, (0, 0, 0))] = true ∧ plen 36 [(.iload_n 2, 1, (0, 0, 0)), (.iload_n 3, 1, (0, 0, 0))] = 38 := by decide +kernel
theorem ok_X11_guarded_41_1 : oks m_X11_guarded.1 m_X11_guarded.2.2.1 41 [(.iconst 1, 1, (0, 0, 0))] = true ∧ plen 41 [(.iconst 1, 1, (0, 0, 0))] = 42 := by decide +kernel
theorem ok_X11_guarded_45_1 : oks m_X11_guarded.1 m_X11_guarded.2.2.1 45 [(.iconst 0, 1, (0, 0, 0))] = true ∧ plen 45 [(.iconst 0, 1, (0, 0, 0))] = 46 := by decide +kernel
theorem ok_X11_guarded_49_2 : oks m_X11_guarded.1 m_X11_guarded.2.2.1 49 [(.iload 4, 2, (0, 0, 0)), (.iconst 1, 1, (0, 0, 0))] = true ∧ plen 49 [(.iload 4, 2, (0, 0, 0)), (.iconst 1, 1, (0, 0, 0))] = 52 := by decide +kernel
theorem ok_X11_guarded_55_2 : oks m_X11_guarded.1 m_X11_guarded.2.2.1 55 [(.iload_n 2, 1, (0, 0, 0)), (.iload_n 3, 1, (0, 0, 0))] = true ∧ plen 55 [(.iload_n 2, 1, (0, 0, 0)), (.iload_n 3, 1, (0, 0, 0))] = 57 := by decide +kernel
theorem ok_X11_guarded_60_1 : oks m_X11_guarded.1 m_X11_guarded.2.2.1 60 [(.iconst 1, 1, (0, 0, 0))] = true ∧ plen 60 [(.iconst 1, 1, (0, 0, 0))] = 61 := by decide +kernel
theorem ok_X11_guarded_64_1 : oks m_X11_guarded.1 m_X11_guarded.2.2.1 64 [(.iconst 0, 1, (0, 0, 0))] = true ∧ plen 64 [(.iconst 0, 1, (0, 0, 0))] = 65 := by decide +kernel
theorem ok_X11_guarded_68_2 : oks m_X11_guarded.1 m_X11_guarded.2.2.1 68 [(.iload 4, 2, (0, 0, 0)), (.iconst 2, 1, (0, 0, 0))] = true ∧ plen 68 [(.iload 4, 2, (0, 0, 0)), (.iconst 2, 1, (0, 0, 0))] = 71 := by decide +kernel
theorem ok_X11_guarded_74_2 : oks m_X11_guarded.1 m_X11_guarded.2.2.1 74 [(.iload_n 2, 1, (0, 0, 0)), (.iload_n 3, 1, (0, 0, 0))] = true ∧ plen 74 [(.iload_n 2, 1, (0, 0, 0)), (.iload_n 3, 1, (0, 0, 0))] = 76 := by decide +kernel
theorem ok_X11_guarded_79_1 : oks m_X11_guarded.1 m_X11_guarded.2.2.1 79 [(.iconst 1, 1, (0, 0, 0))] = true ∧ plen 79 [(.iconst 1, 1, (0, 0, 0))] = 80 := by decide +kernel
theorem ok_X11_guarded_83_1 : oks m_X11_guarded.1 m_X11_guarded.2.2.1 83 [(.iconst 0, 1, (0, 0, 0))] = true ∧ plen 83 [(.iconst 0, 1, (0, 0, 0))] = 84 := by decide +kernel
theorem ok_X11_guarded_87_2 : oks m_X11_guarded.1 m_X11_guarded.2.2.1 87 [(.iload_n 2, 1, (0, 0, 0)), (.iload_n 3, 1, (0, 0, 0))] = true ∧ plen 87 [(.iload_n 2, 1, (0, 0, 0)), (.iload_n 3, 1, (0, 0, 0))] = 89 := by decide +kernel
theorem ok_X11_guarded_92_1 : oks m_X11_guarded.1 m_X11_guarded.2.2.1 92 [(.iconst 1, 1, (0, 0, 0))] = true ∧ plen 92 [(.iconst 1, 1, (0, 0, 0))] = 93 := by decide +kernel
theorem ok_X11_guarded_96_1 : oks m_X11_guarded.1 m_X11_guarded.2.2.1 96 [(.iconst 0, 1, (0, 0, 0))] = true ∧ plen 96 [(.iconst 0, 1, (0, 0, 0))] = 97 := by decide +kernel
theorem ok_X11_guarded_97_2 : oks m_X11_guarded.1 m_X11_guarded.2.2.1 97 [(.istore 5, 2, (0, 0, 0)), (.iload 5, 2, (0, 0, 0))] = true ∧ plen 97 [(.istore 5, 2, (0, 0, 0)), (.iload 5, 2, (0, 0, 0))] = 101 := by decide +kernel
theorem ok_X11_guarded_104_1 : oks m_X11_guarded.1 m_X11_guarded.2.2.1 104 [(.iconst 0, 1, (0, 0, 0))] = true ∧ plen 104 [(.iconst 0, 1, (0, 0, 0))] = 105 := by decide +kernel
theorem ok_X11_guarded_108_2 : oks m_X11_guarded.1 m_X11_guarded.2.2.1 108 [(.iload 4, 2, (0, 0, 0)), (.iconst 3, 1, (0, 0, 0))] = true ∧ plen 108 [(.iload 4, 2, (0, 0, 0)), (.iconst 3, 1, (0, 0, 0))] = 111 := by decide +kernel
theorem ok_X11_guarded_114_1 : oks m_X11_guarded.1 m_X11_guarded.2.2.1 114 [(.iconst 2, 1, (0, 0, 0))] = true ∧ plen 114 [(.iconst 2, 1, (0, 0, 0))] = 115 := by decide +kernel
theorem ok_X11_guarded_118_1 : oks m_X11_guarded.1 m_X11_guarded.2.2.1 118 [(.iconst 1, 1, (0, 0, 0))] = true ∧ plen 118 [(.iconst 1, 1, (0, 0, 0))] = 119 := by decide +kernel
def B_X11_guarded_97 (x4 : Int) (y0 : Bool) (σ : Sg) : Option (Int × Sg) :=
if y0 = true then
some (0, σ)
else
if x4 = 3 then
some (2, σ)
else
some (1, σ)
def F_X11_guarded (a1 : Int) (σ : Sg) : Option (Int × Sg) :=
(rdn 8 σ 23 a1).bind fun v1 =>
(rdn 6 σ 33 v1).bind fun v3 =>
(F_X11_headAt v3 σ).bind fun q5 =>
(rdn 8 q5.2 24 a1).bind fun v7 =>
(rdn 8 q5.2 22 a1).bind fun v9 =>
if v9 = 0 then
if v7 ≤ q5.1 then
B_X11_guarded_97 v9 false q5.2
else
B_X11_guarded_97 v9 true q5.2
else
if v9 = 1 then
if q5.1 = v7 then
B_X11_guarded_97 v9 true q5.2
else
B_X11_guarded_97 v9 false q5.2
else
if v9 = 2 then
if q5.1 ≤ v7 then
B_X11_guarded_97 v9 false q5.2
else
B_X11_guarded_97 v9 true q5.2
else
if q5.1 = v7 then
B_X11_guarded_97 v9 false q5.2
else
B_X11_guarded_97 v9 true q5.2
theorem lk_X11_guarded (l : Launch) (d : Nat) (hd : 3 ≤ d) (a1 : Int) (σ : Sg) (q : (Int × Sg)) (h : F_X11_guarded a1 σ = some q) : CT l d m_X11_guarded.2.1 m_X11_guarded.2.2.1 m_X11_guarded.2.2.2.1 m_X11_guarded.2.2.2.2 [.inr 0, .inl a1] (LAYM, σ) (some (.inl q.1)) (LAYM, q.2) := by
  obtain ⟨d, rfl⟩ : ∃ e, d = e + 1 := ⟨d - 1, by omega⟩
  have key : Go l m_X11_guarded (d + 1) LAYM (.inl (some (.inl q.1))) q.2 0 [some (.inr 0), some (.inl a1), none, none, none, none] [] σ := by
    unfold F_X11_guarded at h
    have hB_X11_guarded_97 : ∀ (x4 : Int) (y0 : Bool) (σ : Sg), B_X11_guarded_97 x4 y0 σ = some q → Go l m_X11_guarded (d + 1) LAYM (.inl (some (.inl q.1))) q.2 97 [none, none, none, none, some (.inl x4), none] [.inl (b2i y0)] σ := by
      intro x4 y0 σ h
      unfold B_X11_guarded_97 at h
      refine go_ops ok_X11_guarded_97_2 (L' := [none, none, none, none, some (.inl x4), some (.inl (b2i y0))]) (st' := [.inl (b2i y0)]) (σ1 := σ) rfl ?_
      refine go_ifb_eq dc_X11_guarded_101 (by rfl) (fun hc => ?_) (fun hc => ?_)
      · replace h := (if_neg hc).symm.trans h
        refine go_ops ok_X11_guarded_108_2 (L' := [none, none, none, none, some (.inl x4), some (.inl (b2i y0))]) (st' := [.inl 3, .inl x4]) (σ1 := σ) rfl ?_
        refine go_icmp_ne dc_X11_guarded_111 (by rfl) (fun hc => ?_) (fun hc => ?_)
        · replace h := (if_neg hc).symm.trans h
          refine go_ops ok_X11_guarded_118_1 (L' := [none, none, none, none, some (.inl x4), some (.inl (b2i y0))]) (st' := [.inl 1]) (σ1 := σ) rfl ?_
          have h9 := Option.some.inj h
          subst h9
          exact go_iret dc_X11_guarded_119 rfl
        · replace h := (if_pos hc).symm.trans h
          refine go_ops ok_X11_guarded_114_1 (L' := [none, none, none, none, some (.inl x4), some (.inl (b2i y0))]) (st' := [.inl 2]) (σ1 := σ) rfl ?_
          refine go_goto dc_X11_guarded_115 (by rfl) ?_
          have h9 := Option.some.inj h
          subst h9
          exact go_iret dc_X11_guarded_119 rfl
      · replace h := (if_pos hc).symm.trans h
        refine go_ops ok_X11_guarded_104_1 (L' := [none, none, none, none, some (.inl x4), some (.inl (b2i y0))]) (st' := [.inl 0]) (σ1 := σ) rfl ?_
        refine go_goto dc_X11_guarded_105 (by rfl) ?_
        have h9 := Option.some.inj h
        subst h9
        exact go_iret dc_X11_guarded_119 rfl
    refine go_ops ok_X11_guarded_0_6 (L' := [some (.inr 0), some (.inl a1), none, none, none, none]) (st' := [.inl a1, .inr 23, .inr 33, .inr 0]) (σ1 := σ) rfl ?_
    obtain ⟨v1, e2, h⟩ := bind_inv h
    refine go_rd (k := 23) dc_X11_guarded_10 rfl e2 ?_
    obtain ⟨v3, e4, h⟩ := bind_inv h
    refine go_rd (k := 33) dc_X11_guarded_11 rfl e4 ?_
    obtain ⟨q5, e6, h⟩ := bind_inv h
    refine go_V (M1 := m_X11_headAt) (as := [.inl v3]) (st := []) (k := 0) (ci := 11) dc_X11_guarded_12 ln_11_265 im_X11_headAt (by decide) rfl rfl mk_X11_headAt rfl (Nat.le_of_ble_eq_true rfl) (Nat.le_refl _) (v := (some (.inl q5.1))) (σ1 := q5.2) (lk_X11_headAt l d (by omega) v3 σ q5 e6) _ rfl ?_
    refine go_ops ok_X11_guarded_15_4 (L' := [some (.inr 0), some (.inl a1), some (.inl q5.1), none, none, none]) (st' := [.inl a1, .inr 24]) (σ1 := q5.2) rfl ?_
    obtain ⟨v7, e8, h⟩ := bind_inv h
    refine go_rd (k := 24) dc_X11_guarded_21 rfl e8 ?_
    refine go_ops ok_X11_guarded_22_4 (L' := [some (.inr 0), some (.inl a1), some (.inl q5.1), some (.inl v7), none, none]) (st' := [.inl a1, .inr 22]) (σ1 := q5.2) rfl ?_
    obtain ⟨v9, e10, h⟩ := bind_inv h
    refine go_rd (k := 22) dc_X11_guarded_28 rfl e10 ?_
    refine go_ops ok_X11_guarded_29_2 (L' := [some (.inr 0), some (.inl a1), some (.inl q5.1), some (.inl v7), some (.inl v9), none]) (st' := [.inl v9]) (σ1 := q5.2) rfl ?_
    refine go_if_ne dc_X11_guarded_33 (by rfl) (fun hc => ?_) (fun hc => ?_)
    · replace h := (if_neg hc).symm.trans h
      refine go_ops ok_X11_guarded_49_2 (L' := [some (.inr 0), some (.inl a1), some (.inl q5.1), some (.inl v7), some (.inl v9), none]) (st' := [.inl 1, .inl v9]) (σ1 := q5.2) rfl ?_
      refine go_icmp_ne dc_X11_guarded_52 (by rfl) (fun hc => ?_) (fun hc => ?_)
      · replace h := (if_neg hc).symm.trans h
        refine go_ops ok_X11_guarded_68_2 (L' := [some (.inr 0), some (.inl a1), some (.inl q5.1), some (.inl v7), some (.inl v9), none]) (st' := [.inl 2, .inl v9]) (σ1 := q5.2) rfl ?_
        refine go_icmp_ne dc_X11_guarded_71 (by rfl) (fun hc => ?_) (fun hc => ?_)
        · replace h := (if_neg hc).symm.trans h
          refine go_ops ok_X11_guarded_87_2 (L' := [some (.inr 0), some (.inl a1), some (.inl q5.1), some (.inl v7), some (.inl v9), none]) (st' := [.inl v7, .inl q5.1]) (σ1 := q5.2) rfl ?_
          refine go_icmp_eq dc_X11_guarded_89 (by rfl) (fun hc => ?_) (fun hc => ?_)
          · replace h := (if_pos hc).symm.trans h
            refine go_ops ok_X11_guarded_96_1 (L' := [some (.inr 0), some (.inl a1), some (.inl q5.1), some (.inl v7), some (.inl v9), none]) (st' := [.inl 0]) (σ1 := q5.2) rfl ?_
            refine go_wk (L' := [none, none, none, none, some (.inl v9), none]) ⟨rfl, trivial⟩ ?_
            exact hB_X11_guarded_97 v9 false q5.2 h
          · replace h := (if_neg hc).symm.trans h
            refine go_ops ok_X11_guarded_92_1 (L' := [some (.inr 0), some (.inl a1), some (.inl q5.1), some (.inl v7), some (.inl v9), none]) (st' := [.inl 1]) (σ1 := q5.2) rfl ?_
            refine go_goto dc_X11_guarded_93 (by rfl) ?_
            refine go_wk (L' := [none, none, none, none, some (.inl v9), none]) ⟨rfl, trivial⟩ ?_
            exact hB_X11_guarded_97 v9 true q5.2 h
        · replace h := (if_pos hc).symm.trans h
          refine go_ops ok_X11_guarded_74_2 (L' := [some (.inr 0), some (.inl a1), some (.inl q5.1), some (.inl v7), some (.inl v9), none]) (st' := [.inl v7, .inl q5.1]) (σ1 := q5.2) rfl ?_
          refine go_icmp_le dc_X11_guarded_76 (by rfl) (fun hc => ?_) (fun hc => ?_)
          · replace h := (if_pos hc).symm.trans h
            refine go_ops ok_X11_guarded_83_1 (L' := [some (.inr 0), some (.inl a1), some (.inl q5.1), some (.inl v7), some (.inl v9), none]) (st' := [.inl 0]) (σ1 := q5.2) rfl ?_
            refine go_goto dc_X11_guarded_84 (by rfl) ?_
            refine go_wk (L' := [none, none, none, none, some (.inl v9), none]) ⟨rfl, trivial⟩ ?_
            exact hB_X11_guarded_97 v9 false q5.2 h
          · replace h := (if_neg hc).symm.trans h
            refine go_ops ok_X11_guarded_79_1 (L' := [some (.inr 0), some (.inl a1), some (.inl q5.1), some (.inl v7), some (.inl v9), none]) (st' := [.inl 1]) (σ1 := q5.2) rfl ?_
            refine go_goto dc_X11_guarded_80 (by rfl) ?_
            refine go_wk (L' := [none, none, none, none, some (.inl v9), none]) ⟨rfl, trivial⟩ ?_
            exact hB_X11_guarded_97 v9 true q5.2 h
      · replace h := (if_pos hc).symm.trans h
        refine go_ops ok_X11_guarded_55_2 (L' := [some (.inr 0), some (.inl a1), some (.inl q5.1), some (.inl v7), some (.inl v9), none]) (st' := [.inl v7, .inl q5.1]) (σ1 := q5.2) rfl ?_
        refine go_icmp_ne dc_X11_guarded_57 (by rfl) (fun hc => ?_) (fun hc => ?_)
        · replace h := (if_neg hc).symm.trans h
          refine go_ops ok_X11_guarded_64_1 (L' := [some (.inr 0), some (.inl a1), some (.inl q5.1), some (.inl v7), some (.inl v9), none]) (st' := [.inl 0]) (σ1 := q5.2) rfl ?_
          refine go_goto dc_X11_guarded_65 (by rfl) ?_
          refine go_wk (L' := [none, none, none, none, some (.inl v9), none]) ⟨rfl, trivial⟩ ?_
          exact hB_X11_guarded_97 v9 false q5.2 h
        · replace h := (if_pos hc).symm.trans h
          refine go_ops ok_X11_guarded_60_1 (L' := [some (.inr 0), some (.inl a1), some (.inl q5.1), some (.inl v7), some (.inl v9), none]) (st' := [.inl 1]) (σ1 := q5.2) rfl ?_
          refine go_goto dc_X11_guarded_61 (by rfl) ?_
          refine go_wk (L' := [none, none, none, none, some (.inl v9), none]) ⟨rfl, trivial⟩ ?_
          exact hB_X11_guarded_97 v9 true q5.2 h
    · replace h := (if_pos hc).symm.trans h
      refine go_ops ok_X11_guarded_36_2 (L' := [some (.inr 0), some (.inl a1), some (.inl q5.1), some (.inl v7), some (.inl v9), none]) (st' := [.inl v7, .inl q5.1]) (σ1 := q5.2) rfl ?_
      refine go_icmp_ge dc_X11_guarded_38 (by rfl) (fun hc => ?_) (fun hc => ?_)
      · replace h := (if_pos hc).symm.trans h
        refine go_ops ok_X11_guarded_45_1 (L' := [some (.inr 0), some (.inl a1), some (.inl q5.1), some (.inl v7), some (.inl v9), none]) (st' := [.inl 0]) (σ1 := q5.2) rfl ?_
        refine go_goto dc_X11_guarded_46 (by rfl) ?_
        refine go_wk (L' := [none, none, none, none, some (.inl v9), none]) ⟨rfl, trivial⟩ ?_
        exact hB_X11_guarded_97 v9 false q5.2 h
      · replace h := (if_neg hc).symm.trans h
        refine go_ops ok_X11_guarded_41_1 (L' := [some (.inr 0), some (.inl a1), some (.inl q5.1), some (.inl v7), some (.inl v9), none]) (st' := [.inl 1]) (σ1 := q5.2) rfl ?_
        refine go_goto dc_X11_guarded_42 (by rfl) ?_
        refine go_wk (L' := [none, none, none, none, some (.inl v9), none]) ⟨rfl, trivial⟩ ?_
        exact hB_X11_guarded_97 v9 true q5.2 h
  have hf := go_ct (as := [.inr 0, .inl a1]) mk_X11_guarded (by rfl) (Nat.le_of_ble_eq_true rfl) key
  exact hf
theorem dc_X11_end_10 : decode m_X11_end.2.2.1 10 = .ok (.if_icmp .ge 30, 3) := by decide +kernel
theorem dc_X11_end_20 : decode m_X11_end.2.2.1 20 = .ok (.if_icmp .ne 7, 3) := by decide +kernel
theorem dc_X11_end_24 : decode m_X11_end.2.2.1 24 = .ok (.goto 9, 3) := by decide +kernel
theorem dc_X11_end_32 : decode m_X11_end.2.2.1 32 = .ok (.iaload, 1) := by decide +kernel
theorem dc_X11_end_33 : decode m_X11_end.2.2.1 33 = .ok (.iastore, 1) := by decide +kernel
theorem dc_X11_end_37 : decode m_X11_end.2.2.1 37 = .ok (.goto (-30), 3) := by decide +kernel
theorem dc_X11_end_46 : decode m_X11_end.2.2.1 46 = .ok (.if_icmp .ne 7, 3) := by decide +kernel
theorem dc_X11_end_50 : decode m_X11_end.2.2.1 50 = .ok (.goto 4, 3) := by decide +kernel
theorem dc_X11_end_55 : decode m_X11_end.2.2.1 55 = .ok (.iaload, 1) := by decide +kernel
theorem dc_X11_end_58 : decode m_X11_end.2.2.1 58 = .ok (.if_icmp .eq 7, 3) := by decide +kernel
theorem dc_X11_end_62 : decode m_X11_end.2.2.1 62 = .ok (.ifCond .eq 7, 3) := by decide +kernel
theorem dc_X11_end_66 : decode m_X11_end.2.2.1 66 = .ok (.goto 4, 3) := by decide +kernel
theorem dc_X11_end_71 : decode m_X11_end.2.2.1 71 = .ok (.iastore, 1) := by decide +kernel
theorem dc_X11_end_74 : decode m_X11_end.2.2.1 74 = .ok (.if_icmp .ne 7, 3) := by decide +kernel
theorem dc_X11_end_78 : decode m_X11_end.2.2.1 78 = .ok (.goto 18, 3) := by decide +kernel
theorem dc_X11_end_82 : decode m_X11_end.2.2.1 82 = .ok (.ifCond .eq 8, 3) := by decide +kernel
theorem dc_X11_end_87 : decode m_X11_end.2.2.1 87 = .ok (.goto 9, 3) := by decide +kernel
theorem dc_X11_end_95 : decode m_X11_end.2.2.1 95 = .ok (.iaload, 1) := by decide +kernel
theorem dc_X11_end_96 : decode m_X11_end.2.2.1 96 = .ok (.ireturn, 1) := by decide +kernel
theorem ok_X11_end_0_5 : oks m_X11_end.1 m_X11_end.2.2.1 0 [(.aload_n 0, 1, (0, 0, 0)), (.iload_n 1, 1, (0, 0, 0)), (.putfield 165, 3, (11, 52, 0)), (.iconst 0, 1, (0, 0, 0)), (.istore_n 3, 1, (0, 0, 0))] = true ∧ plen 0 [(.aload_n 0, 1, (0, 0, 0)), (.iload_n 1, 1, (0, 0, 0)), (.putfield 165, 3, (11, 52, 0)), (.iconst 0, 1, (0, 0, 0)), (.istore_n 3, 1, (0, 0, 0))] = 7 := by decide +kernel
theorem ok_X11_end_7_2 : oks m_X11_end.1 m_X11_end.2.2.1 7 [(.iload_n 3, 1, (0, 0, 0)), (.bipush 6, 2, (0, 0, 0))] = true ∧ plen 7 [(.iload_n 3, 1, (0, 0, 0)), (.bipush 6, 2, (0, 0, 0))] = 10 := by decide +kernel
theorem ok_X11_end_13_5 : oks m_X11_end.1 m_X11_end.2.2.1 13 [(.aload_n 0, 1, (0, 0, 0)), (.getfield 125, 3, (11, 53, 0)), (.iload_n 3, 1, (0, 0, 0)), (.iload_n 1, 1, (0, 0, 0)), (.iconst (-1), 1, (0, 0, 0))] = true ∧ plen 13 [(.aload_n 0, 1, (0, 0, 0)), (.getfield 125, 3, (11, 53, 0)), (.iload_n 3, 1, (0, 0, 0)), (.iload_n 1, 1, (0, 0, 0)), (.iconst (-1), 1, (0, 0, 0))] = 20 := by decide +kernel
theorem ok_X11_end_23_1 : oks m_X11_end.1 m_X11_end.2.2.1 23 [(.iconst (-1), 1, (0, 0, 0))] = true ∧ plen 23 [(.iconst (-1), 1, (0, 0, 0))] = 24 := by decide +kernel
theorem ok_X11_end_27_3 : oks m_X11_end.1 m_X11_end.2.2.1 27 [(.aload_n 0, 1, (0, 0, 0)), (.getfield 107, 3, (11, 39, 0)), (.iload_n 3, 1, (0, 0, 0))] = true ∧ plen 27 [(.aload_n 0, 1, (0, 0, 0)), (.getfield 107, 3, (11, 39, 0)), (.iload_n 3, 1, (0, 0, 0))] = 32 := by decide +kernel
theorem ok_X11_end_34_1 : oks m_X11_end.1 m_X11_end.2.2.1 34 [(.iinc 3 1, 3, (0, 0, 0))] = true ∧ plen 34 [(.iinc 3 1, 3, (0, 0, 0))] = 37 := by decide +kernel
theorem ok_X11_end_40_4 : oks m_X11_end.1 m_X11_end.2.2.1 40 [(.aload_n 0, 1, (0, 0, 0)), (.getfield 83, 3, (11, 29, 0)), (.iload_n 1, 1, (0, 0, 0)), (.iconst (-1), 1, (0, 0, 0))] = true ∧ plen 40 [(.aload_n 0, 1, (0, 0, 0)), (.getfield 83, 3, (11, 29, 0)), (.iload_n 1, 1, (0, 0, 0)), (.iconst (-1), 1, (0, 0, 0))] = 46 := by decide +kernel
theorem ok_X11_end_49_1 : oks m_X11_end.1 m_X11_end.2.2.1 49 [(.iconst 0, 1, (0, 0, 0))] = true ∧ plen 49 [(.iconst 0, 1, (0, 0, 0))] = 50 := by decide +kernel
theorem ok_X11_end_53_1 : oks m_X11_end.1 m_X11_end.2.2.1 53 [(.iload_n 1, 1, (0, 0, 0))] = true ∧ plen 53 [(.iload_n 1, 1, (0, 0, 0))] = 54 := by decide +kernel
theorem ok_X11_end_54_1 : oks m_X11_end.1 m_X11_end.2.2.1 54 [(.dup2, 1, (0, 0, 0))] = true ∧ plen 54 [(.dup2, 1, (0, 0, 0))] = 55 := by decide +kernel
theorem ok_X11_end_56_2 : oks m_X11_end.1 m_X11_end.2.2.1 56 [(.iload_n 1, 1, (0, 0, 0)), (.iconst (-1), 1, (0, 0, 0))] = true ∧ plen 56 [(.iload_n 1, 1, (0, 0, 0)), (.iconst (-1), 1, (0, 0, 0))] = 58 := by decide +kernel
theorem ok_X11_end_61_1 : oks m_X11_end.1 m_X11_end.2.2.1 61 [(.iload_n 2, 1, (0, 0, 0))] = true ∧ plen 61 [(.iload_n 2, 1, (0, 0, 0))] = 62 := by decide +kernel
theorem ok_X11_end_65_1 : oks m_X11_end.1 m_X11_end.2.2.1 65 [(.iconst 0, 1, (0, 0, 0))] = true ∧ plen 65 [(.iconst 0, 1, (0, 0, 0))] = 66 := by decide +kernel
theorem ok_X11_end_69_1 : oks m_X11_end.1 m_X11_end.2.2.1 69 [(.iconst 1, 1, (0, 0, 0))] = true ∧ plen 69 [(.iconst 1, 1, (0, 0, 0))] = 70 := by decide +kernel
theorem ok_X11_end_70_1 : oks m_X11_end.1 m_X11_end.2.2.1 70 [(.iadd, 1, (0, 0, 0))] = true ∧ plen 70 [(.iadd, 1, (0, 0, 0))] = 71 := by decide +kernel
theorem ok_X11_end_72_2 : oks m_X11_end.1 m_X11_end.2.2.1 72 [(.iload_n 1, 1, (0, 0, 0)), (.iconst (-1), 1, (0, 0, 0))] = true ∧ plen 72 [(.iload_n 1, 1, (0, 0, 0)), (.iconst (-1), 1, (0, 0, 0))] = 74 := by decide +kernel
theorem ok_X11_end_77_1 : oks m_X11_end.1 m_X11_end.2.2.1 77 [(.iconst (-1), 1, (0, 0, 0))] = true ∧ plen 77 [(.iconst (-1), 1, (0, 0, 0))] = 78 := by decide +kernel
theorem ok_X11_end_81_1 : oks m_X11_end.1 m_X11_end.2.2.1 81 [(.iload_n 2, 1, (0, 0, 0))] = true ∧ plen 81 [(.iload_n 2, 1, (0, 0, 0))] = 82 := by decide +kernel
theorem ok_X11_end_85_1 : oks m_X11_end.1 m_X11_end.2.2.1 85 [(.bipush (-2), 2, (0, 0, 0))] = true ∧ plen 85 [(.bipush (-2), 2, (0, 0, 0))] = 87 := by decide +kernel
theorem ok_X11_end_90_3 : oks m_X11_end.1 m_X11_end.2.2.1 90 [(.aload_n 0, 1, (0, 0, 0)), (.getfield 71, 3, (11, 25, 0)), (.iload_n 1, 1, (0, 0, 0))] = true ∧ plen 90 [(.aload_n 0, 1, (0, 0, 0)), (.getfield 71, 3, (11, 25, 0)), (.iload_n 1, 1, (0, 0, 0))] = 95 := by decide +kernel
def B_X11_end_33 (x3 : Int) (y0 : Int) (y1 : Int) (σ : Sg) : Option ((Int × Sg) ⊕ Sg) :=
(wrn 6 σ 39 y1 y0).bind fun s5 =>
some (.inl (wrap (x3 + 1), s5))
def L_X11_end_7 (x1 : Int) (x3 : Int) (σ : Sg) : Option ((Int × Sg) ⊕ Sg) :=
if 6 ≤ x3 then
some (.inr σ)
else
if x1 = (-1) then
B_X11_end_33 x3 (-1) x3 σ
else
(rdn 6 σ 33 x3).bind fun v3 =>
B_X11_end_33 x3 v3 x3 σ
def B_X11_end_70 (x1 : Int) (x2 : Bool) (y0 : Bool) (y1 : Int) (y2 : Int) (σ : Sg) : Option (Int × Sg) :=
(wrn 8 σ 25 y2 (wrap (y1 + (b2i y0)))).bind fun s11 =>
if x1 = (-1) then
some ((-1), s11)
else
if x2 = true then
some ((-2), s11)
else
(rdn 8 s11 21 x1).bind fun v13 =>
some (v13, s11)
def B_X11_end_65 (x1 : Int) (x2 : Bool) (y0 : Int) (y1 : Int) (σ : Sg) : Option (Int × Sg) :=
B_X11_end_70 x1 x2 false y0 y1 σ
def B_X11_end_54 (x1 : Int) (x2 : Bool) (y0 : Int) (σ : Sg) : Option (Int × Sg) :=
(rdn 8 σ 25 y0).bind fun v9 =>
if x1 = (-1) then
B_X11_end_65 x1 x2 v9 y0 σ
else
if x2 = true then
B_X11_end_65 x1 x2 v9 y0 σ
else
B_X11_end_70 x1 x2 true v9 y0 σ
def F_X11_end (a1 : Int) (a2 : Bool) (σ : Sg) : Option (Int × Sg) :=
bnd (up2 σ 0 52 a1) fun s1 =>
(iter (fun a : (Int × Sg) => L_X11_end_7 a1 a.1 a.2) 7 (0, s1)).bind fun y7 =>
if a1 = (-1) then
B_X11_end_54 a1 a2 0 y7
else
B_X11_end_54 a1 a2 a1 y7
theorem lk_X11_end (l : Launch) (d : Nat) (hd : 0 ≤ d) (a1 : Int) (a2 : Bool) (σ : Sg) (q : (Int × Sg)) (h : F_X11_end a1 a2 σ = some q) : CT l d m_X11_end.2.1 m_X11_end.2.2.1 m_X11_end.2.2.2.1 m_X11_end.2.2.2.2 [.inr 0, .inl a1, .inl (b2i a2)] (LAYM, σ) (some (.inl q.1)) (LAYM, q.2) := by
  skip
  have key : Go l m_X11_end d LAYM (.inl (some (.inl q.1))) q.2 0 [some (.inr 0), some (.inl a1), some (.inl (b2i a2)), none] [] σ := by
    unfold F_X11_end at h
    have hL_X11_end_7 : ∀ (x1 : Int) (x2 : Bool) (n : Nat) (a : (Int × Sg)) (y : Sg), iter (fun a : (Int × Sg) => L_X11_end_7 x1 a.1 a.2) n a = some y → (fun y : Sg => Go l m_X11_end d LAYM (.inl (some (.inl q.1))) q.2 40 [some (.inr 0), some (.inl x1), some (.inl (b2i x2)), none] [] y) y → (fun a : (Int × Sg) => Go l m_X11_end d LAYM (.inl (some (.inl q.1))) q.2 7 [some (.inr 0), some (.inl x1), some (.inl (b2i x2)), some (.inl a.1)] [] a.2) a := by
      intro x1 x2
      refine go_iter (G := fun a : (Int × Sg) => Go l m_X11_end d LAYM (.inl (some (.inl q.1))) q.2 7 [some (.inr 0), some (.inl x1), some (.inl (b2i x2)), some (.inl a.1)] [] a.2) (K := fun y : Sg => Go l m_X11_end d LAYM (.inl (some (.inl q.1))) q.2 40 [some (.inr 0), some (.inl x1), some (.inl (b2i x2)), none] [] y) ?_
      rintro ⟨x3, σ⟩ w h hK
      replace h : L_X11_end_7 x1 x3 σ = some w := h
      show Go l m_X11_end d LAYM (.inl (some (.inl q.1))) q.2 7 [some (.inr 0), some (.inl x1), some (.inl (b2i x2)), some (.inl x3)] [] σ
      unfold L_X11_end_7 at h
      have hB_X11_end_33 : ∀ (x3 : Int) (y0 : Int) (y1 : Int) (σ : Sg), B_X11_end_33 x3 y0 y1 σ = some w → Go l m_X11_end d LAYM (.inl (some (.inl q.1))) q.2 33 [some (.inr 0), some (.inl x1), some (.inl (b2i x2)), some (.inl x3)] [.inl y0, .inl y1, .inr 39] σ := by
        intro x3 y0 y1 σ h
        unfold B_X11_end_33 at h
        obtain ⟨s5, e6, h⟩ := bind_inv h
        refine go_wr (k := 39) dc_X11_end_33 rfl e6 ?_
        refine go_ops ok_X11_end_34_1 (L' := [some (.inr 0), some (.inl x1), some (.inl (b2i x2)), some (.inl (wrap (x3 + 1)))]) (st' := []) (σ1 := s5) rfl ?_
        refine go_goto dc_X11_end_37 (by rfl) ?_
        cases h
        exact hK
      refine go_ops ok_X11_end_7_2 (L' := [some (.inr 0), some (.inl x1), some (.inl (b2i x2)), some (.inl x3)]) (st' := [.inl 6, .inl x3]) (σ1 := σ) rfl ?_
      refine go_icmp_ge dc_X11_end_10 (by rfl) (fun hc => ?_) (fun hc => ?_)
      · replace h := (if_pos hc).symm.trans h
        cases h
        refine go_wk (L' := [some (.inr 0), some (.inl x1), some (.inl (b2i x2)), none]) ⟨rfl, rfl, rfl, trivial⟩ ?_
        exact hK
      · replace h := (if_neg hc).symm.trans h
        refine go_ops ok_X11_end_13_5 (L' := [some (.inr 0), some (.inl x1), some (.inl (b2i x2)), some (.inl x3)]) (st' := [.inl (-1), .inl x1, .inl x3, .inr 39]) (σ1 := σ) rfl ?_
        refine go_icmp_ne dc_X11_end_20 (by rfl) (fun hc => ?_) (fun hc => ?_)
        · replace h := (if_neg hc).symm.trans h
          refine go_ops ok_X11_end_27_3 (L' := [some (.inr 0), some (.inl x1), some (.inl (b2i x2)), some (.inl x3)]) (st' := [.inl x3, .inr 33, .inl x3, .inr 39]) (σ1 := σ) rfl ?_
          obtain ⟨v3, e4, h⟩ := bind_inv h
          refine go_rd (k := 33) dc_X11_end_32 rfl e4 ?_
          exact hB_X11_end_33 x3 v3 x3 σ h
        · replace h := (if_pos hc).symm.trans h
          refine go_ops ok_X11_end_23_1 (L' := [some (.inr 0), some (.inl x1), some (.inl (b2i x2)), some (.inl x3)]) (st' := [.inl (-1), .inl x3, .inr 39]) (σ1 := σ) rfl ?_
          refine go_goto dc_X11_end_24 (by rfl) ?_
          exact hB_X11_end_33 x3 (-1) x3 σ h
    have hB_X11_end_70 : ∀ (x1 : Int) (x2 : Bool) (y0 : Bool) (y1 : Int) (y2 : Int) (σ : Sg), B_X11_end_70 x1 x2 y0 y1 y2 σ = some q → Go l m_X11_end d LAYM (.inl (some (.inl q.1))) q.2 70 [some (.inr 0), some (.inl x1), some (.inl (b2i x2)), none] [.inl (b2i y0), .inl y1, .inl y2, .inr 25] σ := by
      intro x1 x2 y0 y1 y2 σ h
      unfold B_X11_end_70 at h
      refine go_ops ok_X11_end_70_1 (L' := [some (.inr 0), some (.inl x1), some (.inl (b2i x2)), none]) (st' := [.inl (wrap (y1 + (b2i y0))), .inl y2, .inr 25]) (σ1 := σ) rfl ?_
      obtain ⟨s11, e12, h⟩ := bind_inv h
      refine go_wr (k := 25) dc_X11_end_71 rfl e12 ?_
      refine go_ops ok_X11_end_72_2 (L' := [some (.inr 0), some (.inl x1), some (.inl (b2i x2)), none]) (st' := [.inl (-1), .inl x1]) (σ1 := s11) rfl ?_
      refine go_icmp_ne dc_X11_end_74 (by rfl) (fun hc => ?_) (fun hc => ?_)
      · replace h := (if_neg hc).symm.trans h
        refine go_ops ok_X11_end_81_1 (L' := [some (.inr 0), some (.inl x1), some (.inl (b2i x2)), none]) (st' := [.inl (b2i x2)]) (σ1 := s11) rfl ?_
        refine go_ifb_eq dc_X11_end_82 (by rfl) (fun hc => ?_) (fun hc => ?_)
        · replace h := (if_neg hc).symm.trans h
          refine go_ops ok_X11_end_90_3 (L' := [some (.inr 0), some (.inl x1), some (.inl (b2i x2)), none]) (st' := [.inl x1, .inr 21]) (σ1 := s11) rfl ?_
          obtain ⟨v13, e14, h⟩ := bind_inv h
          refine go_rd (k := 21) dc_X11_end_95 rfl e14 ?_
          have h9 := Option.some.inj h
          subst h9
          exact go_iret dc_X11_end_96 rfl
        · replace h := (if_pos hc).symm.trans h
          refine go_ops ok_X11_end_85_1 (L' := [some (.inr 0), some (.inl x1), some (.inl (b2i x2)), none]) (st' := [.inl (-2)]) (σ1 := s11) rfl ?_
          refine go_goto dc_X11_end_87 (by rfl) ?_
          have h9 := Option.some.inj h
          subst h9
          exact go_iret dc_X11_end_96 rfl
      · replace h := (if_pos hc).symm.trans h
        refine go_ops ok_X11_end_77_1 (L' := [some (.inr 0), some (.inl x1), some (.inl (b2i x2)), none]) (st' := [.inl (-1)]) (σ1 := s11) rfl ?_
        refine go_goto dc_X11_end_78 (by rfl) ?_
        have h9 := Option.some.inj h
        subst h9
        exact go_iret dc_X11_end_96 rfl
    have hB_X11_end_65 : ∀ (x1 : Int) (x2 : Bool) (y0 : Int) (y1 : Int) (σ : Sg), B_X11_end_65 x1 x2 y0 y1 σ = some q → Go l m_X11_end d LAYM (.inl (some (.inl q.1))) q.2 65 [some (.inr 0), some (.inl x1), some (.inl (b2i x2)), none] [.inl y0, .inl y1, .inr 25] σ := by
      intro x1 x2 y0 y1 σ h
      unfold B_X11_end_65 at h
      refine go_ops ok_X11_end_65_1 (L' := [some (.inr 0), some (.inl x1), some (.inl (b2i x2)), none]) (st' := [.inl 0, .inl y0, .inl y1, .inr 25]) (σ1 := σ) rfl ?_
      refine go_goto dc_X11_end_66 (by rfl) ?_
      exact hB_X11_end_70 x1 x2 false y0 y1 σ h
    have hB_X11_end_54 : ∀ (x1 : Int) (x2 : Bool) (y0 : Int) (σ : Sg), B_X11_end_54 x1 x2 y0 σ = some q → Go l m_X11_end d LAYM (.inl (some (.inl q.1))) q.2 54 [some (.inr 0), some (.inl x1), some (.inl (b2i x2)), none] [.inl y0, .inr 25] σ := by
      intro x1 x2 y0 σ h
      unfold B_X11_end_54 at h
      refine go_ops ok_X11_end_54_1 (L' := [some (.inr 0), some (.inl x1), some (.inl (b2i x2)), none]) (st' := [.inl y0, .inr 25, .inl y0, .inr 25]) (σ1 := σ) rfl ?_
      obtain ⟨v9, e10, h⟩ := bind_inv h
      refine go_rd (k := 25) dc_X11_end_55 rfl e10 ?_
      refine go_ops ok_X11_end_56_2 (L' := [some (.inr 0), some (.inl x1), some (.inl (b2i x2)), none]) (st' := [.inl (-1), .inl x1, .inl v9, .inl y0, .inr 25]) (σ1 := σ) rfl ?_
      refine go_icmp_eq dc_X11_end_58 (by rfl) (fun hc => ?_) (fun hc => ?_)
      · replace h := (if_pos hc).symm.trans h
        exact hB_X11_end_65 x1 x2 v9 y0 σ h
      · replace h := (if_neg hc).symm.trans h
        refine go_ops ok_X11_end_61_1 (L' := [some (.inr 0), some (.inl x1), some (.inl (b2i x2)), none]) (st' := [.inl (b2i x2), .inl v9, .inl y0, .inr 25]) (σ1 := σ) rfl ?_
        refine go_ifb_eq dc_X11_end_62 (by rfl) (fun hc => ?_) (fun hc => ?_)
        · replace h := (if_neg hc).symm.trans h
          refine go_ops ok_X11_end_69_1 (L' := [some (.inr 0), some (.inl x1), some (.inl (b2i x2)), none]) (st' := [.inl 1, .inl v9, .inl y0, .inr 25]) (σ1 := σ) rfl ?_
          exact hB_X11_end_70 x1 x2 true v9 y0 σ h
        · replace h := (if_pos hc).symm.trans h
          exact hB_X11_end_65 x1 x2 v9 y0 σ h
    obtain ⟨s1, e2, h⟩ := bnd_inv h
    refine go_ops ok_X11_end_0_5 (L' := [some (.inr 0), some (.inl a1), some (.inl (b2i a2)), some (.inl 0)]) (st' := []) (σ1 := s1) (by subst e2; rfl) ?_
    obtain ⟨y7, e8, h⟩ := bind_inv h
    refine hL_X11_end_7 a1 a2 7 (0, s1) y7 e8 ?_
    show Go l m_X11_end d LAYM (.inl (some (.inl q.1))) q.2 40 [some (.inr 0), some (.inl a1), some (.inl (b2i a2)), none] [] y7
    refine go_ops ok_X11_end_40_4 (L' := [some (.inr 0), some (.inl a1), some (.inl (b2i a2)), none]) (st' := [.inl (-1), .inl a1, .inr 25]) (σ1 := y7) rfl ?_
    refine go_icmp_ne dc_X11_end_46 (by rfl) (fun hc => ?_) (fun hc => ?_)
    · replace h := (if_neg hc).symm.trans h
      refine go_ops ok_X11_end_53_1 (L' := [some (.inr 0), some (.inl a1), some (.inl (b2i a2)), none]) (st' := [.inl a1, .inr 25]) (σ1 := y7) rfl ?_
      exact hB_X11_end_54 a1 a2 a1 y7 h
    · replace h := (if_pos hc).symm.trans h
      refine go_ops ok_X11_end_49_1 (L' := [some (.inr 0), some (.inl a1), some (.inl (b2i a2)), none]) (st' := [.inl 0, .inr 25]) (σ1 := y7) rfl ?_
      refine go_goto dc_X11_end_50 (by rfl) ?_
      exact hB_X11_end_54 a1 a2 0 y7 h
  have hf := go_ct (as := [.inr 0, .inl a1, .inl (b2i a2)]) mk_X11_end (by rfl) (Nat.le_of_ble_eq_true rfl) key
  exact hf
theorem dc_X11_runPlain_2 : decode m_X11_runPlain.2.2.1 2 = .ok (.putfield 261, 3) := by decide +kernel
theorem dc_X11_runPlain_12 : decode m_X11_runPlain.2.2.1 12 = .ok (.if_icmp .ge 58, 3) := by decide +kernel
theorem dc_X11_runPlain_17 : decode m_X11_runPlain.2.2.1 17 = .ok (.invokevirtual 333, 3) := by decide +kernel
theorem dc_X11_runPlain_20 : decode m_X11_runPlain.2.2.1 20 = .ok (.ifCond .ne 44, 3) := by decide +kernel
theorem dc_X11_runPlain_28 : decode m_X11_runPlain.2.2.1 28 = .ok (.iaload, 1) := by decide +kernel
theorem dc_X11_runPlain_30 : decode m_X11_runPlain.2.2.1 30 = .ok (.if_icmp .ne 7, 3) := by decide +kernel
theorem dc_X11_runPlain_34 : decode m_X11_runPlain.2.2.1 34 = .ok (.goto 8, 3) := by decide +kernel
theorem dc_X11_runPlain_39 : decode m_X11_runPlain.2.2.1 39 = .ok (.invokevirtual 354, 3) := by decide +kernel
theorem dc_X11_runPlain_45 : decode m_X11_runPlain.2.2.1 45 = .ok (.if_icmp .eq 19, 3) := by decide +kernel
theorem dc_X11_runPlain_52 : decode m_X11_runPlain.2.2.1 52 = .ok (.if_icmp .ne 7, 3) := by decide +kernel
theorem dc_X11_runPlain_56 : decode m_X11_runPlain.2.2.1 56 = .ok (.goto 4, 3) := by decide +kernel
theorem dc_X11_runPlain_60 : decode m_X11_runPlain.2.2.1 60 = .ok (.invokevirtual 357, 3) := by decide +kernel
theorem dc_X11_runPlain_63 : decode m_X11_runPlain.2.2.1 63 = .ok (.ireturn, 1) := by decide +kernel
theorem dc_X11_runPlain_67 : decode m_X11_runPlain.2.2.1 67 = .ok (.goto (-60), 3) := by decide +kernel
theorem dc_X11_runPlain_73 : decode m_X11_runPlain.2.2.1 73 = .ok (.invokevirtual 357, 3) := by decide +kernel
theorem dc_X11_runPlain_76 : decode m_X11_runPlain.2.2.1 76 = .ok (.ireturn, 1) := by decide +kernel
theorem ok_X11_runPlain_0_2 : oks m_X11_runPlain.1 m_X11_runPlain.2.2.1 0 [(.aload_n 0, 1, (0, 0, 0)), (.iconst 1, 1, (0, 0, 0))] = true ∧ plen 0 [(.aload_n 0, 1, (0, 0, 0)), (.iconst 1, 1, (0, 0, 0))] = 2 := by decide +kernel
theorem ok_X11_runPlain_5_2 : oks m_X11_runPlain.1 m_X11_runPlain.2.2.1 5 [(.iconst 0, 1, (0, 0, 0)), (.istore_n 1, 1, (0, 0, 0))] = true ∧ plen 5 [(.iconst 0, 1, (0, 0, 0)), (.istore_n 1, 1, (0, 0, 0))] = 7 := by decide +kernel
theorem ok_X11_runPlain_7_3 : oks m_X11_runPlain.1 m_X11_runPlain.2.2.1 7 [(.iload_n 1, 1, (0, 0, 0)), (.aload_n 0, 1, (0, 0, 0)), (.getfield 228, 3, (11, 23, 0))] = true ∧ plen 7 [(.iload_n 1, 1, (0, 0, 0)), (.aload_n 0, 1, (0, 0, 0)), (.getfield 228, 3, (11, 23, 0))] = 12 := by decide +kernel
theorem ok_X11_runPlain_15_2 : oks m_X11_runPlain.1 m_X11_runPlain.2.2.1 15 [(.aload_n 0, 1, (0, 0, 0)), (.iload_n 1, 1, (0, 0, 0))] = true ∧ plen 15 [(.aload_n 0, 1, (0, 0, 0)), (.iload_n 1, 1, (0, 0, 0))] = 17 := by decide +kernel
theorem ok_X11_runPlain_23_3 : oks m_X11_runPlain.1 m_X11_runPlain.2.2.1 23 [(.aload_n 0, 1, (0, 0, 0)), (.getfield 74, 3, (11, 26, 0)), (.iload_n 1, 1, (0, 0, 0))] = true ∧ plen 23 [(.aload_n 0, 1, (0, 0, 0)), (.getfield 74, 3, (11, 26, 0)), (.iload_n 1, 1, (0, 0, 0))] = 28 := by decide +kernel
theorem ok_X11_runPlain_29_1 : oks m_X11_runPlain.1 m_X11_runPlain.2.2.1 29 [(.iconst (-1), 1, (0, 0, 0))] = true ∧ plen 29 [(.iconst (-1), 1, (0, 0, 0))] = 30 := by decide +kernel
theorem ok_X11_runPlain_33_1 : oks m_X11_runPlain.1 m_X11_runPlain.2.2.1 33 [(.iconst 0, 1, (0, 0, 0))] = true ∧ plen 33 [(.iconst 0, 1, (0, 0, 0))] = 34 := by decide +kernel
theorem ok_X11_runPlain_37_2 : oks m_X11_runPlain.1 m_X11_runPlain.2.2.1 37 [(.aload_n 0, 1, (0, 0, 0)), (.iload_n 1, 1, (0, 0, 0))] = true ∧ plen 37 [(.aload_n 0, 1, (0, 0, 0)), (.iload_n 1, 1, (0, 0, 0))] = 39 := by decide +kernel
theorem ok_X11_runPlain_42_3 : oks m_X11_runPlain.1 m_X11_runPlain.2.2.1 42 [(.istore_n 2, 1, (0, 0, 0)), (.iload_n 2, 1, (0, 0, 0)), (.iconst 1, 1, (0, 0, 0))] = true ∧ plen 42 [(.istore_n 2, 1, (0, 0, 0)), (.iload_n 2, 1, (0, 0, 0)), (.iconst 1, 1, (0, 0, 0))] = 45 := by decide +kernel
theorem ok_X11_runPlain_48_4 : oks m_X11_runPlain.1 m_X11_runPlain.2.2.1 48 [(.aload_n 0, 1, (0, 0, 0)), (.iload_n 1, 1, (0, 0, 0)), (.iload_n 2, 1, (0, 0, 0)), (.iconst 2, 1, (0, 0, 0))] = true ∧ plen 48 [(.aload_n 0, 1, (0, 0, 0)), (.iload_n 1, 1, (0, 0, 0)), (.iload_n 2, 1, (0, 0, 0)), (.iconst 2, 1, (0, 0, 0))] = 52 := by decide +kernel
theorem ok_X11_runPlain_55_1 : oks m_X11_runPlain.1 m_X11_runPlain.2.2.1 55 [(.iconst 1, 1, (0, 0, 0))] = true ∧ plen 55 [(.iconst 1, 1, (0, 0, 0))] = 56 := by decide +kernel
theorem ok_X11_runPlain_59_1 : oks m_X11_runPlain.1 m_X11_runPlain.2.2.1 59 [(.iconst 0, 1, (0, 0, 0))] = true ∧ plen 59 [(.iconst 0, 1, (0, 0, 0))] = 60 := by decide +kernel
theorem ok_X11_runPlain_64_1 : oks m_X11_runPlain.1 m_X11_runPlain.2.2.1 64 [(.iinc 1 1, 3, (0, 0, 0))] = true ∧ plen 64 [(.iinc 1 1, 3, (0, 0, 0))] = 67 := by decide +kernel
theorem ok_X11_runPlain_70_3 : oks m_X11_runPlain.1 m_X11_runPlain.2.2.1 70 [(.aload_n 0, 1, (0, 0, 0)), (.iconst (-1), 1, (0, 0, 0)), (.iconst 0, 1, (0, 0, 0))] = true ∧ plen 70 [(.aload_n 0, 1, (0, 0, 0)), (.iconst (-1), 1, (0, 0, 0)), (.iconst 0, 1, (0, 0, 0))] = 73 := by decide +kernel
def B_X11_runPlain_64 (x1 : Int) (σ : Sg) : Option ((Int × Sg) ⊕ (Sg ⊕ (Int × Sg))) :=
some (.inl (wrap (x1 + 1), σ))
def B_X11_runPlain_60 (y0 : Bool) (y1 : Int) (σ : Sg) : Option ((Int × Sg) ⊕ (Sg ⊕ (Int × Sg))) :=
(F_X11_end y1 y0 σ).bind fun q9 =>
some (.inr (.inr (q9.1, q9.2)))
def B_X11_runPlain_42 (x1 : Int) (y0 : Int) (σ : Sg) : Option ((Int × Sg) ⊕ (Sg ⊕ (Int × Sg))) :=
if y0 = 1 then
B_X11_runPlain_64 x1 σ
else
if y0 = 2 then
B_X11_runPlain_60 true x1 σ
else
B_X11_runPlain_60 false x1 σ
def L_X11_runPlain_7 (x1 : Int) (σ : Sg) : Option ((Int × Sg) ⊕ (Sg ⊕ (Int × Sg))) :=
if (σ 0 23) ≤ x1 then
some (.inr (.inl σ))
else
(F_X11_tryCase x1 σ).bind fun q3 =>
if q3.1 = 0 then
(rdn 8 q3.2 22 x1).bind fun v5 =>
if v5 = (-1) then
B_X11_runPlain_42 x1 0 q3.2
else
(F_X11_guarded x1 q3.2).bind fun q7 =>
B_X11_runPlain_42 x1 q7.1 q7.2
else
B_X11_runPlain_64 x1 q3.2
def F_X11_runPlain (σ : Sg) : Option (Int × Sg) :=
bnd (up2 σ 0 40 1) fun s1 =>
(iter (fun a : (Int × Sg) => L_X11_runPlain_7 a.1 a.2) 3000 (0, s1)).bind fun y11 => Sum.elim (fun z13 =>
(F_X11_end (-1) false z13).bind fun q15 =>
some (q15.1, q15.2)) (fun r14 => some r14) y11
theorem lk_X11_runPlain (l : Launch) (d : Nat) (hd : 6 ≤ d) (σ : Sg) (q : (Int × Sg)) (h : F_X11_runPlain σ = some q) : CT l d m_X11_runPlain.2.1 m_X11_runPlain.2.2.1 m_X11_runPlain.2.2.2.1 m_X11_runPlain.2.2.2.2 [.inr 0] (LAYM, σ) (some (.inl q.1)) (LAYM, q.2) := by
  obtain ⟨d, rfl⟩ : ∃ e, d = e + 1 := ⟨d - 1, by omega⟩
  have key : Go l m_X11_runPlain (d + 1) LAYM (.inl (some (.inl q.1))) q.2 0 [some (.inr 0), none, none] [] σ := by
    unfold F_X11_runPlain at h
    have hL_X11_runPlain_7 : ∀ (n : Nat) (a : (Int × Sg)) (y : (Sg ⊕ (Int × Sg))), iter (fun a : (Int × Sg) => L_X11_runPlain_7 a.1 a.2) n a = some y → (Sum.elim (fun y : Sg => Go l m_X11_runPlain (d + 1) LAYM (.inl (some (.inl q.1))) q.2 70 [some (.inr 0), none, none] [] y) (fun r : (Int × Sg) => r = q)) y → (fun a : (Int × Sg) => Go l m_X11_runPlain (d + 1) LAYM (.inl (some (.inl q.1))) q.2 7 [some (.inr 0), some (.inl a.1), none] [] a.2) a := by
      skip
      refine go_iter (G := fun a : (Int × Sg) => Go l m_X11_runPlain (d + 1) LAYM (.inl (some (.inl q.1))) q.2 7 [some (.inr 0), some (.inl a.1), none] [] a.2) (K := Sum.elim (fun y : Sg => Go l m_X11_runPlain (d + 1) LAYM (.inl (some (.inl q.1))) q.2 70 [some (.inr 0), none, none] [] y) (fun r : (Int × Sg) => r = q)) ?_
      rintro ⟨x1, σ⟩ w h hK
      replace h : L_X11_runPlain_7 x1 σ = some w := h
      show Go l m_X11_runPlain (d + 1) LAYM (.inl (some (.inl q.1))) q.2 7 [some (.inr 0), some (.inl x1), none] [] σ
      unfold L_X11_runPlain_7 at h
      have hB_X11_runPlain_64 : ∀ (x1 : Int) (σ : Sg), B_X11_runPlain_64 x1 σ = some w → Go l m_X11_runPlain (d + 1) LAYM (.inl (some (.inl q.1))) q.2 64 [some (.inr 0), some (.inl x1), none] [] σ := by
        intro x1 σ h
        unfold B_X11_runPlain_64 at h
        refine go_ops ok_X11_runPlain_64_1 (L' := [some (.inr 0), some (.inl (wrap (x1 + 1))), none]) (st' := []) (σ1 := σ) rfl ?_
        refine go_goto dc_X11_runPlain_67 (by rfl) ?_
        cases h
        exact hK
      have hB_X11_runPlain_60 : ∀ (y0 : Bool) (y1 : Int) (σ : Sg), B_X11_runPlain_60 y0 y1 σ = some w → Go l m_X11_runPlain (d + 1) LAYM (.inl (some (.inl q.1))) q.2 60 [none, none, none] [.inl (b2i y0), .inl y1, .inr 0] σ := by
        intro y0 y1 σ h
        unfold B_X11_runPlain_60 at h
        obtain ⟨q9, e10, h⟩ := bind_inv h
        refine go_V (M1 := m_X11_end) (as := [.inl y1, .inl (b2i y0)]) (st := []) (k := 0) (ci := 11) dc_X11_runPlain_60 ln_11_357 im_X11_end (by decide) rfl rfl mk_X11_end rfl (Nat.le_of_ble_eq_true rfl) (Nat.le_refl _) (v := (some (.inl q9.1))) (σ1 := q9.2) (lk_X11_end l d (by omega) y1 y0 σ q9 e10) _ rfl ?_
        cases h
        have hK2 : _ = q := hK
        subst hK2
        exact go_iret dc_X11_runPlain_63 rfl
      have hB_X11_runPlain_42 : ∀ (x1 : Int) (y0 : Int) (σ : Sg), B_X11_runPlain_42 x1 y0 σ = some w → Go l m_X11_runPlain (d + 1) LAYM (.inl (some (.inl q.1))) q.2 42 [some (.inr 0), some (.inl x1), none] [.inl y0] σ := by
        intro x1 y0 σ h
        unfold B_X11_runPlain_42 at h
        refine go_ops ok_X11_runPlain_42_3 (L' := [some (.inr 0), some (.inl x1), some (.inl y0)]) (st' := [.inl 1, .inl y0]) (σ1 := σ) rfl ?_
        refine go_icmp_eq dc_X11_runPlain_45 (by rfl) (fun hc => ?_) (fun hc => ?_)
        · replace h := (if_pos hc).symm.trans h
          refine go_wk (L' := [some (.inr 0), some (.inl x1), none]) ⟨rfl, rfl, trivial⟩ ?_
          exact hB_X11_runPlain_64 x1 σ h
        · replace h := (if_neg hc).symm.trans h
          refine go_ops ok_X11_runPlain_48_4 (L' := [some (.inr 0), some (.inl x1), some (.inl y0)]) (st' := [.inl 2, .inl y0, .inl x1, .inr 0]) (σ1 := σ) rfl ?_
          refine go_icmp_ne dc_X11_runPlain_52 (by rfl) (fun hc => ?_) (fun hc => ?_)
          · replace h := (if_neg hc).symm.trans h
            refine go_ops ok_X11_runPlain_59_1 (L' := [some (.inr 0), some (.inl x1), some (.inl y0)]) (st' := [.inl 0, .inl x1, .inr 0]) (σ1 := σ) rfl ?_
            refine go_wk (L' := [none, none, none]) trivial ?_
            exact hB_X11_runPlain_60 false x1 σ h
          · replace h := (if_pos hc).symm.trans h
            refine go_ops ok_X11_runPlain_55_1 (L' := [some (.inr 0), some (.inl x1), some (.inl y0)]) (st' := [.inl 1, .inl x1, .inr 0]) (σ1 := σ) rfl ?_
            refine go_goto dc_X11_runPlain_56 (by rfl) ?_
            refine go_wk (L' := [none, none, none]) trivial ?_
            exact hB_X11_runPlain_60 true x1 σ h
      refine go_ops ok_X11_runPlain_7_3 (L' := [some (.inr 0), some (.inl x1), none]) (st' := [.inl (σ 0 23), .inl x1]) (σ1 := σ) rfl ?_
      refine go_icmp_ge dc_X11_runPlain_12 (by rfl) (fun hc => ?_) (fun hc => ?_)
      · replace h := (if_pos hc).symm.trans h
        cases h
        refine go_wk (L' := [some (.inr 0), none, none]) ⟨rfl, trivial⟩ ?_
        exact hK
      · replace h := (if_neg hc).symm.trans h
        refine go_ops ok_X11_runPlain_15_2 (L' := [some (.inr 0), some (.inl x1), none]) (st' := [.inl x1, .inr 0]) (σ1 := σ) rfl ?_
        obtain ⟨q3, e4, h⟩ := bind_inv h
        refine go_V (M1 := m_X11_tryCase) (as := [.inl x1]) (st := []) (k := 0) (ci := 11) dc_X11_runPlain_17 ln_11_333 im_X11_tryCase (by decide) rfl rfl mk_X11_tryCase rfl (Nat.le_of_ble_eq_true rfl) (Nat.le_refl _) (v := (some (.inl q3.1))) (σ1 := q3.2) (lk_X11_tryCase l d (by omega) x1 σ q3 e4) _ rfl ?_
        refine go_if_ne dc_X11_runPlain_20 (by rfl) (fun hc => ?_) (fun hc => ?_)
        · replace h := (if_neg hc).symm.trans h
          exact hB_X11_runPlain_64 x1 q3.2 h
        · replace h := (if_pos hc).symm.trans h
          refine go_ops ok_X11_runPlain_23_3 (L' := [some (.inr 0), some (.inl x1), none]) (st' := [.inl x1, .inr 22]) (σ1 := q3.2) rfl ?_
          obtain ⟨v5, e6, h⟩ := bind_inv h
          refine go_rd (k := 22) dc_X11_runPlain_28 rfl e6 ?_
          refine go_ops ok_X11_runPlain_29_1 (L' := [some (.inr 0), some (.inl x1), none]) (st' := [.inl (-1), .inl v5]) (σ1 := q3.2) rfl ?_
          refine go_icmp_ne dc_X11_runPlain_30 (by rfl) (fun hc => ?_) (fun hc => ?_)
          · replace h := (if_neg hc).symm.trans h
            refine go_ops ok_X11_runPlain_37_2 (L' := [some (.inr 0), some (.inl x1), none]) (st' := [.inl x1, .inr 0]) (σ1 := q3.2) rfl ?_
            obtain ⟨q7, e8, h⟩ := bind_inv h
            refine go_V (M1 := m_X11_guarded) (as := [.inl x1]) (st := []) (k := 0) (ci := 11) dc_X11_runPlain_39 ln_11_354 im_X11_guarded (by decide) rfl rfl mk_X11_guarded rfl (Nat.le_of_ble_eq_true rfl) (Nat.le_refl _) (v := (some (.inl q7.1))) (σ1 := q7.2) (lk_X11_guarded l d (by omega) x1 q3.2 q7 e8) _ rfl ?_
            exact hB_X11_runPlain_42 x1 q7.1 q7.2 h
          · replace h := (if_pos hc).symm.trans h
            refine go_ops ok_X11_runPlain_33_1 (L' := [some (.inr 0), some (.inl x1), none]) (st' := [.inl 0]) (σ1 := q3.2) rfl ?_
            refine go_goto dc_X11_runPlain_34 (by rfl) ?_
            exact hB_X11_runPlain_42 x1 0 q3.2 h
    refine go_ops ok_X11_runPlain_0_2 (L' := [some (.inr 0), none, none]) (st' := [.inl 1, .inr 0]) (σ1 := σ) rfl ?_
    obtain ⟨s1, e2, h⟩ := bnd_inv h
    refine go_pfb (b := true) (k := 0) (ci := 11) (sl := 40) dc_X11_runPlain_2 (by decide +kernel) (by decide) rfl rfl (by decide +kernel) (by decide +kernel) e2 ?_
    refine go_ops ok_X11_runPlain_5_2 (L' := [some (.inr 0), some (.inl 0), none]) (st' := []) (σ1 := s1) rfl ?_
    obtain ⟨y11, e12, h⟩ := bind_inv h
    refine hL_X11_runPlain_7  3000 (0, s1) y11 e12 ?_
    rcases y11 with z13 | r14
    rotate_left
    · show r14 = q
      cases h; rfl
    show Go l m_X11_runPlain (d + 1) LAYM (.inl (some (.inl q.1))) q.2 70 [some (.inr 0), none, none] [] z13
    rw [Sum.elim_inl] at h
    refine go_ops ok_X11_runPlain_70_3 (L' := [some (.inr 0), none, none]) (st' := [.inl 0, .inl (-1), .inr 0]) (σ1 := z13) rfl ?_
    obtain ⟨q15, e16, h⟩ := bind_inv h
    refine go_V (M1 := m_X11_end) (as := [.inl (-1), .inl 0]) (st := []) (k := 0) (ci := 11) dc_X11_runPlain_73 ln_11_357 im_X11_end (by decide) rfl rfl mk_X11_end rfl (Nat.le_of_ble_eq_true rfl) (Nat.le_refl _) (v := (some (.inl q15.1))) (σ1 := q15.2) (lk_X11_end l d (by omega) (-1) false z13 q15 e16) _ rfl ?_
    have h9 := Option.some.inj h
    subst h9
    exact go_iret dc_X11_runPlain_76 rfl
  have hf := go_ct (as := [.inr 0]) mk_X11_runPlain (by rfl) (Nat.le_of_ble_eq_true rfl) key
  exact hf
theorem dc_X11_bindBy_2 : decode m_X11_bindBy.2.2.1 2 = .ok (.putfield 261, 3) := by decide +kernel
theorem dc_X11_bindBy_12 : decode m_X11_bindBy.2.2.1 12 = .ok (.invokevirtual 333, 3) := by decide +kernel
theorem dc_X11_bindBy_16 : decode m_X11_bindBy.2.2.1 16 = .ok (.return_, 1) := by decide +kernel
theorem ok_X11_bindBy_0_2 : oks m_X11_bindBy.1 m_X11_bindBy.2.2.1 0 [(.aload_n 0, 1, (0, 0, 0)), (.iconst 0, 1, (0, 0, 0))] = true ∧ plen 0 [(.aload_n 0, 1, (0, 0, 0)), (.iconst 0, 1, (0, 0, 0))] = 2 := by decide +kernel
theorem ok_X11_bindBy_5_5 : oks m_X11_bindBy.1 m_X11_bindBy.2.2.1 5 [(.aload_n 0, 1, (0, 0, 0)), (.iload_n 2, 1, (0, 0, 0)), (.putfield 268, 3, (11, 41, 0)), (.aload_n 0, 1, (0, 0, 0)), (.iload_n 1, 1, (0, 0, 0))] = true ∧ plen 5 [(.aload_n 0, 1, (0, 0, 0)), (.iload_n 2, 1, (0, 0, 0)), (.putfield 268, 3, (11, 41, 0)), (.aload_n 0, 1, (0, 0, 0)), (.iload_n 1, 1, (0, 0, 0))] = 12 := by decide +kernel
theorem ok_X11_bindBy_15_1 : oks m_X11_bindBy.1 m_X11_bindBy.2.2.1 15 [(.pop, 1, (0, 0, 0))] = true ∧ plen 15 [(.pop, 1, (0, 0, 0))] = 16 := by decide +kernel
def F_X11_bindBy (a1 : Int) (a2 : Int) (σ : Sg) : Option Sg :=
bnd (up2 σ 0 40 0) fun s1 =>
bnd (up2 s1 0 41 a2) fun s3 =>
(F_X11_tryCase a1 s3).bind fun q5 =>
some q5.2
theorem lk_X11_bindBy (l : Launch) (d : Nat) (hd : 6 ≤ d) (a1 : Int) (a2 : Int) (σ : Sg) (q : Sg) (h : F_X11_bindBy a1 a2 σ = some q) : CT l d m_X11_bindBy.2.1 m_X11_bindBy.2.2.1 m_X11_bindBy.2.2.2.1 m_X11_bindBy.2.2.2.2 [.inr 0, .inl a1, .inl a2] (LAYM, σ) none (LAYM, q) := by
  obtain ⟨d, rfl⟩ : ∃ e, d = e + 1 := ⟨d - 1, by omega⟩
  have key : Go l m_X11_bindBy (d + 1) LAYM (.inl none) q 0 [some (.inr 0), some (.inl a1), some (.inl a2)] [] σ := by
    unfold F_X11_bindBy at h
    refine go_ops ok_X11_bindBy_0_2 (L' := [some (.inr 0), some (.inl a1), some (.inl a2)]) (st' := [.inl 0, .inr 0]) (σ1 := σ) rfl ?_
    obtain ⟨s1, e2, h⟩ := bnd_inv h
    refine go_pfb (b := false) (k := 0) (ci := 11) (sl := 40) dc_X11_bindBy_2 (by decide +kernel) (by decide) rfl rfl (by decide +kernel) (by decide +kernel) e2 ?_
    obtain ⟨s3, e4, h⟩ := bnd_inv h
    refine go_ops ok_X11_bindBy_5_5 (L' := [some (.inr 0), some (.inl a1), some (.inl a2)]) (st' := [.inl a1, .inr 0]) (σ1 := s3) (by subst e4; rfl) ?_
    obtain ⟨q5, e6, h⟩ := bind_inv h
    refine go_V (M1 := m_X11_tryCase) (as := [.inl a1]) (st := []) (k := 0) (ci := 11) dc_X11_bindBy_12 ln_11_333 im_X11_tryCase (by decide) rfl rfl mk_X11_tryCase rfl (Nat.le_of_ble_eq_true rfl) (Nat.le_refl _) (v := (some (.inl q5.1))) (σ1 := q5.2) (lk_X11_tryCase l d (by omega) a1 s3 q5 e6) _ rfl ?_
    refine go_ops ok_X11_bindBy_15_1 (L' := [some (.inr 0), some (.inl a1), some (.inl a2)]) (st' := []) (σ1 := q5.2) rfl ?_
    have h9 := Option.some.inj h
    subst h9
    exact go_vret dc_X11_bindBy_16 rfl
  have hf := go_ct (as := [.inr 0, .inl a1, .inl a2]) mk_X11_bindBy (by rfl) (Nat.le_of_ble_eq_true rfl) key
  exact hf
theorem dc_X11_runTree_7 : decode m_X11_runTree.2.2.1 7 = .ok (.iaload, 1) := by decide +kernel
theorem dc_X11_runTree_9 : decode m_X11_runTree.2.2.1 9 = .ok (.if_icmp .le 115, 3) := by decide +kernel
theorem dc_X11_runTree_19 : decode m_X11_runTree.2.2.1 19 = .ok (.iaload, 1) := by decide +kernel
theorem dc_X11_runTree_21 : decode m_X11_runTree.2.2.1 21 = .ok (.if_icmp .ne 36, 3) := by decide +kernel
theorem dc_X11_runTree_30 : decode m_X11_runTree.2.2.1 30 = .ok (.iaload, 1) := by decide +kernel
theorem dc_X11_runTree_32 : decode m_X11_runTree.2.2.1 32 = .ok (.invokevirtual 361, 3) := by decide +kernel
theorem dc_X11_runTree_41 : decode m_X11_runTree.2.2.1 41 = .ok (.iaload, 1) := by decide +kernel
theorem dc_X11_runTree_42 : decode m_X11_runTree.2.2.1 42 = .ok (.invokevirtual 354, 3) := by decide +kernel
theorem dc_X11_runTree_45 : decode m_X11_runTree.2.2.1 45 = .ok (.ifCond .ne 7, 3) := by decide +kernel
theorem dc_X11_runTree_49 : decode m_X11_runTree.2.2.1 49 = .ok (.goto 4, 3) := by decide +kernel
theorem dc_X11_runTree_54 : decode m_X11_runTree.2.2.1 54 = .ok (.goto 58, 3) := by decide +kernel
theorem dc_X11_runTree_59 : decode m_X11_runTree.2.2.1 59 = .ok (.putfield 261, 3) := by decide +kernel
theorem dc_X11_runTree_67 : decode m_X11_runTree.2.2.1 67 = .ok (.iaload, 1) := by decide +kernel
theorem dc_X11_runTree_69 : decode m_X11_runTree.2.2.1 69 = .ok (.if_icmp .ne 22, 3) := by decide +kernel
theorem dc_X11_runTree_78 : decode m_X11_runTree.2.2.1 78 = .ok (.iaload, 1) := by decide +kernel
theorem dc_X11_runTree_84 : decode m_X11_runTree.2.2.1 84 = .ok (.iaload, 1) := by decide +kernel
theorem dc_X11_runTree_85 : decode m_X11_runTree.2.2.1 85 = .ok (.invokevirtual 299, 3) := by decide +kernel
theorem dc_X11_runTree_88 : decode m_X11_runTree.2.2.1 88 = .ok (.goto 13, 3) := by decide +kernel
theorem dc_X11_runTree_97 : decode m_X11_runTree.2.2.1 97 = .ok (.iaload, 1) := by decide +kernel
theorem dc_X11_runTree_98 : decode m_X11_runTree.2.2.1 98 = .ok (.invokevirtual 265, 3) := by decide +kernel
theorem dc_X11_runTree_117 : decode m_X11_runTree.2.2.1 117 = .ok (.iaload, 1) := by decide +kernel
theorem dc_X11_runTree_121 : decode m_X11_runTree.2.2.1 121 = .ok (.goto (-119), 3) := by decide +kernel
theorem dc_X11_runTree_129 : decode m_X11_runTree.2.2.1 129 = .ok (.iaload, 1) := by decide +kernel
theorem dc_X11_runTree_131 : decode m_X11_runTree.2.2.1 131 = .ok (.if_icmp .ne 10, 3) := by decide +kernel
theorem dc_X11_runTree_137 : decode m_X11_runTree.2.2.1 137 = .ok (.invokevirtual 357, 3) := by decide +kernel
theorem dc_X11_runTree_140 : decode m_X11_runTree.2.2.1 140 = .ok (.ireturn, 1) := by decide +kernel
theorem dc_X11_runTree_147 : decode m_X11_runTree.2.2.1 147 = .ok (.iaload, 1) := by decide +kernel
theorem dc_X11_runTree_149 : decode m_X11_runTree.2.2.1 149 = .ok (.invokevirtual 361, 3) := by decide +kernel
theorem dc_X11_runTree_158 : decode m_X11_runTree.2.2.1 158 = .ok (.iaload, 1) := by decide +kernel
theorem dc_X11_runTree_164 : decode m_X11_runTree.2.2.1 164 = .ok (.iaload, 1) := by decide +kernel
theorem dc_X11_runTree_166 : decode m_X11_runTree.2.2.1 166 = .ok (.if_icmp .ne 7, 3) := by decide +kernel
theorem dc_X11_runTree_170 : decode m_X11_runTree.2.2.1 170 = .ok (.goto 4, 3) := by decide +kernel
theorem dc_X11_runTree_174 : decode m_X11_runTree.2.2.1 174 = .ok (.invokevirtual 357, 3) := by decide +kernel
theorem dc_X11_runTree_177 : decode m_X11_runTree.2.2.1 177 = .ok (.ireturn, 1) := by decide +kernel
theorem ok_X11_runTree_0_2 : oks m_X11_runTree.1 m_X11_runTree.2.2.1 0 [(.iconst 0, 1, (0, 0, 0)), (.istore_n 1, 1, (0, 0, 0))] = true ∧ plen 0 [(.iconst 0, 1, (0, 0, 0)), (.istore_n 1, 1, (0, 0, 0))] = 2 := by decide +kernel
theorem ok_X11_runTree_2_3 : oks m_X11_runTree.1 m_X11_runTree.2.2.1 2 [(.aload_n 0, 1, (0, 0, 0)), (.getfield 131, 3, (11, 58, 0)), (.iload_n 1, 1, (0, 0, 0))] = true ∧ plen 2 [(.aload_n 0, 1, (0, 0, 0)), (.getfield 131, 3, (11, 58, 0)), (.iload_n 1, 1, (0, 0, 0))] = 7 := by decide +kernel
theorem ok_X11_runTree_8_1 : oks m_X11_runTree.1 m_X11_runTree.2.2.1 8 [(.iconst 2, 1, (0, 0, 0))] = true ∧ plen 8 [(.iconst 2, 1, (0, 0, 0))] = 9 := by decide +kernel
theorem ok_X11_runTree_12_5 : oks m_X11_runTree.1 m_X11_runTree.2.2.1 12 [(.iconst 0, 1, (0, 0, 0)), (.istore_n 2, 1, (0, 0, 0)), (.aload_n 0, 1, (0, 0, 0)), (.getfield 131, 3, (11, 58, 0)), (.iload_n 1, 1, (0, 0, 0))] = true ∧ plen 12 [(.iconst 0, 1, (0, 0, 0)), (.istore_n 2, 1, (0, 0, 0)), (.aload_n 0, 1, (0, 0, 0)), (.getfield 131, 3, (11, 58, 0)), (.iload_n 1, 1, (0, 0, 0))] = 19 := by decide +kernel
theorem ok_X11_runTree_20_1 : oks m_X11_runTree.1 m_X11_runTree.2.2.1 20 [(.iconst 3, 1, (0, 0, 0))] = true ∧ plen 20 [(.iconst 3, 1, (0, 0, 0))] = 21 := by decide +kernel
theorem ok_X11_runTree_24_4 : oks m_X11_runTree.1 m_X11_runTree.2.2.1 24 [(.aload_n 0, 1, (0, 0, 0)), (.aload_n 0, 1, (0, 0, 0)), (.getfield 134, 3, (11, 59, 0)), (.iload_n 1, 1, (0, 0, 0))] = true ∧ plen 24 [(.aload_n 0, 1, (0, 0, 0)), (.aload_n 0, 1, (0, 0, 0)), (.getfield 134, 3, (11, 59, 0)), (.iload_n 1, 1, (0, 0, 0))] = 30 := by decide +kernel
theorem ok_X11_runTree_31_1 : oks m_X11_runTree.1 m_X11_runTree.2.2.1 31 [(.iload_n 1, 1, (0, 0, 0))] = true ∧ plen 31 [(.iload_n 1, 1, (0, 0, 0))] = 32 := by decide +kernel
theorem ok_X11_runTree_35_4 : oks m_X11_runTree.1 m_X11_runTree.2.2.1 35 [(.aload_n 0, 1, (0, 0, 0)), (.aload_n 0, 1, (0, 0, 0)), (.getfield 134, 3, (11, 59, 0)), (.iload_n 1, 1, (0, 0, 0))] = true ∧ plen 35 [(.aload_n 0, 1, (0, 0, 0)), (.aload_n 0, 1, (0, 0, 0)), (.getfield 134, 3, (11, 59, 0)), (.iload_n 1, 1, (0, 0, 0))] = 41 := by decide +kernel
theorem ok_X11_runTree_48_1 : oks m_X11_runTree.1 m_X11_runTree.2.2.1 48 [(.iconst 0, 1, (0, 0, 0))] = true ∧ plen 48 [(.iconst 0, 1, (0, 0, 0))] = 49 := by decide +kernel
theorem ok_X11_runTree_52_1 : oks m_X11_runTree.1 m_X11_runTree.2.2.1 52 [(.iconst 1, 1, (0, 0, 0))] = true ∧ plen 52 [(.iconst 1, 1, (0, 0, 0))] = 53 := by decide +kernel
theorem ok_X11_runTree_53_1 : oks m_X11_runTree.1 m_X11_runTree.2.2.1 53 [(.istore_n 2, 1, (0, 0, 0))] = true ∧ plen 53 [(.istore_n 2, 1, (0, 0, 0))] = 54 := by decide +kernel
theorem ok_X11_runTree_57_2 : oks m_X11_runTree.1 m_X11_runTree.2.2.1 57 [(.aload_n 0, 1, (0, 0, 0)), (.iconst 1, 1, (0, 0, 0))] = true ∧ plen 57 [(.aload_n 0, 1, (0, 0, 0)), (.iconst 1, 1, (0, 0, 0))] = 59 := by decide +kernel
theorem ok_X11_runTree_62_3 : oks m_X11_runTree.1 m_X11_runTree.2.2.1 62 [(.aload_n 0, 1, (0, 0, 0)), (.getfield 131, 3, (11, 58, 0)), (.iload_n 1, 1, (0, 0, 0))] = true ∧ plen 62 [(.aload_n 0, 1, (0, 0, 0)), (.getfield 131, 3, (11, 58, 0)), (.iload_n 1, 1, (0, 0, 0))] = 67 := by decide +kernel
theorem ok_X11_runTree_68_1 : oks m_X11_runTree.1 m_X11_runTree.2.2.1 68 [(.iconst 4, 1, (0, 0, 0))] = true ∧ plen 68 [(.iconst 4, 1, (0, 0, 0))] = 69 := by decide +kernel
theorem ok_X11_runTree_72_4 : oks m_X11_runTree.1 m_X11_runTree.2.2.1 72 [(.aload_n 0, 1, (0, 0, 0)), (.aload_n 0, 1, (0, 0, 0)), (.getfield 134, 3, (11, 59, 0)), (.iload_n 1, 1, (0, 0, 0))] = true ∧ plen 72 [(.aload_n 0, 1, (0, 0, 0)), (.aload_n 0, 1, (0, 0, 0)), (.getfield 134, 3, (11, 59, 0)), (.iload_n 1, 1, (0, 0, 0))] = 78 := by decide +kernel
theorem ok_X11_runTree_79_3 : oks m_X11_runTree.1 m_X11_runTree.2.2.1 79 [(.aload_n 0, 1, (0, 0, 0)), (.getfield 137, 3, (11, 60, 0)), (.iload_n 1, 1, (0, 0, 0))] = true ∧ plen 79 [(.aload_n 0, 1, (0, 0, 0)), (.getfield 137, 3, (11, 60, 0)), (.iload_n 1, 1, (0, 0, 0))] = 84 := by decide +kernel
theorem ok_X11_runTree_91_4 : oks m_X11_runTree.1 m_X11_runTree.2.2.1 91 [(.aload_n 0, 1, (0, 0, 0)), (.aload_n 0, 1, (0, 0, 0)), (.getfield 137, 3, (11, 60, 0)), (.iload_n 1, 1, (0, 0, 0))] = true ∧ plen 91 [(.aload_n 0, 1, (0, 0, 0)), (.aload_n 0, 1, (0, 0, 0)), (.getfield 137, 3, (11, 60, 0)), (.iload_n 1, 1, (0, 0, 0))] = 97 := by decide +kernel
theorem ok_X11_runTree_101_7 : oks m_X11_runTree.1 m_X11_runTree.2.2.1 101 [(.istore_n 2, 1, (0, 0, 0)), (.aload_n 0, 1, (0, 0, 0)), (.dup, 1, (0, 0, 0)), (.getfield 234, 3, (11, 47, 0)), (.iconst 1, 1, (0, 0, 0)), (.iadd, 1, (0, 0, 0)), (.putfield 234, 3, (11, 47, 0))] = true ∧ plen 101 [(.istore_n 2, 1, (0, 0, 0)), (.aload_n 0, 1, (0, 0, 0)), (.dup, 1, (0, 0, 0)), (.getfield 234, 3, (11, 47, 0)), (.iconst 1, 1, (0, 0, 0)), (.iadd, 1, (0, 0, 0)), (.putfield 234, 3, (11, 47, 0))] = 112 := by decide +kernel
theorem ok_X11_runTree_112_3 : oks m_X11_runTree.1 m_X11_runTree.2.2.1 112 [(.aload_n 0, 1, (0, 0, 0)), (.getfield 140, 3, (11, 61, 0)), (.iload_n 1, 1, (0, 0, 0))] = true ∧ plen 112 [(.aload_n 0, 1, (0, 0, 0)), (.getfield 140, 3, (11, 61, 0)), (.iload_n 1, 1, (0, 0, 0))] = 117 := by decide +kernel
theorem ok_X11_runTree_118_3 : oks m_X11_runTree.1 m_X11_runTree.2.2.1 118 [(.iload_n 2, 1, (0, 0, 0)), (.iadd, 1, (0, 0, 0)), (.istore_n 1, 1, (0, 0, 0))] = true ∧ plen 118 [(.iload_n 2, 1, (0, 0, 0)), (.iadd, 1, (0, 0, 0)), (.istore_n 1, 1, (0, 0, 0))] = 121 := by decide +kernel
theorem ok_X11_runTree_124_3 : oks m_X11_runTree.1 m_X11_runTree.2.2.1 124 [(.aload_n 0, 1, (0, 0, 0)), (.getfield 131, 3, (11, 58, 0)), (.iload_n 1, 1, (0, 0, 0))] = true ∧ plen 124 [(.aload_n 0, 1, (0, 0, 0)), (.getfield 131, 3, (11, 58, 0)), (.iload_n 1, 1, (0, 0, 0))] = 129 := by decide +kernel
theorem ok_X11_runTree_130_1 : oks m_X11_runTree.1 m_X11_runTree.2.2.1 130 [(.iconst 2, 1, (0, 0, 0))] = true ∧ plen 130 [(.iconst 2, 1, (0, 0, 0))] = 131 := by decide +kernel
theorem ok_X11_runTree_134_3 : oks m_X11_runTree.1 m_X11_runTree.2.2.1 134 [(.aload_n 0, 1, (0, 0, 0)), (.iconst (-1), 1, (0, 0, 0)), (.iconst 0, 1, (0, 0, 0))] = true ∧ plen 134 [(.aload_n 0, 1, (0, 0, 0)), (.iconst (-1), 1, (0, 0, 0)), (.iconst 0, 1, (0, 0, 0))] = 137 := by decide +kernel
theorem ok_X11_runTree_141_4 : oks m_X11_runTree.1 m_X11_runTree.2.2.1 141 [(.aload_n 0, 1, (0, 0, 0)), (.aload_n 0, 1, (0, 0, 0)), (.getfield 134, 3, (11, 59, 0)), (.iload_n 1, 1, (0, 0, 0))] = true ∧ plen 141 [(.aload_n 0, 1, (0, 0, 0)), (.aload_n 0, 1, (0, 0, 0)), (.getfield 134, 3, (11, 59, 0)), (.iload_n 1, 1, (0, 0, 0))] = 147 := by decide +kernel
theorem ok_X11_runTree_148_1 : oks m_X11_runTree.1 m_X11_runTree.2.2.1 148 [(.iload_n 1, 1, (0, 0, 0))] = true ∧ plen 148 [(.iload_n 1, 1, (0, 0, 0))] = 149 := by decide +kernel
theorem ok_X11_runTree_152_4 : oks m_X11_runTree.1 m_X11_runTree.2.2.1 152 [(.aload_n 0, 1, (0, 0, 0)), (.aload_n 0, 1, (0, 0, 0)), (.getfield 134, 3, (11, 59, 0)), (.iload_n 1, 1, (0, 0, 0))] = true ∧ plen 152 [(.aload_n 0, 1, (0, 0, 0)), (.aload_n 0, 1, (0, 0, 0)), (.getfield 134, 3, (11, 59, 0)), (.iload_n 1, 1, (0, 0, 0))] = 158 := by decide +kernel
theorem ok_X11_runTree_159_3 : oks m_X11_runTree.1 m_X11_runTree.2.2.1 159 [(.aload_n 0, 1, (0, 0, 0)), (.getfield 131, 3, (11, 58, 0)), (.iload_n 1, 1, (0, 0, 0))] = true ∧ plen 159 [(.aload_n 0, 1, (0, 0, 0)), (.getfield 131, 3, (11, 58, 0)), (.iload_n 1, 1, (0, 0, 0))] = 164 := by decide +kernel
theorem ok_X11_runTree_165_1 : oks m_X11_runTree.1 m_X11_runTree.2.2.1 165 [(.iconst 1, 1, (0, 0, 0))] = true ∧ plen 165 [(.iconst 1, 1, (0, 0, 0))] = 166 := by decide +kernel
theorem ok_X11_runTree_169_1 : oks m_X11_runTree.1 m_X11_runTree.2.2.1 169 [(.iconst 1, 1, (0, 0, 0))] = true ∧ plen 169 [(.iconst 1, 1, (0, 0, 0))] = 170 := by decide +kernel
theorem ok_X11_runTree_173_1 : oks m_X11_runTree.1 m_X11_runTree.2.2.1 173 [(.iconst 0, 1, (0, 0, 0))] = true ∧ plen 173 [(.iconst 0, 1, (0, 0, 0))] = 174 := by decide +kernel
def B_X11_runTree_112 (x1 : Int) (x2 : Int) (σ : Sg) : Option ((Int × Sg) ⊕ (Int × Sg)) :=
(rdn 512 σ 44 x1).bind fun v15 =>
bnd (wrap (v15 + x2)) fun v17 =>
some (.inl (v17, σ))
def B_X11_runTree_101 (x1 : Int) (y0 : Int) (σ : Sg) : Option ((Int × Sg) ⊕ (Int × Sg)) :=
bnd (up2 σ 0 47 (wrap ((σ 0 47) + 1))) fun s13 =>
B_X11_runTree_112 x1 y0 s13
def B_X11_runTree_53 (x1 : Int) (y0 : Bool) (σ : Sg) : Option ((Int × Sg) ⊕ (Int × Sg)) :=
B_X11_runTree_112 x1 (b2i y0) σ
def L_X11_runTree_2 (x1 : Int) (σ : Sg) : Option ((Int × Sg) ⊕ (Int × Sg)) :=
(rdn 512 σ 41 x1).bind fun v1 =>
if v1 ≤ 2 then
some (.inr (x1, σ))
else
(rdn 512 σ 41 x1).bind fun v3 =>
if v3 = 3 then
(rdn 512 σ 42 x1).bind fun v25 =>
(F_X11_bindBy v25 x1 σ).bind fun q27 =>
(rdn 512 q27 42 x1).bind fun v29 =>
(F_X11_guarded v29 q27).bind fun q31 =>
if q31.1 = 0 then
B_X11_runTree_53 x1 false q31.2
else
B_X11_runTree_53 x1 true q31.2
else
bnd (up2 σ 0 40 1) fun s5 =>
(rdn 512 s5 41 x1).bind fun v7 =>
if v7 = 4 then
(rdn 512 s5 42 x1).bind fun v19 =>
(rdn 512 s5 43 x1).bind fun v21 =>
(F_X11_gave v19 v21 s5).bind fun q23 =>
B_X11_runTree_101 x1 q23.1 q23.2
else
(rdn 512 s5 43 x1).bind fun v9 =>
(F_X11_headAt v9 s5).bind fun q11 =>
B_X11_runTree_101 x1 q11.1 q11.2
def B_X11_runTree_174 (y0 : Bool) (y1 : Int) (σ : Sg) : Option (Int × Sg) :=
(F_X11_end y1 y0 σ).bind fun q45 =>
some (q45.1, q45.2)
def F_X11_runTree (σ : Sg) : Option (Int × Sg) :=
(iter (fun a : (Int × Sg) => L_X11_runTree_2 a.1 a.2) 3000 (0, σ)).bind fun y33 =>
(rdn 512 y33.2 41 y33.1).bind fun v35 =>
if v35 = 2 then
(F_X11_end (-1) false y33.2).bind fun q47 =>
some (q47.1, q47.2)
else
(rdn 512 y33.2 42 y33.1).bind fun v37 =>
(F_X11_bindBy v37 y33.1 y33.2).bind fun q39 =>
(rdn 512 q39 42 y33.1).bind fun v41 =>
(rdn 512 q39 41 y33.1).bind fun v43 =>
if v43 = 1 then
B_X11_runTree_174 true v41 q39
else
B_X11_runTree_174 false v41 q39
theorem lk_X11_runTree (l : Launch) (d : Nat) (hd : 7 ≤ d) (σ : Sg) (q : (Int × Sg)) (h : F_X11_runTree σ = some q) : CT l d m_X11_runTree.2.1 m_X11_runTree.2.2.1 m_X11_runTree.2.2.2.1 m_X11_runTree.2.2.2.2 [.inr 0] (LAYM, σ) (some (.inl q.1)) (LAYM, q.2) := by
  obtain ⟨d, rfl⟩ : ∃ e, d = e + 1 := ⟨d - 1, by omega⟩
  have key : Go l m_X11_runTree (d + 1) LAYM (.inl (some (.inl q.1))) q.2 0 [some (.inr 0), none, none] [] σ := by
    unfold F_X11_runTree at h
    have hL_X11_runTree_2 : ∀ (n : Nat) (a : (Int × Sg)) (y : (Int × Sg)), iter (fun a : (Int × Sg) => L_X11_runTree_2 a.1 a.2) n a = some y → (fun y : (Int × Sg) => Go l m_X11_runTree (d + 1) LAYM (.inl (some (.inl q.1))) q.2 124 [some (.inr 0), some (.inl y.1), none] [] y.2) y → (fun a : (Int × Sg) => Go l m_X11_runTree (d + 1) LAYM (.inl (some (.inl q.1))) q.2 2 [some (.inr 0), some (.inl a.1), none] [] a.2) a := by
      skip
      refine go_iter (G := fun a : (Int × Sg) => Go l m_X11_runTree (d + 1) LAYM (.inl (some (.inl q.1))) q.2 2 [some (.inr 0), some (.inl a.1), none] [] a.2) (K := fun y : (Int × Sg) => Go l m_X11_runTree (d + 1) LAYM (.inl (some (.inl q.1))) q.2 124 [some (.inr 0), some (.inl y.1), none] [] y.2) ?_
      rintro ⟨x1, σ⟩ w h hK
      replace h : L_X11_runTree_2 x1 σ = some w := h
      show Go l m_X11_runTree (d + 1) LAYM (.inl (some (.inl q.1))) q.2 2 [some (.inr 0), some (.inl x1), none] [] σ
      unfold L_X11_runTree_2 at h
      have hB_X11_runTree_112 : ∀ (x1 : Int) (x2 : Int) (σ : Sg), B_X11_runTree_112 x1 x2 σ = some w → Go l m_X11_runTree (d + 1) LAYM (.inl (some (.inl q.1))) q.2 112 [some (.inr 0), some (.inl x1), some (.inl x2)] [] σ := by
        intro x1 x2 σ h
        unfold B_X11_runTree_112 at h
        refine go_ops ok_X11_runTree_112_3 (L' := [some (.inr 0), some (.inl x1), some (.inl x2)]) (st' := [.inl x1, .inr 44]) (σ1 := σ) rfl ?_
        obtain ⟨v15, e16, h⟩ := bind_inv h
        refine go_rd (k := 44) dc_X11_runTree_117 rfl e16 ?_
        obtain ⟨v17, e18, h⟩ := bnd_inv h
        refine go_ops ok_X11_runTree_118_3 (L' := [some (.inr 0), some (.inl v17), some (.inl x2)]) (st' := []) (σ1 := σ) (by subst e18; rfl) ?_
        refine go_goto dc_X11_runTree_121 (by rfl) ?_
        cases h
        refine go_wk (L' := [some (.inr 0), some (.inl v17), none]) ⟨rfl, rfl, trivial⟩ ?_
        exact hK
      have hB_X11_runTree_101 : ∀ (x1 : Int) (y0 : Int) (σ : Sg), B_X11_runTree_101 x1 y0 σ = some w → Go l m_X11_runTree (d + 1) LAYM (.inl (some (.inl q.1))) q.2 101 [some (.inr 0), some (.inl x1), none] [.inl y0] σ := by
        intro x1 y0 σ h
        unfold B_X11_runTree_101 at h
        obtain ⟨s13, e14, h⟩ := bnd_inv h
        refine go_ops ok_X11_runTree_101_7 (L' := [some (.inr 0), some (.inl x1), some (.inl y0)]) (st' := []) (σ1 := s13) (by subst e14; rfl) ?_
        exact hB_X11_runTree_112 x1 y0 s13 h
      have hB_X11_runTree_53 : ∀ (x1 : Int) (y0 : Bool) (σ : Sg), B_X11_runTree_53 x1 y0 σ = some w → Go l m_X11_runTree (d + 1) LAYM (.inl (some (.inl q.1))) q.2 53 [some (.inr 0), some (.inl x1), none] [.inl (b2i y0)] σ := by
        intro x1 y0 σ h
        unfold B_X11_runTree_53 at h
        refine go_ops ok_X11_runTree_53_1 (L' := [some (.inr 0), some (.inl x1), some (.inl (b2i y0))]) (st' := []) (σ1 := σ) rfl ?_
        refine go_goto dc_X11_runTree_54 (by rfl) ?_
        exact hB_X11_runTree_112 x1 (b2i y0) σ h
      refine go_ops ok_X11_runTree_2_3 (L' := [some (.inr 0), some (.inl x1), none]) (st' := [.inl x1, .inr 41]) (σ1 := σ) rfl ?_
      obtain ⟨v1, e2, h⟩ := bind_inv h
      refine go_rd (k := 41) dc_X11_runTree_7 rfl e2 ?_
      refine go_ops ok_X11_runTree_8_1 (L' := [some (.inr 0), some (.inl x1), none]) (st' := [.inl 2, .inl v1]) (σ1 := σ) rfl ?_
      refine go_icmp_le dc_X11_runTree_9 (by rfl) (fun hc => ?_) (fun hc => ?_)
      · replace h := (if_pos hc).symm.trans h
        cases h
        exact hK
      · replace h := (if_neg hc).symm.trans h
        refine go_ops ok_X11_runTree_12_5 (L' := [some (.inr 0), some (.inl x1), some (.inl 0)]) (st' := [.inl x1, .inr 41]) (σ1 := σ) rfl ?_
        obtain ⟨v3, e4, h⟩ := bind_inv h
        refine go_rd (k := 41) dc_X11_runTree_19 rfl e4 ?_
        refine go_ops ok_X11_runTree_20_1 (L' := [some (.inr 0), some (.inl x1), some (.inl 0)]) (st' := [.inl 3, .inl v3]) (σ1 := σ) rfl ?_
        refine go_icmp_ne dc_X11_runTree_21 (by rfl) (fun hc => ?_) (fun hc => ?_)
        · replace h := (if_neg hc).symm.trans h
          refine go_ops ok_X11_runTree_57_2 (L' := [some (.inr 0), some (.inl x1), some (.inl 0)]) (st' := [.inl 1, .inr 0]) (σ1 := σ) rfl ?_
          obtain ⟨s5, e6, h⟩ := bnd_inv h
          refine go_pfb (b := true) (k := 0) (ci := 11) (sl := 40) dc_X11_runTree_59 (by decide +kernel) (by decide) rfl rfl (by decide +kernel) (by decide +kernel) e6 ?_
          refine go_ops ok_X11_runTree_62_3 (L' := [some (.inr 0), some (.inl x1), some (.inl 0)]) (st' := [.inl x1, .inr 41]) (σ1 := s5) rfl ?_
          obtain ⟨v7, e8, h⟩ := bind_inv h
          refine go_rd (k := 41) dc_X11_runTree_67 rfl e8 ?_
          refine go_ops ok_X11_runTree_68_1 (L' := [some (.inr 0), some (.inl x1), some (.inl 0)]) (st' := [.inl 4, .inl v7]) (σ1 := s5) rfl ?_
          refine go_icmp_ne dc_X11_runTree_69 (by rfl) (fun hc => ?_) (fun hc => ?_)
          · replace h := (if_neg hc).symm.trans h
            refine go_ops ok_X11_runTree_91_4 (L' := [some (.inr 0), some (.inl x1), some (.inl 0)]) (st' := [.inl x1, .inr 43, .inr 0]) (σ1 := s5) rfl ?_
            obtain ⟨v9, e10, h⟩ := bind_inv h
            refine go_rd (k := 43) dc_X11_runTree_97 rfl e10 ?_
            obtain ⟨q11, e12, h⟩ := bind_inv h
            refine go_V (M1 := m_X11_headAt) (as := [.inl v9]) (st := []) (k := 0) (ci := 11) dc_X11_runTree_98 ln_11_265 im_X11_headAt (by decide) rfl rfl mk_X11_headAt rfl (Nat.le_of_ble_eq_true rfl) (Nat.le_refl _) (v := (some (.inl q11.1))) (σ1 := q11.2) (lk_X11_headAt l d (by omega) v9 s5 q11 e12) _ rfl ?_
            refine go_wk (L' := [some (.inr 0), some (.inl x1), none]) ⟨rfl, rfl, trivial⟩ ?_
            exact hB_X11_runTree_101 x1 q11.1 q11.2 h
          · replace h := (if_pos hc).symm.trans h
            refine go_ops ok_X11_runTree_72_4 (L' := [some (.inr 0), some (.inl x1), some (.inl 0)]) (st' := [.inl x1, .inr 42, .inr 0]) (σ1 := s5) rfl ?_
            obtain ⟨v19, e20, h⟩ := bind_inv h
            refine go_rd (k := 42) dc_X11_runTree_78 rfl e20 ?_
            refine go_ops ok_X11_runTree_79_3 (L' := [some (.inr 0), some (.inl x1), some (.inl 0)]) (st' := [.inl x1, .inr 43, .inl v19, .inr 0]) (σ1 := s5) rfl ?_
            obtain ⟨v21, e22, h⟩ := bind_inv h
            refine go_rd (k := 43) dc_X11_runTree_84 rfl e22 ?_
            obtain ⟨q23, e24, h⟩ := bind_inv h
            refine go_V (M1 := m_X11_gave) (as := [.inl v19, .inl v21]) (st := []) (k := 0) (ci := 11) dc_X11_runTree_85 ln_11_299 im_X11_gave (by decide) rfl rfl mk_X11_gave rfl (Nat.le_of_ble_eq_true rfl) (Nat.le_refl _) (v := (some (.inl q23.1))) (σ1 := q23.2) (lk_X11_gave l d (by omega) v19 v21 s5 q23 e24) _ rfl ?_
            refine go_goto dc_X11_runTree_88 (by rfl) ?_
            refine go_wk (L' := [some (.inr 0), some (.inl x1), none]) ⟨rfl, rfl, trivial⟩ ?_
            exact hB_X11_runTree_101 x1 q23.1 q23.2 h
        · replace h := (if_pos hc).symm.trans h
          refine go_ops ok_X11_runTree_24_4 (L' := [some (.inr 0), some (.inl x1), some (.inl 0)]) (st' := [.inl x1, .inr 42, .inr 0]) (σ1 := σ) rfl ?_
          obtain ⟨v25, e26, h⟩ := bind_inv h
          refine go_rd (k := 42) dc_X11_runTree_30 rfl e26 ?_
          refine go_ops ok_X11_runTree_31_1 (L' := [some (.inr 0), some (.inl x1), some (.inl 0)]) (st' := [.inl x1, .inl v25, .inr 0]) (σ1 := σ) rfl ?_
          obtain ⟨q27, e28, h⟩ := bind_inv h
          refine go_V (M1 := m_X11_bindBy) (as := [.inl v25, .inl x1]) (st := []) (k := 0) (ci := 11) dc_X11_runTree_32 ln_11_361 im_X11_bindBy (by decide) rfl rfl mk_X11_bindBy rfl (Nat.le_of_ble_eq_true rfl) (Nat.le_refl _) (v := none) (σ1 := q27) (lk_X11_bindBy l d (by omega) v25 x1 σ q27 e28) _ rfl ?_
          refine go_ops ok_X11_runTree_35_4 (L' := [some (.inr 0), some (.inl x1), some (.inl 0)]) (st' := [.inl x1, .inr 42, .inr 0]) (σ1 := q27) rfl ?_
          obtain ⟨v29, e30, h⟩ := bind_inv h
          refine go_rd (k := 42) dc_X11_runTree_41 rfl e30 ?_
          obtain ⟨q31, e32, h⟩ := bind_inv h
          refine go_V (M1 := m_X11_guarded) (as := [.inl v29]) (st := []) (k := 0) (ci := 11) dc_X11_runTree_42 ln_11_354 im_X11_guarded (by decide) rfl rfl mk_X11_guarded rfl (Nat.le_of_ble_eq_true rfl) (Nat.le_refl _) (v := (some (.inl q31.1))) (σ1 := q31.2) (lk_X11_guarded l d (by omega) v29 q27 q31 e32) _ rfl ?_
          refine go_if_ne dc_X11_runTree_45 (by rfl) (fun hc => ?_) (fun hc => ?_)
          · replace h := (if_neg hc).symm.trans h
            refine go_ops ok_X11_runTree_52_1 (L' := [some (.inr 0), some (.inl x1), some (.inl 0)]) (st' := [.inl 1]) (σ1 := q31.2) rfl ?_
            refine go_wk (L' := [some (.inr 0), some (.inl x1), none]) ⟨rfl, rfl, trivial⟩ ?_
            exact hB_X11_runTree_53 x1 true q31.2 h
          · replace h := (if_pos hc).symm.trans h
            refine go_ops ok_X11_runTree_48_1 (L' := [some (.inr 0), some (.inl x1), some (.inl 0)]) (st' := [.inl 0]) (σ1 := q31.2) rfl ?_
            refine go_goto dc_X11_runTree_49 (by rfl) ?_
            refine go_wk (L' := [some (.inr 0), some (.inl x1), none]) ⟨rfl, rfl, trivial⟩ ?_
            exact hB_X11_runTree_53 x1 false q31.2 h
    have hB_X11_runTree_174 : ∀ (y0 : Bool) (y1 : Int) (σ : Sg), B_X11_runTree_174 y0 y1 σ = some q → Go l m_X11_runTree (d + 1) LAYM (.inl (some (.inl q.1))) q.2 174 [none, none, none] [.inl (b2i y0), .inl y1, .inr 0] σ := by
      intro y0 y1 σ h
      unfold B_X11_runTree_174 at h
      obtain ⟨q45, e46, h⟩ := bind_inv h
      refine go_V (M1 := m_X11_end) (as := [.inl y1, .inl (b2i y0)]) (st := []) (k := 0) (ci := 11) dc_X11_runTree_174 ln_11_357 im_X11_end (by decide) rfl rfl mk_X11_end rfl (Nat.le_of_ble_eq_true rfl) (Nat.le_refl _) (v := (some (.inl q45.1))) (σ1 := q45.2) (lk_X11_end l d (by omega) y1 y0 σ q45 e46) _ rfl ?_
      have h9 := Option.some.inj h
      subst h9
      exact go_iret dc_X11_runTree_177 rfl
    refine go_ops ok_X11_runTree_0_2 (L' := [some (.inr 0), some (.inl 0), none]) (st' := []) (σ1 := σ) rfl ?_
    obtain ⟨y33, e34, h⟩ := bind_inv h
    refine hL_X11_runTree_2  3000 (0, σ) y33 e34 ?_
    show Go l m_X11_runTree (d + 1) LAYM (.inl (some (.inl q.1))) q.2 124 [some (.inr 0), some (.inl y33.1), none] [] y33.2
    refine go_ops ok_X11_runTree_124_3 (L' := [some (.inr 0), some (.inl y33.1), none]) (st' := [.inl y33.1, .inr 41]) (σ1 := y33.2) rfl ?_
    obtain ⟨v35, e36, h⟩ := bind_inv h
    refine go_rd (k := 41) dc_X11_runTree_129 rfl e36 ?_
    refine go_ops ok_X11_runTree_130_1 (L' := [some (.inr 0), some (.inl y33.1), none]) (st' := [.inl 2, .inl v35]) (σ1 := y33.2) rfl ?_
    refine go_icmp_ne dc_X11_runTree_131 (by rfl) (fun hc => ?_) (fun hc => ?_)
    · replace h := (if_neg hc).symm.trans h
      refine go_ops ok_X11_runTree_141_4 (L' := [some (.inr 0), some (.inl y33.1), none]) (st' := [.inl y33.1, .inr 42, .inr 0]) (σ1 := y33.2) rfl ?_
      obtain ⟨v37, e38, h⟩ := bind_inv h
      refine go_rd (k := 42) dc_X11_runTree_147 rfl e38 ?_
      refine go_ops ok_X11_runTree_148_1 (L' := [some (.inr 0), some (.inl y33.1), none]) (st' := [.inl y33.1, .inl v37, .inr 0]) (σ1 := y33.2) rfl ?_
      obtain ⟨q39, e40, h⟩ := bind_inv h
      refine go_V (M1 := m_X11_bindBy) (as := [.inl v37, .inl y33.1]) (st := []) (k := 0) (ci := 11) dc_X11_runTree_149 ln_11_361 im_X11_bindBy (by decide) rfl rfl mk_X11_bindBy rfl (Nat.le_of_ble_eq_true rfl) (Nat.le_refl _) (v := none) (σ1 := q39) (lk_X11_bindBy l d (by omega) v37 y33.1 y33.2 q39 e40) _ rfl ?_
      refine go_ops ok_X11_runTree_152_4 (L' := [some (.inr 0), some (.inl y33.1), none]) (st' := [.inl y33.1, .inr 42, .inr 0]) (σ1 := q39) rfl ?_
      obtain ⟨v41, e42, h⟩ := bind_inv h
      refine go_rd (k := 42) dc_X11_runTree_158 rfl e42 ?_
      refine go_ops ok_X11_runTree_159_3 (L' := [some (.inr 0), some (.inl y33.1), none]) (st' := [.inl y33.1, .inr 41, .inl v41, .inr 0]) (σ1 := q39) rfl ?_
      obtain ⟨v43, e44, h⟩ := bind_inv h
      refine go_rd (k := 41) dc_X11_runTree_164 rfl e44 ?_
      refine go_ops ok_X11_runTree_165_1 (L' := [some (.inr 0), some (.inl y33.1), none]) (st' := [.inl 1, .inl v43, .inl v41, .inr 0]) (σ1 := q39) rfl ?_
      refine go_icmp_ne dc_X11_runTree_166 (by rfl) (fun hc => ?_) (fun hc => ?_)
      · replace h := (if_neg hc).symm.trans h
        refine go_ops ok_X11_runTree_173_1 (L' := [some (.inr 0), some (.inl y33.1), none]) (st' := [.inl 0, .inl v41, .inr 0]) (σ1 := q39) rfl ?_
        refine go_wk (L' := [none, none, none]) trivial ?_
        exact hB_X11_runTree_174 false v41 q39 h
      · replace h := (if_pos hc).symm.trans h
        refine go_ops ok_X11_runTree_169_1 (L' := [some (.inr 0), some (.inl y33.1), none]) (st' := [.inl 1, .inl v41, .inr 0]) (σ1 := q39) rfl ?_
        refine go_goto dc_X11_runTree_170 (by rfl) ?_
        refine go_wk (L' := [none, none, none]) trivial ?_
        exact hB_X11_runTree_174 true v41 q39 h
    · replace h := (if_pos hc).symm.trans h
      refine go_ops ok_X11_runTree_134_3 (L' := [some (.inr 0), some (.inl y33.1), none]) (st' := [.inl 0, .inl (-1), .inr 0]) (σ1 := y33.2) rfl ?_
      obtain ⟨q47, e48, h⟩ := bind_inv h
      refine go_V (M1 := m_X11_end) (as := [.inl (-1), .inl 0]) (st := []) (k := 0) (ci := 11) dc_X11_runTree_137 ln_11_357 im_X11_end (by decide) rfl rfl mk_X11_end rfl (Nat.le_of_ble_eq_true rfl) (Nat.le_refl _) (v := (some (.inl q47.1))) (σ1 := q47.2) (lk_X11_end l d (by omega) (-1) false y33.2 q47 e48) _ rfl ?_
      have h9 := Option.some.inj h
      subst h9
      exact go_iret dc_X11_runTree_140 rfl
  have hf := go_ct (as := [.inr 0]) mk_X11_runTree (by rfl) (Nat.le_of_ble_eq_true rfl) key
  exact hf
theorem dc_X11_run_3 : decode m_X11_run.2.2.1 3 = .ok (.invokestatic 171, 3) := by decide +kernel
theorem dc_X11_run_17 : decode m_X11_run.2.2.1 17 = .ok (.if_icmp .ge 112, 3) := by decide +kernel
theorem dc_X11_run_26 : decode m_X11_run.2.2.1 26 = .ok (.invokestatic 175, 3) := by decide +kernel
theorem dc_X11_run_40 : decode m_X11_run.2.2.1 40 = .ok (.invokestatic 171, 3) := by decide +kernel
theorem dc_X11_run_47 : decode m_X11_run.2.2.1 47 = .ok (.ifCond .eq 21, 3) := by decide +kernel
theorem dc_X11_run_56 : decode m_X11_run.2.2.1 56 = .ok (.if_icmp .ge 8, 3) := by decide +kernel
theorem dc_X11_run_61 : decode m_X11_run.2.2.1 61 = .ok (.ifCond .eq 7, 3) := by decide +kernel
theorem dc_X11_run_65 : decode m_X11_run.2.2.1 65 = .ok (.goto 4, 3) := by decide +kernel
theorem dc_X11_run_73 : decode m_X11_run.2.2.1 73 = .ok (.ifCond .eq 47, 3) := by decide +kernel
theorem dc_X11_run_82 : decode m_X11_run.2.2.1 82 = .ok (.if_icmp .ge 28, 3) := by decide +kernel
theorem dc_X11_run_87 : decode m_X11_run.2.2.1 87 = .ok (.ifCond .eq 33, 3) := by decide +kernel
theorem dc_X11_run_96 : decode m_X11_run.2.2.1 96 = .ok (.iaload, 1) := by decide +kernel
theorem dc_X11_run_103 : decode m_X11_run.2.2.1 103 = .ok (.iaload, 1) := by decide +kernel
theorem dc_X11_run_104 : decode m_X11_run.2.2.1 104 = .ok (.if_icmp .ne 16, 3) := by decide +kernel
theorem dc_X11_run_107 : decode m_X11_run.2.2.1 107 = .ok (.goto 9, 3) := by decide +kernel
theorem dc_X11_run_113 : decode m_X11_run.2.2.1 113 = .ok (.if_icmp .ne 7, 3) := by decide +kernel
theorem dc_X11_run_117 : decode m_X11_run.2.2.1 117 = .ok (.goto 4, 3) := by decide +kernel
theorem dc_X11_run_126 : decode m_X11_run.2.2.1 126 = .ok (.goto (-112), 3) := by decide +kernel
theorem dc_X11_run_131 : decode m_X11_run.2.2.1 131 = .ok (.ifCond .eq 25, 3) := by decide +kernel
theorem dc_X11_run_136 : decode m_X11_run.2.2.1 136 = .ok (.ifCond .eq 20, 3) := by decide +kernel
theorem dc_X11_run_143 : decode m_X11_run.2.2.1 143 = .ok (.ifCond .le 13, 3) := by decide +kernel
theorem dc_X11_run_148 : decode m_X11_run.2.2.1 148 = .ok (.if_icmp .lt 8, 3) := by decide +kernel
theorem dc_X11_run_153 : decode m_X11_run.2.2.1 153 = .ok (.invokevirtual 364, 3) := by decide +kernel
theorem dc_X11_run_160 : decode m_X11_run.2.2.1 160 = .ok (.ifCond .le 29, 3) := by decide +kernel
theorem dc_X11_run_165 : decode m_X11_run.2.2.1 165 = .ok (.ifCond .eq 20, 3) := by decide +kernel
theorem dc_X11_run_170 : decode m_X11_run.2.2.1 170 = .ok (.ifCond .eq 15, 3) := by decide +kernel
theorem dc_X11_run_175 : decode m_X11_run.2.2.1 175 = .ok (.if_icmp .lt 10, 3) := by decide +kernel
theorem dc_X11_run_182 : decode m_X11_run.2.2.1 182 = .ok (.ifCond .ne 7, 3) := by decide +kernel
theorem dc_X11_run_186 : decode m_X11_run.2.2.1 186 = .ok (.goto 4, 3) := by decide +kernel
theorem dc_X11_run_195 : decode m_X11_run.2.2.1 195 = .ok (.ifCond .ne 7, 3) := by decide +kernel
theorem dc_X11_run_199 : decode m_X11_run.2.2.1 199 = .ok (.goto 22, 3) := by decide +kernel
theorem dc_X11_run_204 : decode m_X11_run.2.2.1 204 = .ok (.ifCond .ne 7, 3) := by decide +kernel
theorem dc_X11_run_208 : decode m_X11_run.2.2.1 208 = .ok (.goto 13, 3) := by decide +kernel
theorem dc_X11_run_213 : decode m_X11_run.2.2.1 213 = .ok (.ifCond .eq 7, 3) := by decide +kernel
theorem dc_X11_run_217 : decode m_X11_run.2.2.1 217 = .ok (.goto 4, 3) := by decide +kernel
theorem dc_X11_run_221 : decode m_X11_run.2.2.1 221 = .ok (.invokevirtual 183, 3) := by decide +kernel
theorem dc_X11_run_224 : decode m_X11_run.2.2.1 224 = .ok (.ifCond .eq 5, 3) := by decide +kernel
theorem dc_X11_run_228 : decode m_X11_run.2.2.1 228 = .ok (.ireturn, 1) := by decide +kernel
theorem dc_X11_run_238 : decode m_X11_run.2.2.1 238 = .ok (.if_icmp .ge 25, 3) := by decide +kernel
theorem dc_X11_run_253 : decode m_X11_run.2.2.1 253 = .ok (.invokestatic 175, 3) := by decide +kernel
theorem dc_X11_run_256 : decode m_X11_run.2.2.1 256 = .ok (.iastore, 1) := by decide +kernel
theorem dc_X11_run_260 : decode m_X11_run.2.2.1 260 = .ok (.goto (-28), 3) := by decide +kernel
theorem dc_X11_run_275 : decode m_X11_run.2.2.1 275 = .ok (.if_icmp .lt 10, 3) := by decide +kernel
theorem dc_X11_run_279 : decode m_X11_run.2.2.1 279 = .ok (.invokevirtual 367, 3) := by decide +kernel
theorem dc_X11_run_282 : decode m_X11_run.2.2.1 282 = .ok (.goto 7, 3) := by decide +kernel
theorem dc_X11_run_286 : decode m_X11_run.2.2.1 286 = .ok (.invokevirtual 370, 3) := by decide +kernel
theorem dc_X11_run_289 : decode m_X11_run.2.2.1 289 = .ok (.ireturn, 1) := by decide +kernel
theorem ok_X11_run_0_3 : oks m_X11_run.1 m_X11_run.2.2.1 0 [(.iload_n 1, 1, (0, 0, 0)), (.iconst 0, 1, (0, 0, 0)), (.iconst 3, 1, (0, 0, 0))] = true ∧ plen 0 [(.iload_n 1, 1, (0, 0, 0)), (.iconst 0, 1, (0, 0, 0)), (.iconst 3, 1, (0, 0, 0))] = 3 := by decide +kernel
theorem ok_X11_run_6_5 : oks m_X11_run.1 m_X11_run.2.2.1 6 [(.istore 5, 2, (0, 0, 0)), (.iconst 1, 1, (0, 0, 0)), (.istore 6, 2, (0, 0, 0)), (.iconst 0, 1, (0, 0, 0)), (.istore 7, 2, (0, 0, 0))] = true ∧ plen 6 [(.istore 5, 2, (0, 0, 0)), (.iconst 1, 1, (0, 0, 0)), (.istore 6, 2, (0, 0, 0)), (.iconst 0, 1, (0, 0, 0)), (.istore 7, 2, (0, 0, 0))] = 14 := by decide +kernel
theorem ok_X11_run_14_2 : oks m_X11_run.1 m_X11_run.2.2.1 14 [(.iload 7, 2, (0, 0, 0)), (.iconst 3, 1, (0, 0, 0))] = true ∧ plen 14 [(.iload 7, 2, (0, 0, 0)), (.iconst 3, 1, (0, 0, 0))] = 17 := by decide +kernel
theorem ok_X11_run_20_4 : oks m_X11_run.1 m_X11_run.2.2.1 20 [(.iload_n 2, 1, (0, 0, 0)), (.iload_n 3, 1, (0, 0, 0)), (.iload 4, 2, (0, 0, 0)), (.iload 7, 2, (0, 0, 0))] = true ∧ plen 20 [(.iload_n 2, 1, (0, 0, 0)), (.iload_n 3, 1, (0, 0, 0)), (.iload 4, 2, (0, 0, 0)), (.iload 7, 2, (0, 0, 0))] = 26 := by decide +kernel
theorem ok_X11_run_29_7 : oks m_X11_run.1 m_X11_run.2.2.1 29 [(.istore 8, 2, (0, 0, 0)), (.iload 8, 2, (0, 0, 0)), (.iconst 0, 1, (0, 0, 0)), (.aload_n 0, 1, (0, 0, 0)), (.getfield 186, 3, (11, 4, 0)), (.iconst 1, 1, (0, 0, 0)), (.isub, 1, (0, 0, 0))] = true ∧ plen 29 [(.istore 8, 2, (0, 0, 0)), (.iload 8, 2, (0, 0, 0)), (.iconst 0, 1, (0, 0, 0)), (.aload_n 0, 1, (0, 0, 0)), (.getfield 186, 3, (11, 4, 0)), (.iconst 1, 1, (0, 0, 0)), (.isub, 1, (0, 0, 0))] = 40 := by decide +kernel
theorem ok_X11_run_43_2 : oks m_X11_run.1 m_X11_run.2.2.1 43 [(.istore 9, 2, (0, 0, 0)), (.iload 5, 2, (0, 0, 0))] = true ∧ plen 43 [(.istore 9, 2, (0, 0, 0)), (.iload 5, 2, (0, 0, 0))] = 47 := by decide +kernel
theorem ok_X11_run_50_3 : oks m_X11_run.1 m_X11_run.2.2.1 50 [(.iload 7, 2, (0, 0, 0)), (.aload_n 0, 1, (0, 0, 0)), (.getfield 231, 3, (11, 21, 0))] = true ∧ plen 50 [(.iload 7, 2, (0, 0, 0)), (.aload_n 0, 1, (0, 0, 0)), (.getfield 231, 3, (11, 21, 0))] = 56 := by decide +kernel
theorem ok_X11_run_59_1 : oks m_X11_run.1 m_X11_run.2.2.1 59 [(.iload 9, 2, (0, 0, 0))] = true ∧ plen 59 [(.iload 9, 2, (0, 0, 0))] = 61 := by decide +kernel
theorem ok_X11_run_64_1 : oks m_X11_run.1 m_X11_run.2.2.1 64 [(.iconst 1, 1, (0, 0, 0))] = true ∧ plen 64 [(.iconst 1, 1, (0, 0, 0))] = 65 := by decide +kernel
theorem ok_X11_run_68_1 : oks m_X11_run.1 m_X11_run.2.2.1 68 [(.iconst 0, 1, (0, 0, 0))] = true ∧ plen 68 [(.iconst 0, 1, (0, 0, 0))] = 69 := by decide +kernel
theorem ok_X11_run_69_2 : oks m_X11_run.1 m_X11_run.2.2.1 69 [(.istore 5, 2, (0, 0, 0)), (.iload 6, 2, (0, 0, 0))] = true ∧ plen 69 [(.istore 5, 2, (0, 0, 0)), (.iload 6, 2, (0, 0, 0))] = 73 := by decide +kernel
theorem ok_X11_run_76_3 : oks m_X11_run.1 m_X11_run.2.2.1 76 [(.iload 7, 2, (0, 0, 0)), (.aload_n 0, 1, (0, 0, 0)), (.getfield 231, 3, (11, 21, 0))] = true ∧ plen 76 [(.iload 7, 2, (0, 0, 0)), (.aload_n 0, 1, (0, 0, 0)), (.getfield 231, 3, (11, 21, 0))] = 82 := by decide +kernel
theorem ok_X11_run_85_1 : oks m_X11_run.1 m_X11_run.2.2.1 85 [(.iload 9, 2, (0, 0, 0))] = true ∧ plen 85 [(.iload 9, 2, (0, 0, 0))] = 87 := by decide +kernel
theorem ok_X11_run_90_3 : oks m_X11_run.1 m_X11_run.2.2.1 90 [(.aload_n 0, 1, (0, 0, 0)), (.getfield 19, 3, (11, 5, 0)), (.iload 8, 2, (0, 0, 0))] = true ∧ plen 90 [(.aload_n 0, 1, (0, 0, 0)), (.getfield 19, 3, (11, 5, 0)), (.iload 8, 2, (0, 0, 0))] = 96 := by decide +kernel
theorem ok_X11_run_97_3 : oks m_X11_run.1 m_X11_run.2.2.1 97 [(.aload_n 0, 1, (0, 0, 0)), (.getfield 65, 3, (11, 22, 0)), (.iload 7, 2, (0, 0, 0))] = true ∧ plen 97 [(.aload_n 0, 1, (0, 0, 0)), (.getfield 65, 3, (11, 22, 0)), (.iload 7, 2, (0, 0, 0))] = 103 := by decide +kernel
theorem ok_X11_run_110_2 : oks m_X11_run.1 m_X11_run.2.2.1 110 [(.iload 8, 2, (0, 0, 0)), (.iconst (-1), 1, (0, 0, 0))] = true ∧ plen 110 [(.iload 8, 2, (0, 0, 0)), (.iconst (-1), 1, (0, 0, 0))] = 113 := by decide +kernel
theorem ok_X11_run_116_1 : oks m_X11_run.1 m_X11_run.2.2.1 116 [(.iconst 1, 1, (0, 0, 0))] = true ∧ plen 116 [(.iconst 1, 1, (0, 0, 0))] = 117 := by decide +kernel
theorem ok_X11_run_120_1 : oks m_X11_run.1 m_X11_run.2.2.1 120 [(.iconst 0, 1, (0, 0, 0))] = true ∧ plen 120 [(.iconst 0, 1, (0, 0, 0))] = 121 := by decide +kernel
theorem ok_X11_run_121_2 : oks m_X11_run.1 m_X11_run.2.2.1 121 [(.istore 6, 2, (0, 0, 0)), (.iinc 7 1, 3, (0, 0, 0))] = true ∧ plen 121 [(.istore 6, 2, (0, 0, 0)), (.iinc 7 1, 3, (0, 0, 0))] = 126 := by decide +kernel
theorem ok_X11_run_129_1 : oks m_X11_run.1 m_X11_run.2.2.1 129 [(.iload 5, 2, (0, 0, 0))] = true ∧ plen 129 [(.iload 5, 2, (0, 0, 0))] = 131 := by decide +kernel
theorem ok_X11_run_134_1 : oks m_X11_run.1 m_X11_run.2.2.1 134 [(.iload 6, 2, (0, 0, 0))] = true ∧ plen 134 [(.iload 6, 2, (0, 0, 0))] = 136 := by decide +kernel
theorem ok_X11_run_139_2 : oks m_X11_run.1 m_X11_run.2.2.1 139 [(.aload_n 0, 1, (0, 0, 0)), (.getfield 231, 3, (11, 21, 0))] = true ∧ plen 139 [(.aload_n 0, 1, (0, 0, 0)), (.getfield 231, 3, (11, 21, 0))] = 143 := by decide +kernel
theorem ok_X11_run_146_2 : oks m_X11_run.1 m_X11_run.2.2.1 146 [(.iload_n 1, 1, (0, 0, 0)), (.iconst 2, 1, (0, 0, 0))] = true ∧ plen 146 [(.iload_n 1, 1, (0, 0, 0)), (.iconst 2, 1, (0, 0, 0))] = 148 := by decide +kernel
theorem ok_X11_run_151_2 : oks m_X11_run.1 m_X11_run.2.2.1 151 [(.aload_n 0, 1, (0, 0, 0)), (.iload_n 1, 1, (0, 0, 0))] = true ∧ plen 151 [(.aload_n 0, 1, (0, 0, 0)), (.iload_n 1, 1, (0, 0, 0))] = 153 := by decide +kernel
theorem ok_X11_run_156_2 : oks m_X11_run.1 m_X11_run.2.2.1 156 [(.aload_n 0, 1, (0, 0, 0)), (.getfield 231, 3, (11, 21, 0))] = true ∧ plen 156 [(.aload_n 0, 1, (0, 0, 0)), (.getfield 231, 3, (11, 21, 0))] = 160 := by decide +kernel
theorem ok_X11_run_163_1 : oks m_X11_run.1 m_X11_run.2.2.1 163 [(.iload 5, 2, (0, 0, 0))] = true ∧ plen 163 [(.iload 5, 2, (0, 0, 0))] = 165 := by decide +kernel
theorem ok_X11_run_168_1 : oks m_X11_run.1 m_X11_run.2.2.1 168 [(.iload 6, 2, (0, 0, 0))] = true ∧ plen 168 [(.iload 6, 2, (0, 0, 0))] = 170 := by decide +kernel
theorem ok_X11_run_173_2 : oks m_X11_run.1 m_X11_run.2.2.1 173 [(.iload_n 1, 1, (0, 0, 0)), (.iconst 2, 1, (0, 0, 0))] = true ∧ plen 173 [(.iload_n 1, 1, (0, 0, 0)), (.iconst 2, 1, (0, 0, 0))] = 175 := by decide +kernel
theorem ok_X11_run_178_2 : oks m_X11_run.1 m_X11_run.2.2.1 178 [(.aload_n 0, 1, (0, 0, 0)), (.getfield 348, 3, (11, 55, 0))] = true ∧ plen 178 [(.aload_n 0, 1, (0, 0, 0)), (.getfield 348, 3, (11, 55, 0))] = 182 := by decide +kernel
theorem ok_X11_run_185_1 : oks m_X11_run.1 m_X11_run.2.2.1 185 [(.iconst 1, 1, (0, 0, 0))] = true ∧ plen 185 [(.iconst 1, 1, (0, 0, 0))] = 186 := by decide +kernel
theorem ok_X11_run_189_1 : oks m_X11_run.1 m_X11_run.2.2.1 189 [(.iconst 0, 1, (0, 0, 0))] = true ∧ plen 189 [(.iconst 0, 1, (0, 0, 0))] = 190 := by decide +kernel
theorem ok_X11_run_190_3 : oks m_X11_run.1 m_X11_run.2.2.1 190 [(.istore 7, 2, (0, 0, 0)), (.aload_n 0, 1, (0, 0, 0)), (.iload 5, 2, (0, 0, 0))] = true ∧ plen 190 [(.istore 7, 2, (0, 0, 0)), (.aload_n 0, 1, (0, 0, 0)), (.iload 5, 2, (0, 0, 0))] = 195 := by decide +kernel
theorem ok_X11_run_198_1 : oks m_X11_run.1 m_X11_run.2.2.1 198 [(.iconst 1, 1, (0, 0, 0))] = true ∧ plen 198 [(.iconst 1, 1, (0, 0, 0))] = 199 := by decide +kernel
theorem ok_X11_run_202_1 : oks m_X11_run.1 m_X11_run.2.2.1 202 [(.iload 6, 2, (0, 0, 0))] = true ∧ plen 202 [(.iload 6, 2, (0, 0, 0))] = 204 := by decide +kernel
theorem ok_X11_run_207_1 : oks m_X11_run.1 m_X11_run.2.2.1 207 [(.iconst 2, 1, (0, 0, 0))] = true ∧ plen 207 [(.iconst 2, 1, (0, 0, 0))] = 208 := by decide +kernel
theorem ok_X11_run_211_1 : oks m_X11_run.1 m_X11_run.2.2.1 211 [(.iload 7, 2, (0, 0, 0))] = true ∧ plen 211 [(.iload 7, 2, (0, 0, 0))] = 213 := by decide +kernel
theorem ok_X11_run_216_1 : oks m_X11_run.1 m_X11_run.2.2.1 216 [(.iconst 0, 1, (0, 0, 0))] = true ∧ plen 216 [(.iconst 0, 1, (0, 0, 0))] = 217 := by decide +kernel
theorem ok_X11_run_220_1 : oks m_X11_run.1 m_X11_run.2.2.1 220 [(.iconst 3, 1, (0, 0, 0))] = true ∧ plen 220 [(.iconst 3, 1, (0, 0, 0))] = 221 := by decide +kernel
theorem ok_X11_run_227_1 : oks m_X11_run.1 m_X11_run.2.2.1 227 [(.iconst 0, 1, (0, 0, 0))] = true ∧ plen 227 [(.iconst 0, 1, (0, 0, 0))] = 228 := by decide +kernel
theorem ok_X11_run_229_2 : oks m_X11_run.1 m_X11_run.2.2.1 229 [(.iconst 0, 1, (0, 0, 0)), (.istore 8, 2, (0, 0, 0))] = true ∧ plen 229 [(.iconst 0, 1, (0, 0, 0)), (.istore 8, 2, (0, 0, 0))] = 232 := by decide +kernel
theorem ok_X11_run_232_3 : oks m_X11_run.1 m_X11_run.2.2.1 232 [(.iload 8, 2, (0, 0, 0)), (.aload_n 0, 1, (0, 0, 0)), (.getfield 231, 3, (11, 21, 0))] = true ∧ plen 232 [(.iload 8, 2, (0, 0, 0)), (.aload_n 0, 1, (0, 0, 0)), (.getfield 231, 3, (11, 21, 0))] = 238 := by decide +kernel
theorem ok_X11_run_241_7 : oks m_X11_run.1 m_X11_run.2.2.1 241 [(.aload_n 0, 1, (0, 0, 0)), (.getfield 113, 3, (11, 46, 0)), (.iload 8, 2, (0, 0, 0)), (.iload_n 2, 1, (0, 0, 0)), (.iload_n 3, 1, (0, 0, 0)), (.iload 4, 2, (0, 0, 0)), (.iload 8, 2, (0, 0, 0))] = true ∧ plen 241 [(.aload_n 0, 1, (0, 0, 0)), (.getfield 113, 3, (11, 46, 0)), (.iload 8, 2, (0, 0, 0)), (.iload_n 2, 1, (0, 0, 0)), (.iload_n 3, 1, (0, 0, 0)), (.iload 4, 2, (0, 0, 0)), (.iload 8, 2, (0, 0, 0))] = 253 := by decide +kernel
theorem ok_X11_run_257_1 : oks m_X11_run.1 m_X11_run.2.2.1 257 [(.iinc 8 1, 3, (0, 0, 0))] = true ∧ plen 257 [(.iinc 8 1, 3, (0, 0, 0))] = 260 := by decide +kernel
theorem ok_X11_run_263_8 : oks m_X11_run.1 m_X11_run.2.2.1 263 [(.aload_n 0, 1, (0, 0, 0)), (.iconst 0, 1, (0, 0, 0)), (.putfield 234, 3, (11, 47, 0)), (.aload_n 0, 1, (0, 0, 0)), (.iconst 0, 1, (0, 0, 0)), (.putfield 237, 3, (11, 48, 0)), (.iload_n 1, 1, (0, 0, 0)), (.iconst 2, 1, (0, 0, 0))] = true ∧ plen 263 [(.aload_n 0, 1, (0, 0, 0)), (.iconst 0, 1, (0, 0, 0)), (.putfield 234, 3, (11, 47, 0)), (.aload_n 0, 1, (0, 0, 0)), (.iconst 0, 1, (0, 0, 0)), (.putfield 237, 3, (11, 48, 0)), (.iload_n 1, 1, (0, 0, 0)), (.iconst 2, 1, (0, 0, 0))] = 275 := by decide +kernel
theorem ok_X11_run_278_1 : oks m_X11_run.1 m_X11_run.2.2.1 278 [(.aload_n 0, 1, (0, 0, 0))] = true ∧ plen 278 [(.aload_n 0, 1, (0, 0, 0))] = 279 := by decide +kernel
theorem ok_X11_run_285_1 : oks m_X11_run.1 m_X11_run.2.2.1 285 [(.aload_n 0, 1, (0, 0, 0))] = true ∧ plen 285 [(.aload_n 0, 1, (0, 0, 0))] = 286 := by decide +kernel
def B_X11_run_121 (x5 : Bool) (x7 : Int) (y0 : Bool) (σ : Sg) : Option ((Bool × Bool × Int) ⊕ (Bool × Bool)) :=
some (.inl (x5, y0, wrap (x7 + 1)))
def B_X11_run_120 (x5 : Bool) (x7 : Int) (σ : Sg) : Option ((Bool × Bool × Int) ⊕ (Bool × Bool)) :=
B_X11_run_121 x5 x7 false σ
def B_X11_run_116 (x5 : Bool) (x7 : Int) (σ : Sg) : Option ((Bool × Bool × Int) ⊕ (Bool × Bool)) :=
B_X11_run_121 x5 x7 true σ
def B_X11_run_69 (x6 : Bool) (x7 : Int) (x8 : Int) (x9 : Bool) (y0 : Bool) (σ : Sg) : Option ((Bool × Bool × Int) ⊕ (Bool × Bool)) :=
if x6 = true then
if (σ 0 21) ≤ x7 then
if x8 = (-1) then
B_X11_run_116 y0 x7 σ
else
B_X11_run_120 y0 x7 σ
else
if x9 = true then
(rdn 40 σ 4 x8).bind fun v7 =>
(rdn 3 σ 19 x7).bind fun v9 =>
if v7 = v9 then
B_X11_run_116 y0 x7 σ
else
B_X11_run_120 y0 x7 σ
else
B_X11_run_120 y0 x7 σ
else
B_X11_run_120 y0 x7 σ
def B_X11_run_68 (x6 : Bool) (x7 : Int) (x8 : Int) (x9 : Bool) (σ : Sg) : Option ((Bool × Bool × Int) ⊕ (Bool × Bool)) :=
B_X11_run_69 x6 x7 x8 x9 false σ
def B_X11_run_64 (x6 : Bool) (x7 : Int) (x8 : Int) (x9 : Bool) (σ : Sg) : Option ((Bool × Bool × Int) ⊕ (Bool × Bool)) :=
B_X11_run_69 x6 x7 x8 x9 true σ
def L_X11_run_14 (x2 : Int) (x3 : Int) (x4 : Int) (σ : Sg) (x5 : Bool) (x6 : Bool) (x7 : Int) : Option ((Bool × Bool × Int) ⊕ (Bool × Bool)) :=
if 3 ≤ x7 then
some (.inr (x5, x6))
else
bnd (F_X11_pick x2 x3 x4 x7) fun v3 =>
bnd (F_X11_in v3 0 (wrap ((σ 0 4) - 1))) fun v5 =>
if x5 = true then
if (σ 0 21) ≤ x7 then
B_X11_run_64 x6 x7 v3 v5 σ
else
if v5 = true then
B_X11_run_64 x6 x7 v3 v5 σ
else
B_X11_run_68 x6 x7 v3 v5 σ
else
B_X11_run_68 x6 x7 v3 v5 σ
def L_X11_run_232 (x2 : Int) (x3 : Int) (x4 : Int) (x8 : Int) (σ : Sg) : Option ((Int × Sg) ⊕ Sg) :=
if (σ 0 21) ≤ x8 then
some (.inr σ)
else
(wrn 3 σ 35 x8 (F_X11_pick x2 x3 x4 x8)).bind fun s15 =>
some (.inl (wrap (x8 + 1), s15))
def B_X11_run_221 (x1 : Int) (x2 : Int) (x3 : Int) (x4 : Int) (y0 : Int) (σ : Sg) : Option (Int × Sg) :=
bnd (F_X11_refused y0 σ) fun q13 =>
if q13.1 = true then
some (0, q13.2)
else
(iter (fun a : (Int × Sg) => L_X11_run_232 x2 x3 x4 a.1 a.2) 3000 (0, q13.2)).bind fun y17 =>
bnd (up2 y17 0 47 0) fun s19 =>
bnd (up2 s19 0 48 0) fun s21 =>
if x1 < 2 then
(F_X11_runPlain s21).bind fun q23 =>
some (q23.1, q23.2)
else
(F_X11_runTree s21).bind fun q25 =>
some (q25.1, q25.2)
def B_X11_run_190 (x1 : Int) (x2 : Int) (x3 : Int) (x4 : Int) (x5 : Bool) (x6 : Bool) (y0 : Bool) (σ : Sg) : Option (Int × Sg) :=
if x5 = true then
if x6 = true then
if y0 = true then
B_X11_run_221 x1 x2 x3 x4 0 σ
else
B_X11_run_221 x1 x2 x3 x4 3 σ
else
B_X11_run_221 x1 x2 x3 x4 2 σ
else
B_X11_run_221 x1 x2 x3 x4 1 σ
def B_X11_run_189 (x1 : Int) (x2 : Int) (x3 : Int) (x4 : Int) (x5 : Bool) (x6 : Bool) (σ : Sg) : Option (Int × Sg) :=
B_X11_run_190 x1 x2 x3 x4 x5 x6 false σ
def B_X11_run_185 (x1 : Int) (x2 : Int) (x3 : Int) (x4 : Int) (x5 : Bool) (x6 : Bool) (σ : Sg) : Option (Int × Sg) :=
B_X11_run_190 x1 x2 x3 x4 x5 x6 true σ
def B_X11_run_156 (x1 : Int) (x2 : Int) (x3 : Int) (x4 : Int) (x5 : Bool) (x6 : Bool) (σ : Sg) : Option (Int × Sg) :=
if (σ 0 21) ≤ 0 then
B_X11_run_189 x1 x2 x3 x4 x5 x6 σ
else
if x5 = true then
if x6 = true then
if x1 < 2 then
B_X11_run_185 x1 x2 x3 x4 x5 x6 σ
else
if (σ 0 55) = 0 then
B_X11_run_185 x1 x2 x3 x4 x5 x6 σ
else
B_X11_run_189 x1 x2 x3 x4 x5 x6 σ
else
B_X11_run_185 x1 x2 x3 x4 x5 x6 σ
else
B_X11_run_185 x1 x2 x3 x4 x5 x6 σ
def F_X11_run (a1 : Int) (a2 : Int) (a3 : Int) (a4 : Int) (σ : Sg) : Option (Int × Sg) :=
bnd (F_X11_in a1 0 3) fun v1 =>
(iter (fun a : (Bool × Bool × Int) => L_X11_run_14 a2 a3 a4 σ a.1 a.2.1 a.2.2) 4 (v1, true, 0)).bind fun y11 =>
if y11.1 = true then
if y11.2 = true then
if (σ 0 21) ≤ 0 then
B_X11_run_156 a1 a2 a3 a4 y11.1 y11.2 σ
else
if a1 < 2 then
B_X11_run_156 a1 a2 a3 a4 y11.1 y11.2 σ
else
(F_X11_build a1 σ).bind fun q27 =>
B_X11_run_156 a1 a2 a3 a4 y11.1 y11.2 q27
else
B_X11_run_156 a1 a2 a3 a4 y11.1 y11.2 σ
else
B_X11_run_156 a1 a2 a3 a4 y11.1 y11.2 σ
theorem lk_X11_run (l : Launch) (d : Nat) (hd : 9 ≤ d) (a1 : Int) (a2 : Int) (a3 : Int) (a4 : Int) (σ : Sg) (q : (Int × Sg)) (h : F_X11_run a1 a2 a3 a4 σ = some q) : CT l d m_X11_run.2.1 m_X11_run.2.2.1 m_X11_run.2.2.2.1 m_X11_run.2.2.2.2 [.inr 0, .inl a1, .inl a2, .inl a3, .inl a4] (LAYM, σ) (some (.inl q.1)) (LAYM, q.2) := by
  obtain ⟨d, rfl⟩ : ∃ e, d = e + 1 := ⟨d - 1, by omega⟩
  have key : Go l m_X11_run (d + 1) LAYM (.inl (some (.inl q.1))) q.2 0 [some (.inr 0), some (.inl a1), some (.inl a2), some (.inl a3), some (.inl a4), none, none, none, none, none] [] σ := by
    unfold F_X11_run at h
    have hL_X11_run_14 : ∀ (x1 : Int) (x2 : Int) (x3 : Int) (x4 : Int) (σ : Sg) (n : Nat) (a : (Bool × Bool × Int)) (y : (Bool × Bool)), iter (fun a : (Bool × Bool × Int) => L_X11_run_14 x2 x3 x4 σ a.1 a.2.1 a.2.2) n a = some y → (fun y : (Bool × Bool) => Go l m_X11_run (d + 1) LAYM (.inl (some (.inl q.1))) q.2 129 [some (.inr 0), some (.inl x1), some (.inl x2), some (.inl x3), some (.inl x4), some (.inl (b2i y.1)), some (.inl (b2i y.2)), none, none, none] [] σ) y → (fun a : (Bool × Bool × Int) => Go l m_X11_run (d + 1) LAYM (.inl (some (.inl q.1))) q.2 14 [some (.inr 0), some (.inl x1), some (.inl x2), some (.inl x3), some (.inl x4), some (.inl (b2i a.1)), some (.inl (b2i a.2.1)), some (.inl a.2.2), none, none] [] σ) a := by
      intro x1 x2 x3 x4 σ
      refine go_iter (G := fun a : (Bool × Bool × Int) => Go l m_X11_run (d + 1) LAYM (.inl (some (.inl q.1))) q.2 14 [some (.inr 0), some (.inl x1), some (.inl x2), some (.inl x3), some (.inl x4), some (.inl (b2i a.1)), some (.inl (b2i a.2.1)), some (.inl a.2.2), none, none] [] σ) (K := fun y : (Bool × Bool) => Go l m_X11_run (d + 1) LAYM (.inl (some (.inl q.1))) q.2 129 [some (.inr 0), some (.inl x1), some (.inl x2), some (.inl x3), some (.inl x4), some (.inl (b2i y.1)), some (.inl (b2i y.2)), none, none, none] [] σ) ?_
      rintro ⟨x5, x6, x7⟩ w h hK
      replace h : L_X11_run_14 x2 x3 x4 σ x5 x6 x7 = some w := h
      show Go l m_X11_run (d + 1) LAYM (.inl (some (.inl q.1))) q.2 14 [some (.inr 0), some (.inl x1), some (.inl x2), some (.inl x3), some (.inl x4), some (.inl (b2i x5)), some (.inl (b2i x6)), some (.inl x7), none, none] [] σ
      unfold L_X11_run_14 at h
      have hB_X11_run_121 : ∀ (x5 : Bool) (x7 : Int) (y0 : Bool), B_X11_run_121 x5 x7 y0 σ = some w → Go l m_X11_run (d + 1) LAYM (.inl (some (.inl q.1))) q.2 121 [some (.inr 0), some (.inl x1), some (.inl x2), some (.inl x3), some (.inl x4), some (.inl (b2i x5)), none, some (.inl x7), none, none] [.inl (b2i y0)] σ := by
        intro x5 x7 y0 h
        unfold B_X11_run_121 at h
        refine go_ops ok_X11_run_121_2 (L' := [some (.inr 0), some (.inl x1), some (.inl x2), some (.inl x3), some (.inl x4), some (.inl (b2i x5)), some (.inl (b2i y0)), some (.inl (wrap (x7 + 1))), none, none]) (st' := []) (σ1 := σ) rfl ?_
        refine go_goto dc_X11_run_126 (by rfl) ?_
        cases h
        exact hK
      have hB_X11_run_120 : ∀ (x5 : Bool) (x7 : Int), B_X11_run_120 x5 x7 σ = some w → Go l m_X11_run (d + 1) LAYM (.inl (some (.inl q.1))) q.2 120 [some (.inr 0), some (.inl x1), some (.inl x2), some (.inl x3), some (.inl x4), some (.inl (b2i x5)), none, some (.inl x7), none, none] [] σ := by
        intro x5 x7 h
        unfold B_X11_run_120 at h
        refine go_ops ok_X11_run_120_1 (L' := [some (.inr 0), some (.inl x1), some (.inl x2), some (.inl x3), some (.inl x4), some (.inl (b2i x5)), none, some (.inl x7), none, none]) (st' := [.inl 0]) (σ1 := σ) rfl ?_
        exact hB_X11_run_121 x5 x7 false h
      have hB_X11_run_116 : ∀ (x5 : Bool) (x7 : Int), B_X11_run_116 x5 x7 σ = some w → Go l m_X11_run (d + 1) LAYM (.inl (some (.inl q.1))) q.2 116 [some (.inr 0), some (.inl x1), some (.inl x2), some (.inl x3), some (.inl x4), some (.inl (b2i x5)), none, some (.inl x7), none, none] [] σ := by
        intro x5 x7 h
        unfold B_X11_run_116 at h
        refine go_ops ok_X11_run_116_1 (L' := [some (.inr 0), some (.inl x1), some (.inl x2), some (.inl x3), some (.inl x4), some (.inl (b2i x5)), none, some (.inl x7), none, none]) (st' := [.inl 1]) (σ1 := σ) rfl ?_
        refine go_goto dc_X11_run_117 (by rfl) ?_
        exact hB_X11_run_121 x5 x7 true h
      have hB_X11_run_69 : ∀ (x6 : Bool) (x7 : Int) (x8 : Int) (x9 : Bool) (y0 : Bool), B_X11_run_69 x6 x7 x8 x9 y0 σ = some w → Go l m_X11_run (d + 1) LAYM (.inl (some (.inl q.1))) q.2 69 [some (.inr 0), some (.inl x1), some (.inl x2), some (.inl x3), some (.inl x4), none, some (.inl (b2i x6)), some (.inl x7), some (.inl x8), some (.inl (b2i x9))] [.inl (b2i y0)] σ := by
        intro x6 x7 x8 x9 y0 h
        unfold B_X11_run_69 at h
        refine go_ops ok_X11_run_69_2 (L' := [some (.inr 0), some (.inl x1), some (.inl x2), some (.inl x3), some (.inl x4), some (.inl (b2i y0)), some (.inl (b2i x6)), some (.inl x7), some (.inl x8), some (.inl (b2i x9))]) (st' := [.inl (b2i x6)]) (σ1 := σ) rfl ?_
        refine go_ifb_eq dc_X11_run_73 (by rfl) (fun hc => ?_) (fun hc => ?_)
        · replace h := (if_neg hc).symm.trans h
          refine go_wk (L' := [some (.inr 0), some (.inl x1), some (.inl x2), some (.inl x3), some (.inl x4), some (.inl (b2i y0)), none, some (.inl x7), none, none]) ⟨rfl, rfl, rfl, rfl, rfl, rfl, rfl, trivial⟩ ?_
          exact hB_X11_run_120 y0 x7 h
        · replace h := (if_pos hc).symm.trans h
          refine go_ops ok_X11_run_76_3 (L' := [some (.inr 0), some (.inl x1), some (.inl x2), some (.inl x3), some (.inl x4), some (.inl (b2i y0)), some (.inl (b2i x6)), some (.inl x7), some (.inl x8), some (.inl (b2i x9))]) (st' := [.inl (σ 0 21), .inl x7]) (σ1 := σ) rfl ?_
          refine go_icmp_ge dc_X11_run_82 (by rfl) (fun hc => ?_) (fun hc => ?_)
          · replace h := (if_pos hc).symm.trans h
            refine go_ops ok_X11_run_110_2 (L' := [some (.inr 0), some (.inl x1), some (.inl x2), some (.inl x3), some (.inl x4), some (.inl (b2i y0)), some (.inl (b2i x6)), some (.inl x7), some (.inl x8), some (.inl (b2i x9))]) (st' := [.inl (-1), .inl x8]) (σ1 := σ) rfl ?_
            refine go_icmp_ne dc_X11_run_113 (by rfl) (fun hc => ?_) (fun hc => ?_)
            · replace h := (if_neg hc).symm.trans h
              refine go_wk (L' := [some (.inr 0), some (.inl x1), some (.inl x2), some (.inl x3), some (.inl x4), some (.inl (b2i y0)), none, some (.inl x7), none, none]) ⟨rfl, rfl, rfl, rfl, rfl, rfl, rfl, trivial⟩ ?_
              exact hB_X11_run_120 y0 x7 h
            · replace h := (if_pos hc).symm.trans h
              refine go_wk (L' := [some (.inr 0), some (.inl x1), some (.inl x2), some (.inl x3), some (.inl x4), some (.inl (b2i y0)), none, some (.inl x7), none, none]) ⟨rfl, rfl, rfl, rfl, rfl, rfl, rfl, trivial⟩ ?_
              exact hB_X11_run_116 y0 x7 h
          · replace h := (if_neg hc).symm.trans h
            refine go_ops ok_X11_run_85_1 (L' := [some (.inr 0), some (.inl x1), some (.inl x2), some (.inl x3), some (.inl x4), some (.inl (b2i y0)), some (.inl (b2i x6)), some (.inl x7), some (.inl x8), some (.inl (b2i x9))]) (st' := [.inl (b2i x9)]) (σ1 := σ) rfl ?_
            refine go_ifb_eq dc_X11_run_87 (by rfl) (fun hc => ?_) (fun hc => ?_)
            · replace h := (if_neg hc).symm.trans h
              refine go_wk (L' := [some (.inr 0), some (.inl x1), some (.inl x2), some (.inl x3), some (.inl x4), some (.inl (b2i y0)), none, some (.inl x7), none, none]) ⟨rfl, rfl, rfl, rfl, rfl, rfl, rfl, trivial⟩ ?_
              exact hB_X11_run_120 y0 x7 h
            · replace h := (if_pos hc).symm.trans h
              refine go_ops ok_X11_run_90_3 (L' := [some (.inr 0), some (.inl x1), some (.inl x2), some (.inl x3), some (.inl x4), some (.inl (b2i y0)), some (.inl (b2i x6)), some (.inl x7), some (.inl x8), some (.inl (b2i x9))]) (st' := [.inl x8, .inr 4]) (σ1 := σ) rfl ?_
              obtain ⟨v7, e8, h⟩ := bind_inv h
              refine go_rd (k := 4) dc_X11_run_96 rfl e8 ?_
              refine go_ops ok_X11_run_97_3 (L' := [some (.inr 0), some (.inl x1), some (.inl x2), some (.inl x3), some (.inl x4), some (.inl (b2i y0)), some (.inl (b2i x6)), some (.inl x7), some (.inl x8), some (.inl (b2i x9))]) (st' := [.inl x7, .inr 19, .inl v7]) (σ1 := σ) rfl ?_
              obtain ⟨v9, e10, h⟩ := bind_inv h
              refine go_rd (k := 19) dc_X11_run_103 rfl e10 ?_
              refine go_icmp_ne dc_X11_run_104 (by rfl) (fun hc => ?_) (fun hc => ?_)
              · replace h := (if_neg hc).symm.trans h
                refine go_wk (L' := [some (.inr 0), some (.inl x1), some (.inl x2), some (.inl x3), some (.inl x4), some (.inl (b2i y0)), none, some (.inl x7), none, none]) ⟨rfl, rfl, rfl, rfl, rfl, rfl, rfl, trivial⟩ ?_
                exact hB_X11_run_120 y0 x7 h
              · replace h := (if_pos hc).symm.trans h
                refine go_goto dc_X11_run_107 (by rfl) ?_
                refine go_wk (L' := [some (.inr 0), some (.inl x1), some (.inl x2), some (.inl x3), some (.inl x4), some (.inl (b2i y0)), none, some (.inl x7), none, none]) ⟨rfl, rfl, rfl, rfl, rfl, rfl, rfl, trivial⟩ ?_
                exact hB_X11_run_116 y0 x7 h
      have hB_X11_run_68 : ∀ (x6 : Bool) (x7 : Int) (x8 : Int) (x9 : Bool), B_X11_run_68 x6 x7 x8 x9 σ = some w → Go l m_X11_run (d + 1) LAYM (.inl (some (.inl q.1))) q.2 68 [some (.inr 0), some (.inl x1), some (.inl x2), some (.inl x3), some (.inl x4), none, some (.inl (b2i x6)), some (.inl x7), some (.inl x8), some (.inl (b2i x9))] [] σ := by
        intro x6 x7 x8 x9 h
        unfold B_X11_run_68 at h
        refine go_ops ok_X11_run_68_1 (L' := [some (.inr 0), some (.inl x1), some (.inl x2), some (.inl x3), some (.inl x4), none, some (.inl (b2i x6)), some (.inl x7), some (.inl x8), some (.inl (b2i x9))]) (st' := [.inl 0]) (σ1 := σ) rfl ?_
        exact hB_X11_run_69 x6 x7 x8 x9 false h
      have hB_X11_run_64 : ∀ (x6 : Bool) (x7 : Int) (x8 : Int) (x9 : Bool), B_X11_run_64 x6 x7 x8 x9 σ = some w → Go l m_X11_run (d + 1) LAYM (.inl (some (.inl q.1))) q.2 64 [some (.inr 0), some (.inl x1), some (.inl x2), some (.inl x3), some (.inl x4), none, some (.inl (b2i x6)), some (.inl x7), some (.inl x8), some (.inl (b2i x9))] [] σ := by
        intro x6 x7 x8 x9 h
        unfold B_X11_run_64 at h
        refine go_ops ok_X11_run_64_1 (L' := [some (.inr 0), some (.inl x1), some (.inl x2), some (.inl x3), some (.inl x4), none, some (.inl (b2i x6)), some (.inl x7), some (.inl x8), some (.inl (b2i x9))]) (st' := [.inl 1]) (σ1 := σ) rfl ?_
        refine go_goto dc_X11_run_65 (by rfl) ?_
        exact hB_X11_run_69 x6 x7 x8 x9 true h
      refine go_ops ok_X11_run_14_2 (L' := [some (.inr 0), some (.inl x1), some (.inl x2), some (.inl x3), some (.inl x4), some (.inl (b2i x5)), some (.inl (b2i x6)), some (.inl x7), none, none]) (st' := [.inl 3, .inl x7]) (σ1 := σ) rfl ?_
      refine go_icmp_ge dc_X11_run_17 (by rfl) (fun hc => ?_) (fun hc => ?_)
      · replace h := (if_pos hc).symm.trans h
        cases h
        refine go_wk (L' := [some (.inr 0), some (.inl x1), some (.inl x2), some (.inl x3), some (.inl x4), some (.inl (b2i x5)), some (.inl (b2i x6)), none, none, none]) ⟨rfl, rfl, rfl, rfl, rfl, rfl, rfl, trivial⟩ ?_
        exact hK
      · replace h := (if_neg hc).symm.trans h
        refine go_ops ok_X11_run_20_4 (L' := [some (.inr 0), some (.inl x1), some (.inl x2), some (.inl x3), some (.inl x4), some (.inl (b2i x5)), some (.inl (b2i x6)), some (.inl x7), none, none]) (st' := [.inl x7, .inl x4, .inl x3, .inl x2]) (σ1 := σ) rfl ?_
        refine go_S (M1 := m_X11_pick) (as := [.inl x2, .inl x3, .inl x4, .inl x7]) (st := []) dc_X11_run_26 ln_11_175 sm_X11_pick mk_X11_pick rfl (Nat.le_of_ble_eq_true rfl) (Nat.le_refl _) (v := (some (.inl (F_X11_pick x2 x3 x4 x7)))) (σ1 := σ) (lk_X11_pick l d (by omega) x2 x3 x4 x7 σ _ rfl) _ rfl ?_
        obtain ⟨v3, e4, h⟩ := bnd_inv h
        refine go_ops ok_X11_run_29_7 (L' := [some (.inr 0), some (.inl x1), some (.inl x2), some (.inl x3), some (.inl x4), some (.inl (b2i x5)), some (.inl (b2i x6)), some (.inl x7), some (.inl v3), none]) (st' := [.inl (wrap ((σ 0 4) - 1)), .inl 0, .inl v3]) (σ1 := σ) (by subst e4; rfl) ?_
        refine go_S (M1 := m_X11_in) (as := [.inl v3, .inl 0, .inl (wrap ((σ 0 4) - 1))]) (st := []) dc_X11_run_40 ln_11_171 sm_X11_in mk_X11_in rfl (Nat.le_of_ble_eq_true rfl) (Nat.le_refl _) (v := (some (.inl (b2i (F_X11_in v3 0 (wrap ((σ 0 4) - 1))))))) (σ1 := σ) (lk_X11_in l d (by omega) v3 0 (wrap ((σ 0 4) - 1)) σ _ rfl) _ rfl ?_
        obtain ⟨v5, e6, h⟩ := bnd_inv h
        refine go_ops ok_X11_run_43_2 (L' := [some (.inr 0), some (.inl x1), some (.inl x2), some (.inl x3), some (.inl x4), some (.inl (b2i x5)), some (.inl (b2i x6)), some (.inl x7), some (.inl v3), some (.inl (b2i v5))]) (st' := [.inl (b2i x5)]) (σ1 := σ) (by subst e6; rfl) ?_
        refine go_ifb_eq dc_X11_run_47 (by rfl) (fun hc => ?_) (fun hc => ?_)
        · replace h := (if_neg hc).symm.trans h
          refine go_wk (L' := [some (.inr 0), some (.inl x1), some (.inl x2), some (.inl x3), some (.inl x4), none, some (.inl (b2i x6)), some (.inl x7), some (.inl v3), some (.inl (b2i v5))]) ⟨rfl, rfl, rfl, rfl, rfl, rfl, rfl, rfl, rfl, trivial⟩ ?_
          exact hB_X11_run_68 x6 x7 v3 v5 h
        · replace h := (if_pos hc).symm.trans h
          refine go_ops ok_X11_run_50_3 (L' := [some (.inr 0), some (.inl x1), some (.inl x2), some (.inl x3), some (.inl x4), some (.inl (b2i x5)), some (.inl (b2i x6)), some (.inl x7), some (.inl v3), some (.inl (b2i v5))]) (st' := [.inl (σ 0 21), .inl x7]) (σ1 := σ) rfl ?_
          refine go_icmp_ge dc_X11_run_56 (by rfl) (fun hc => ?_) (fun hc => ?_)
          · replace h := (if_pos hc).symm.trans h
            refine go_wk (L' := [some (.inr 0), some (.inl x1), some (.inl x2), some (.inl x3), some (.inl x4), none, some (.inl (b2i x6)), some (.inl x7), some (.inl v3), some (.inl (b2i v5))]) ⟨rfl, rfl, rfl, rfl, rfl, rfl, rfl, rfl, rfl, trivial⟩ ?_
            exact hB_X11_run_64 x6 x7 v3 v5 h
          · replace h := (if_neg hc).symm.trans h
            refine go_ops ok_X11_run_59_1 (L' := [some (.inr 0), some (.inl x1), some (.inl x2), some (.inl x3), some (.inl x4), some (.inl (b2i x5)), some (.inl (b2i x6)), some (.inl x7), some (.inl v3), some (.inl (b2i v5))]) (st' := [.inl (b2i v5)]) (σ1 := σ) rfl ?_
            refine go_ifb_eq dc_X11_run_61 (by rfl) (fun hc => ?_) (fun hc => ?_)
            · replace h := (if_neg hc).symm.trans h
              refine go_wk (L' := [some (.inr 0), some (.inl x1), some (.inl x2), some (.inl x3), some (.inl x4), none, some (.inl (b2i x6)), some (.inl x7), some (.inl v3), some (.inl (b2i v5))]) ⟨rfl, rfl, rfl, rfl, rfl, rfl, rfl, rfl, rfl, trivial⟩ ?_
              exact hB_X11_run_68 x6 x7 v3 v5 h
            · replace h := (if_pos hc).symm.trans h
              refine go_wk (L' := [some (.inr 0), some (.inl x1), some (.inl x2), some (.inl x3), some (.inl x4), none, some (.inl (b2i x6)), some (.inl x7), some (.inl v3), some (.inl (b2i v5))]) ⟨rfl, rfl, rfl, rfl, rfl, rfl, rfl, rfl, rfl, trivial⟩ ?_
              exact hB_X11_run_64 x6 x7 v3 v5 h
    have hL_X11_run_232 : ∀ (x1 : Int) (x2 : Int) (x3 : Int) (x4 : Int) (n : Nat) (a : (Int × Sg)) (y : Sg), iter (fun a : (Int × Sg) => L_X11_run_232 x2 x3 x4 a.1 a.2) n a = some y → (fun y : Sg => Go l m_X11_run (d + 1) LAYM (.inl (some (.inl q.1))) q.2 263 [some (.inr 0), some (.inl x1), none, none, none, none, none, none, none, none] [] y) y → (fun a : (Int × Sg) => Go l m_X11_run (d + 1) LAYM (.inl (some (.inl q.1))) q.2 232 [some (.inr 0), some (.inl x1), some (.inl x2), some (.inl x3), some (.inl x4), none, none, none, some (.inl a.1), none] [] a.2) a := by
      intro x1 x2 x3 x4
      refine go_iter (G := fun a : (Int × Sg) => Go l m_X11_run (d + 1) LAYM (.inl (some (.inl q.1))) q.2 232 [some (.inr 0), some (.inl x1), some (.inl x2), some (.inl x3), some (.inl x4), none, none, none, some (.inl a.1), none] [] a.2) (K := fun y : Sg => Go l m_X11_run (d + 1) LAYM (.inl (some (.inl q.1))) q.2 263 [some (.inr 0), some (.inl x1), none, none, none, none, none, none, none, none] [] y) ?_
      rintro ⟨x8, σ⟩ w h hK
      replace h : L_X11_run_232 x2 x3 x4 x8 σ = some w := h
      show Go l m_X11_run (d + 1) LAYM (.inl (some (.inl q.1))) q.2 232 [some (.inr 0), some (.inl x1), some (.inl x2), some (.inl x3), some (.inl x4), none, none, none, some (.inl x8), none] [] σ
      unfold L_X11_run_232 at h
      refine go_ops ok_X11_run_232_3 (L' := [some (.inr 0), some (.inl x1), some (.inl x2), some (.inl x3), some (.inl x4), none, none, none, some (.inl x8), none]) (st' := [.inl (σ 0 21), .inl x8]) (σ1 := σ) rfl ?_
      refine go_icmp_ge dc_X11_run_238 (by rfl) (fun hc => ?_) (fun hc => ?_)
      · replace h := (if_pos hc).symm.trans h
        cases h
        refine go_wk (L' := [some (.inr 0), some (.inl x1), none, none, none, none, none, none, none, none]) ⟨rfl, rfl, trivial⟩ ?_
        exact hK
      · replace h := (if_neg hc).symm.trans h
        refine go_ops ok_X11_run_241_7 (L' := [some (.inr 0), some (.inl x1), some (.inl x2), some (.inl x3), some (.inl x4), none, none, none, some (.inl x8), none]) (st' := [.inl x8, .inl x4, .inl x3, .inl x2, .inl x8, .inr 35]) (σ1 := σ) rfl ?_
        refine go_S (M1 := m_X11_pick) (as := [.inl x2, .inl x3, .inl x4, .inl x8]) (st := [.inl x8, .inr 35]) dc_X11_run_253 ln_11_175 sm_X11_pick mk_X11_pick rfl (Nat.le_of_ble_eq_true rfl) (Nat.le_refl _) (v := (some (.inl (F_X11_pick x2 x3 x4 x8)))) (σ1 := σ) (lk_X11_pick l d (by omega) x2 x3 x4 x8 σ _ rfl) _ rfl ?_
        obtain ⟨s15, e16, h⟩ := bind_inv h
        refine go_wr (k := 35) dc_X11_run_256 rfl e16 ?_
        refine go_ops ok_X11_run_257_1 (L' := [some (.inr 0), some (.inl x1), some (.inl x2), some (.inl x3), some (.inl x4), none, none, none, some (.inl (wrap (x8 + 1))), none]) (st' := []) (σ1 := s15) rfl ?_
        refine go_goto dc_X11_run_260 (by rfl) ?_
        cases h
        exact hK
    have hB_X11_run_221 : ∀ (x1 : Int) (x2 : Int) (x3 : Int) (x4 : Int) (y0 : Int) (σ : Sg), B_X11_run_221 x1 x2 x3 x4 y0 σ = some q → Go l m_X11_run (d + 1) LAYM (.inl (some (.inl q.1))) q.2 221 [some (.inr 0), some (.inl x1), some (.inl x2), some (.inl x3), some (.inl x4), none, none, none, none, none] [.inl y0, .inr 0] σ := by
      intro x1 x2 x3 x4 y0 σ h
      unfold B_X11_run_221 at h
      obtain ⟨q13, e14, h⟩ := bnd_inv h
      refine go_V (M1 := m_X11_refused) (as := [.inl y0]) (st := []) (k := 0) (ci := 11) dc_X11_run_221 ln_11_183 im_X11_refused (by decide) rfl rfl mk_X11_refused rfl (Nat.le_of_ble_eq_true rfl) (Nat.le_refl _) (v := (some (.inl (b2i q13.1)))) (σ1 := q13.2) (lk_X11_refused l d (by omega) y0 σ q13 e14.symm) _ rfl ?_
      refine go_ifb_eq dc_X11_run_224 (by rfl) (fun hc => ?_) (fun hc => ?_)
      · replace h := (if_neg hc).symm.trans h
        refine go_ops ok_X11_run_229_2 (L' := [some (.inr 0), some (.inl x1), some (.inl x2), some (.inl x3), some (.inl x4), none, none, none, some (.inl 0), none]) (st' := []) (σ1 := q13.2) rfl ?_
        obtain ⟨y17, e18, h⟩ := bind_inv h
        refine hL_X11_run_232 x1 x2 x3 x4 3000 (0, q13.2) y17 e18 ?_
        show Go l m_X11_run (d + 1) LAYM (.inl (some (.inl q.1))) q.2 263 [some (.inr 0), some (.inl x1), none, none, none, none, none, none, none, none] [] y17
        obtain ⟨s19, e20, h⟩ := bnd_inv h
        obtain ⟨s21, e22, h⟩ := bnd_inv h
        refine go_ops ok_X11_run_263_8 (L' := [some (.inr 0), some (.inl x1), none, none, none, none, none, none, none, none]) (st' := [.inl 2, .inl x1]) (σ1 := s21) (by subst e22; subst e20; rfl) ?_
        refine go_icmp_lt dc_X11_run_275 (by rfl) (fun hc => ?_) (fun hc => ?_)
        · replace h := (if_pos hc).symm.trans h
          refine go_ops ok_X11_run_285_1 (L' := [some (.inr 0), some (.inl x1), none, none, none, none, none, none, none, none]) (st' := [.inr 0]) (σ1 := s21) rfl ?_
          obtain ⟨q23, e24, h⟩ := bind_inv h
          refine go_V (M1 := m_X11_runPlain) (as := []) (st := []) (k := 0) (ci := 11) dc_X11_run_286 ln_11_370 im_X11_runPlain (by decide) rfl rfl mk_X11_runPlain rfl (Nat.le_of_ble_eq_true rfl) (Nat.le_refl _) (v := (some (.inl q23.1))) (σ1 := q23.2) (lk_X11_runPlain l d (by omega) s21 q23 e24) _ rfl ?_
          have h9 := Option.some.inj h
          subst h9
          exact go_iret dc_X11_run_289 rfl
        · replace h := (if_neg hc).symm.trans h
          refine go_ops ok_X11_run_278_1 (L' := [some (.inr 0), some (.inl x1), none, none, none, none, none, none, none, none]) (st' := [.inr 0]) (σ1 := s21) rfl ?_
          obtain ⟨q25, e26, h⟩ := bind_inv h
          refine go_V (M1 := m_X11_runTree) (as := []) (st := []) (k := 0) (ci := 11) dc_X11_run_279 ln_11_367 im_X11_runTree (by decide) rfl rfl mk_X11_runTree rfl (Nat.le_of_ble_eq_true rfl) (Nat.le_refl _) (v := (some (.inl q25.1))) (σ1 := q25.2) (lk_X11_runTree l d (by omega) s21 q25 e26) _ rfl ?_
          refine go_goto dc_X11_run_282 (by rfl) ?_
          have h9 := Option.some.inj h
          subst h9
          exact go_iret dc_X11_run_289 rfl
      · replace h := (if_pos hc).symm.trans h
        refine go_ops ok_X11_run_227_1 (L' := [some (.inr 0), some (.inl x1), some (.inl x2), some (.inl x3), some (.inl x4), none, none, none, none, none]) (st' := [.inl 0]) (σ1 := q13.2) rfl ?_
        have h9 := Option.some.inj h
        subst h9
        exact go_iret dc_X11_run_228 rfl
    have hB_X11_run_190 : ∀ (x1 : Int) (x2 : Int) (x3 : Int) (x4 : Int) (x5 : Bool) (x6 : Bool) (y0 : Bool) (σ : Sg), B_X11_run_190 x1 x2 x3 x4 x5 x6 y0 σ = some q → Go l m_X11_run (d + 1) LAYM (.inl (some (.inl q.1))) q.2 190 [some (.inr 0), some (.inl x1), some (.inl x2), some (.inl x3), some (.inl x4), some (.inl (b2i x5)), some (.inl (b2i x6)), none, none, none] [.inl (b2i y0)] σ := by
      intro x1 x2 x3 x4 x5 x6 y0 σ h
      unfold B_X11_run_190 at h
      refine go_ops ok_X11_run_190_3 (L' := [some (.inr 0), some (.inl x1), some (.inl x2), some (.inl x3), some (.inl x4), some (.inl (b2i x5)), some (.inl (b2i x6)), some (.inl (b2i y0)), none, none]) (st' := [.inl (b2i x5), .inr 0]) (σ1 := σ) rfl ?_
      refine go_ifb_ne dc_X11_run_195 (by rfl) (fun hc => ?_) (fun hc => ?_)
      · replace h := (if_pos hc).symm.trans h
        refine go_ops ok_X11_run_202_1 (L' := [some (.inr 0), some (.inl x1), some (.inl x2), some (.inl x3), some (.inl x4), some (.inl (b2i x5)), some (.inl (b2i x6)), some (.inl (b2i y0)), none, none]) (st' := [.inl (b2i x6), .inr 0]) (σ1 := σ) rfl ?_
        refine go_ifb_ne dc_X11_run_204 (by rfl) (fun hc => ?_) (fun hc => ?_)
        · replace h := (if_pos hc).symm.trans h
          refine go_ops ok_X11_run_211_1 (L' := [some (.inr 0), some (.inl x1), some (.inl x2), some (.inl x3), some (.inl x4), some (.inl (b2i x5)), some (.inl (b2i x6)), some (.inl (b2i y0)), none, none]) (st' := [.inl (b2i y0), .inr 0]) (σ1 := σ) rfl ?_
          refine go_ifb_eq dc_X11_run_213 (by rfl) (fun hc => ?_) (fun hc => ?_)
          · replace h := (if_neg hc).symm.trans h
            refine go_ops ok_X11_run_220_1 (L' := [some (.inr 0), some (.inl x1), some (.inl x2), some (.inl x3), some (.inl x4), some (.inl (b2i x5)), some (.inl (b2i x6)), some (.inl (b2i y0)), none, none]) (st' := [.inl 3, .inr 0]) (σ1 := σ) rfl ?_
            refine go_wk (L' := [some (.inr 0), some (.inl x1), some (.inl x2), some (.inl x3), some (.inl x4), none, none, none, none, none]) ⟨rfl, rfl, rfl, rfl, rfl, trivial⟩ ?_
            exact hB_X11_run_221 x1 x2 x3 x4 3 σ h
          · replace h := (if_pos hc).symm.trans h
            refine go_ops ok_X11_run_216_1 (L' := [some (.inr 0), some (.inl x1), some (.inl x2), some (.inl x3), some (.inl x4), some (.inl (b2i x5)), some (.inl (b2i x6)), some (.inl (b2i y0)), none, none]) (st' := [.inl 0, .inr 0]) (σ1 := σ) rfl ?_
            refine go_goto dc_X11_run_217 (by rfl) ?_
            refine go_wk (L' := [some (.inr 0), some (.inl x1), some (.inl x2), some (.inl x3), some (.inl x4), none, none, none, none, none]) ⟨rfl, rfl, rfl, rfl, rfl, trivial⟩ ?_
            exact hB_X11_run_221 x1 x2 x3 x4 0 σ h
        · replace h := (if_neg hc).symm.trans h
          refine go_ops ok_X11_run_207_1 (L' := [some (.inr 0), some (.inl x1), some (.inl x2), some (.inl x3), some (.inl x4), some (.inl (b2i x5)), some (.inl (b2i x6)), some (.inl (b2i y0)), none, none]) (st' := [.inl 2, .inr 0]) (σ1 := σ) rfl ?_
          refine go_goto dc_X11_run_208 (by rfl) ?_
          refine go_wk (L' := [some (.inr 0), some (.inl x1), some (.inl x2), some (.inl x3), some (.inl x4), none, none, none, none, none]) ⟨rfl, rfl, rfl, rfl, rfl, trivial⟩ ?_
          exact hB_X11_run_221 x1 x2 x3 x4 2 σ h
      · replace h := (if_neg hc).symm.trans h
        refine go_ops ok_X11_run_198_1 (L' := [some (.inr 0), some (.inl x1), some (.inl x2), some (.inl x3), some (.inl x4), some (.inl (b2i x5)), some (.inl (b2i x6)), some (.inl (b2i y0)), none, none]) (st' := [.inl 1, .inr 0]) (σ1 := σ) rfl ?_
        refine go_goto dc_X11_run_199 (by rfl) ?_
        refine go_wk (L' := [some (.inr 0), some (.inl x1), some (.inl x2), some (.inl x3), some (.inl x4), none, none, none, none, none]) ⟨rfl, rfl, rfl, rfl, rfl, trivial⟩ ?_
        exact hB_X11_run_221 x1 x2 x3 x4 1 σ h
    have hB_X11_run_189 : ∀ (x1 : Int) (x2 : Int) (x3 : Int) (x4 : Int) (x5 : Bool) (x6 : Bool) (σ : Sg), B_X11_run_189 x1 x2 x3 x4 x5 x6 σ = some q → Go l m_X11_run (d + 1) LAYM (.inl (some (.inl q.1))) q.2 189 [some (.inr 0), some (.inl x1), some (.inl x2), some (.inl x3), some (.inl x4), some (.inl (b2i x5)), some (.inl (b2i x6)), none, none, none] [] σ := by
      intro x1 x2 x3 x4 x5 x6 σ h
      unfold B_X11_run_189 at h
      refine go_ops ok_X11_run_189_1 (L' := [some (.inr 0), some (.inl x1), some (.inl x2), some (.inl x3), some (.inl x4), some (.inl (b2i x5)), some (.inl (b2i x6)), none, none, none]) (st' := [.inl 0]) (σ1 := σ) rfl ?_
      exact hB_X11_run_190 x1 x2 x3 x4 x5 x6 false σ h
    have hB_X11_run_185 : ∀ (x1 : Int) (x2 : Int) (x3 : Int) (x4 : Int) (x5 : Bool) (x6 : Bool) (σ : Sg), B_X11_run_185 x1 x2 x3 x4 x5 x6 σ = some q → Go l m_X11_run (d + 1) LAYM (.inl (some (.inl q.1))) q.2 185 [some (.inr 0), some (.inl x1), some (.inl x2), some (.inl x3), some (.inl x4), some (.inl (b2i x5)), some (.inl (b2i x6)), none, none, none] [] σ := by
      intro x1 x2 x3 x4 x5 x6 σ h
      unfold B_X11_run_185 at h
      refine go_ops ok_X11_run_185_1 (L' := [some (.inr 0), some (.inl x1), some (.inl x2), some (.inl x3), some (.inl x4), some (.inl (b2i x5)), some (.inl (b2i x6)), none, none, none]) (st' := [.inl 1]) (σ1 := σ) rfl ?_
      refine go_goto dc_X11_run_186 (by rfl) ?_
      exact hB_X11_run_190 x1 x2 x3 x4 x5 x6 true σ h
    have hB_X11_run_156 : ∀ (x1 : Int) (x2 : Int) (x3 : Int) (x4 : Int) (x5 : Bool) (x6 : Bool) (σ : Sg), B_X11_run_156 x1 x2 x3 x4 x5 x6 σ = some q → Go l m_X11_run (d + 1) LAYM (.inl (some (.inl q.1))) q.2 156 [some (.inr 0), some (.inl x1), some (.inl x2), some (.inl x3), some (.inl x4), some (.inl (b2i x5)), some (.inl (b2i x6)), none, none, none] [] σ := by
      intro x1 x2 x3 x4 x5 x6 σ h
      unfold B_X11_run_156 at h
      refine go_ops ok_X11_run_156_2 (L' := [some (.inr 0), some (.inl x1), some (.inl x2), some (.inl x3), some (.inl x4), some (.inl (b2i x5)), some (.inl (b2i x6)), none, none, none]) (st' := [.inl (σ 0 21)]) (σ1 := σ) rfl ?_
      refine go_if_le dc_X11_run_160 (by rfl) (fun hc => ?_) (fun hc => ?_)
      · replace h := (if_pos hc).symm.trans h
        exact hB_X11_run_189 x1 x2 x3 x4 x5 x6 σ h
      · replace h := (if_neg hc).symm.trans h
        refine go_ops ok_X11_run_163_1 (L' := [some (.inr 0), some (.inl x1), some (.inl x2), some (.inl x3), some (.inl x4), some (.inl (b2i x5)), some (.inl (b2i x6)), none, none, none]) (st' := [.inl (b2i x5)]) (σ1 := σ) rfl ?_
        refine go_ifb_eq dc_X11_run_165 (by rfl) (fun hc => ?_) (fun hc => ?_)
        · replace h := (if_neg hc).symm.trans h
          exact hB_X11_run_185 x1 x2 x3 x4 x5 x6 σ h
        · replace h := (if_pos hc).symm.trans h
          refine go_ops ok_X11_run_168_1 (L' := [some (.inr 0), some (.inl x1), some (.inl x2), some (.inl x3), some (.inl x4), some (.inl (b2i x5)), some (.inl (b2i x6)), none, none, none]) (st' := [.inl (b2i x6)]) (σ1 := σ) rfl ?_
          refine go_ifb_eq dc_X11_run_170 (by rfl) (fun hc => ?_) (fun hc => ?_)
          · replace h := (if_neg hc).symm.trans h
            exact hB_X11_run_185 x1 x2 x3 x4 x5 x6 σ h
          · replace h := (if_pos hc).symm.trans h
            refine go_ops ok_X11_run_173_2 (L' := [some (.inr 0), some (.inl x1), some (.inl x2), some (.inl x3), some (.inl x4), some (.inl (b2i x5)), some (.inl (b2i x6)), none, none, none]) (st' := [.inl 2, .inl x1]) (σ1 := σ) rfl ?_
            refine go_icmp_lt dc_X11_run_175 (by rfl) (fun hc => ?_) (fun hc => ?_)
            · replace h := (if_pos hc).symm.trans h
              exact hB_X11_run_185 x1 x2 x3 x4 x5 x6 σ h
            · replace h := (if_neg hc).symm.trans h
              refine go_ops ok_X11_run_178_2 (L' := [some (.inr 0), some (.inl x1), some (.inl x2), some (.inl x3), some (.inl x4), some (.inl (b2i x5)), some (.inl (b2i x6)), none, none, none]) (st' := [.inl (σ 0 55)]) (σ1 := σ) rfl ?_
              refine go_if_ne dc_X11_run_182 (by rfl) (fun hc => ?_) (fun hc => ?_)
              · replace h := (if_neg hc).symm.trans h
                exact hB_X11_run_189 x1 x2 x3 x4 x5 x6 σ h
              · replace h := (if_pos hc).symm.trans h
                exact hB_X11_run_185 x1 x2 x3 x4 x5 x6 σ h
    refine go_ops ok_X11_run_0_3 (L' := [some (.inr 0), some (.inl a1), some (.inl a2), some (.inl a3), some (.inl a4), none, none, none, none, none]) (st' := [.inl 3, .inl 0, .inl a1]) (σ1 := σ) rfl ?_
    refine go_S (M1 := m_X11_in) (as := [.inl a1, .inl 0, .inl 3]) (st := []) dc_X11_run_3 ln_11_171 sm_X11_in mk_X11_in rfl (Nat.le_of_ble_eq_true rfl) (Nat.le_refl _) (v := (some (.inl (b2i (F_X11_in a1 0 3))))) (σ1 := σ) (lk_X11_in l d (by omega) a1 0 3 σ _ rfl) _ rfl ?_
    obtain ⟨v1, e2, h⟩ := bnd_inv h
    refine go_ops ok_X11_run_6_5 (L' := [some (.inr 0), some (.inl a1), some (.inl a2), some (.inl a3), some (.inl a4), some (.inl (b2i v1)), some (.inl 1), some (.inl 0), none, none]) (st' := []) (σ1 := σ) (by subst e2; rfl) ?_
    obtain ⟨y11, e12, h⟩ := bind_inv h
    refine hL_X11_run_14 a1 a2 a3 a4 σ 4 (v1, true, 0) y11 e12 ?_
    show Go l m_X11_run (d + 1) LAYM (.inl (some (.inl q.1))) q.2 129 [some (.inr 0), some (.inl a1), some (.inl a2), some (.inl a3), some (.inl a4), some (.inl (b2i y11.1)), some (.inl (b2i y11.2)), none, none, none] [] σ
    refine go_ops ok_X11_run_129_1 (L' := [some (.inr 0), some (.inl a1), some (.inl a2), some (.inl a3), some (.inl a4), some (.inl (b2i y11.1)), some (.inl (b2i y11.2)), none, none, none]) (st' := [.inl (b2i y11.1)]) (σ1 := σ) rfl ?_
    refine go_ifb_eq dc_X11_run_131 (by rfl) (fun hc => ?_) (fun hc => ?_)
    · replace h := (if_neg hc).symm.trans h
      exact hB_X11_run_156 a1 a2 a3 a4 y11.1 y11.2 σ h
    · replace h := (if_pos hc).symm.trans h
      refine go_ops ok_X11_run_134_1 (L' := [some (.inr 0), some (.inl a1), some (.inl a2), some (.inl a3), some (.inl a4), some (.inl (b2i y11.1)), some (.inl (b2i y11.2)), none, none, none]) (st' := [.inl (b2i y11.2)]) (σ1 := σ) rfl ?_
      refine go_ifb_eq dc_X11_run_136 (by rfl) (fun hc => ?_) (fun hc => ?_)
      · replace h := (if_neg hc).symm.trans h
        exact hB_X11_run_156 a1 a2 a3 a4 y11.1 y11.2 σ h
      · replace h := (if_pos hc).symm.trans h
        refine go_ops ok_X11_run_139_2 (L' := [some (.inr 0), some (.inl a1), some (.inl a2), some (.inl a3), some (.inl a4), some (.inl (b2i y11.1)), some (.inl (b2i y11.2)), none, none, none]) (st' := [.inl (σ 0 21)]) (σ1 := σ) rfl ?_
        refine go_if_le dc_X11_run_143 (by rfl) (fun hc => ?_) (fun hc => ?_)
        · replace h := (if_pos hc).symm.trans h
          exact hB_X11_run_156 a1 a2 a3 a4 y11.1 y11.2 σ h
        · replace h := (if_neg hc).symm.trans h
          refine go_ops ok_X11_run_146_2 (L' := [some (.inr 0), some (.inl a1), some (.inl a2), some (.inl a3), some (.inl a4), some (.inl (b2i y11.1)), some (.inl (b2i y11.2)), none, none, none]) (st' := [.inl 2, .inl a1]) (σ1 := σ) rfl ?_
          refine go_icmp_lt dc_X11_run_148 (by rfl) (fun hc => ?_) (fun hc => ?_)
          · replace h := (if_pos hc).symm.trans h
            exact hB_X11_run_156 a1 a2 a3 a4 y11.1 y11.2 σ h
          · replace h := (if_neg hc).symm.trans h
            refine go_ops ok_X11_run_151_2 (L' := [some (.inr 0), some (.inl a1), some (.inl a2), some (.inl a3), some (.inl a4), some (.inl (b2i y11.1)), some (.inl (b2i y11.2)), none, none, none]) (st' := [.inl a1, .inr 0]) (σ1 := σ) rfl ?_
            obtain ⟨q27, e28, h⟩ := bind_inv h
            refine go_V (M1 := m_X11_build) (as := [.inl a1]) (st := []) (k := 0) (ci := 11) dc_X11_run_153 ln_11_364 im_X11_build (by decide) rfl rfl mk_X11_build rfl (Nat.le_of_ble_eq_true rfl) (Nat.le_refl _) (v := none) (σ1 := q27) (lk_X11_build l d (by omega) a1 σ q27 e28) _ rfl ?_
            exact hB_X11_run_156 a1 a2 a3 a4 y11.1 y11.2 q27 h
  have hf := go_ct (as := [.inr 0, .inl a1, .inl a2, .inl a3, .inl a4]) mk_X11_run (by rfl) (Nat.le_of_ble_eq_true rfl) key
  exact hf
theorem dc_X11_tests_9 : decode m_X11_tests.2.2.1 9 = .ok (.ireturn, 1) := by decide +kernel
theorem ok_X11_tests_0_5 : oks m_X11_tests.1 m_X11_tests.2.2.1 0 [(.aload_n 0, 1, (0, 0, 0)), (.iconst 0, 1, (0, 0, 0)), (.putfield 168, 3, (11, 0, 0)), (.aload_n 0, 1, (0, 0, 0)), (.getfield 234, 3, (11, 47, 0))] = true ∧ plen 0 [(.aload_n 0, 1, (0, 0, 0)), (.iconst 0, 1, (0, 0, 0)), (.putfield 168, 3, (11, 0, 0)), (.aload_n 0, 1, (0, 0, 0)), (.getfield 234, 3, (11, 47, 0))] = 9 := by decide +kernel
def F_X11_tests (σ : Sg) : (Int × Sg) :=
bnd (up2 σ 0 0 0) fun s1 =>
(s1 0 47, s1)
theorem lk_X11_tests (l : Launch) (d : Nat) (hd : 0 ≤ d) (σ : Sg) (q : (Int × Sg)) (h : F_X11_tests σ = q) : CT l d m_X11_tests.2.1 m_X11_tests.2.2.1 m_X11_tests.2.2.2.1 m_X11_tests.2.2.2.2 [.inr 0] (LAYM, σ) (some (.inl q.1)) (LAYM, q.2) := by
  skip
  have key : Go l m_X11_tests d LAYM (.inl (some (.inl q.1))) q.2 0 [some (.inr 0)] [] σ := by
    unfold F_X11_tests at h
    obtain ⟨s1, e2, h⟩ := bnd_inv h
    refine go_ops ok_X11_tests_0_5 (L' := [some (.inr 0)]) (st' := [.inl (s1 0 47)]) (σ1 := s1) (by subst e2; rfl) ?_
    subst h
    exact go_iret dc_X11_tests_9 rfl
  have hf := go_ct (as := [.inr 0]) mk_X11_tests (by rfl) (Nat.le_of_ble_eq_true rfl) key
  exact hf
theorem dc_X11_views_9 : decode m_X11_views.2.2.1 9 = .ok (.ireturn, 1) := by decide +kernel
theorem ok_X11_views_0_5 : oks m_X11_views.1 m_X11_views.2.2.1 0 [(.aload_n 0, 1, (0, 0, 0)), (.iconst 0, 1, (0, 0, 0)), (.putfield 168, 3, (11, 0, 0)), (.aload_n 0, 1, (0, 0, 0)), (.getfield 237, 3, (11, 48, 0))] = true ∧ plen 0 [(.aload_n 0, 1, (0, 0, 0)), (.iconst 0, 1, (0, 0, 0)), (.putfield 168, 3, (11, 0, 0)), (.aload_n 0, 1, (0, 0, 0)), (.getfield 237, 3, (11, 48, 0))] = 9 := by decide +kernel
def F_X11_views (σ : Sg) : (Int × Sg) :=
bnd (up2 σ 0 0 0) fun s1 =>
(s1 0 48, s1)
theorem lk_X11_views (l : Launch) (d : Nat) (hd : 0 ≤ d) (σ : Sg) (q : (Int × Sg)) (h : F_X11_views σ = q) : CT l d m_X11_views.2.1 m_X11_views.2.2.1 m_X11_views.2.2.2.1 m_X11_views.2.2.2.2 [.inr 0] (LAYM, σ) (some (.inl q.1)) (LAYM, q.2) := by
  skip
  have key : Go l m_X11_views d LAYM (.inl (some (.inl q.1))) q.2 0 [some (.inr 0)] [] σ := by
    unfold F_X11_views at h
    obtain ⟨s1, e2, h⟩ := bnd_inv h
    refine go_ops ok_X11_views_0_5 (L' := [some (.inr 0)]) (st' := [.inl (s1 0 48)]) (σ1 := s1) (by subst e2; rfl) ?_
    subst h
    exact go_iret dc_X11_views_9 rfl
  have hf := go_ct (as := [.inr 0]) mk_X11_views (by rfl) (Nat.le_of_ble_eq_true rfl) key
  exact hf
theorem dc_X11_viewAt_9 : decode m_X11_viewAt.2.2.1 9 = .ok (.invokestatic 171, 3) := by decide +kernel
theorem dc_X11_viewAt_12 : decode m_X11_viewAt.2.2.1 12 = .ok (.ifCond .eq 7, 3) := by decide +kernel
theorem dc_X11_viewAt_16 : decode m_X11_viewAt.2.2.1 16 = .ok (.goto 4, 3) := by decide +kernel
theorem dc_X11_viewAt_20 : decode m_X11_viewAt.2.2.1 20 = .ok (.invokevirtual 183, 3) := by decide +kernel
theorem dc_X11_viewAt_23 : decode m_X11_viewAt.2.2.1 23 = .ok (.ifCond .eq 7, 3) := by decide +kernel
theorem dc_X11_viewAt_27 : decode m_X11_viewAt.2.2.1 27 = .ok (.goto 30, 3) := by decide +kernel
theorem dc_X11_viewAt_38 : decode m_X11_viewAt.2.2.1 38 = .ok (.iaload, 1) := by decide +kernel
theorem dc_X11_viewAt_47 : decode m_X11_viewAt.2.2.1 47 = .ok (.iaload, 1) := by decide +kernel
theorem dc_X11_viewAt_55 : decode m_X11_viewAt.2.2.1 55 = .ok (.iaload, 1) := by decide +kernel
theorem dc_X11_viewAt_57 : decode m_X11_viewAt.2.2.1 57 = .ok (.ireturn, 1) := by decide +kernel
theorem ok_X11_viewAt_0_7 : oks m_X11_viewAt.1 m_X11_viewAt.2.2.1 0 [(.aload_n 0, 1, (0, 0, 0)), (.iload_n 1, 1, (0, 0, 0)), (.iconst 0, 1, (0, 0, 0)), (.aload_n 0, 1, (0, 0, 0)), (.getfield 237, 3, (11, 48, 0)), (.iconst 1, 1, (0, 0, 0)), (.isub, 1, (0, 0, 0))] = true ∧ plen 0 [(.aload_n 0, 1, (0, 0, 0)), (.iload_n 1, 1, (0, 0, 0)), (.iconst 0, 1, (0, 0, 0)), (.aload_n 0, 1, (0, 0, 0)), (.getfield 237, 3, (11, 48, 0)), (.iconst 1, 1, (0, 0, 0)), (.isub, 1, (0, 0, 0))] = 9 := by decide +kernel
theorem ok_X11_viewAt_15_1 : oks m_X11_viewAt.1 m_X11_viewAt.2.2.1 15 [(.iconst 0, 1, (0, 0, 0))] = true ∧ plen 15 [(.iconst 0, 1, (0, 0, 0))] = 16 := by decide +kernel
theorem ok_X11_viewAt_19_1 : oks m_X11_viewAt.1 m_X11_viewAt.2.2.1 19 [(.iconst 1, 1, (0, 0, 0))] = true ∧ plen 19 [(.iconst 1, 1, (0, 0, 0))] = 20 := by decide +kernel
theorem ok_X11_viewAt_26_1 : oks m_X11_viewAt.1 m_X11_viewAt.2.2.1 26 [(.iconst 0, 1, (0, 0, 0))] = true ∧ plen 26 [(.iconst 0, 1, (0, 0, 0))] = 27 := by decide +kernel
theorem ok_X11_viewAt_30_4 : oks m_X11_viewAt.1 m_X11_viewAt.2.2.1 30 [(.ldc_w 373, 3, (0, 0, 100000)), (.aload_n 0, 1, (0, 0, 0)), (.getfield 116, 3, (11, 49, 0)), (.iload_n 1, 1, (0, 0, 0))] = true ∧ plen 30 [(.ldc_w 373, 3, (0, 0, 100000)), (.aload_n 0, 1, (0, 0, 0)), (.getfield 116, 3, (11, 49, 0)), (.iload_n 1, 1, (0, 0, 0))] = 38 := by decide +kernel
theorem ok_X11_viewAt_39_5 : oks m_X11_viewAt.1 m_X11_viewAt.2.2.1 39 [(.imul, 1, (0, 0, 0)), (.bipush 10, 2, (0, 0, 0)), (.aload_n 0, 1, (0, 0, 0)), (.getfield 119, 3, (11, 50, 0)), (.iload_n 1, 1, (0, 0, 0))] = true ∧ plen 39 [(.imul, 1, (0, 0, 0)), (.bipush 10, 2, (0, 0, 0)), (.aload_n 0, 1, (0, 0, 0)), (.getfield 119, 3, (11, 50, 0)), (.iload_n 1, 1, (0, 0, 0))] = 47 := by decide +kernel
theorem ok_X11_viewAt_48_5 : oks m_X11_viewAt.1 m_X11_viewAt.2.2.1 48 [(.imul, 1, (0, 0, 0)), (.iadd, 1, (0, 0, 0)), (.aload_n 0, 1, (0, 0, 0)), (.getfield 122, 3, (11, 51, 0)), (.iload_n 1, 1, (0, 0, 0))] = true ∧ plen 48 [(.imul, 1, (0, 0, 0)), (.iadd, 1, (0, 0, 0)), (.aload_n 0, 1, (0, 0, 0)), (.getfield 122, 3, (11, 51, 0)), (.iload_n 1, 1, (0, 0, 0))] = 55 := by decide +kernel
theorem ok_X11_viewAt_56_1 : oks m_X11_viewAt.1 m_X11_viewAt.2.2.1 56 [(.iadd, 1, (0, 0, 0))] = true ∧ plen 56 [(.iadd, 1, (0, 0, 0))] = 57 := by decide +kernel
def B_X11_viewAt_20 (x1 : Int) (y0 : Bool) (σ : Sg) : Option (Int × Sg) :=
bnd (F_X11_refused (b2i y0) σ) fun q1 =>
if q1.1 = true then
some (0, q1.2)
else
(rdn 1500 q1.2 36 x1).bind fun v3 =>
(rdn 1500 q1.2 37 x1).bind fun v5 =>
(rdn 1500 q1.2 38 x1).bind fun v7 =>
some (wrap ((wrap ((wrap (100000 * v3)) + (wrap (10 * v5)))) + v7), q1.2)
def F_X11_viewAt (a1 : Int) (σ : Sg) : Option (Int × Sg) :=
if (F_X11_in a1 0 (wrap ((σ 0 48) - 1))) = true then
B_X11_viewAt_20 a1 false σ
else
B_X11_viewAt_20 a1 true σ
theorem lk_X11_viewAt (l : Launch) (d : Nat) (hd : 1 ≤ d) (a1 : Int) (σ : Sg) (q : (Int × Sg)) (h : F_X11_viewAt a1 σ = some q) : CT l d m_X11_viewAt.2.1 m_X11_viewAt.2.2.1 m_X11_viewAt.2.2.2.1 m_X11_viewAt.2.2.2.2 [.inr 0, .inl a1] (LAYM, σ) (some (.inl q.1)) (LAYM, q.2) := by
  obtain ⟨d, rfl⟩ : ∃ e, d = e + 1 := ⟨d - 1, by omega⟩
  have key : Go l m_X11_viewAt (d + 1) LAYM (.inl (some (.inl q.1))) q.2 0 [some (.inr 0), some (.inl a1)] [] σ := by
    unfold F_X11_viewAt at h
    have hB_X11_viewAt_20 : ∀ (x1 : Int) (y0 : Bool) (σ : Sg), B_X11_viewAt_20 x1 y0 σ = some q → Go l m_X11_viewAt (d + 1) LAYM (.inl (some (.inl q.1))) q.2 20 [some (.inr 0), some (.inl x1)] [.inl (b2i y0), .inr 0] σ := by
      intro x1 y0 σ h
      unfold B_X11_viewAt_20 at h
      obtain ⟨q1, e2, h⟩ := bnd_inv h
      refine go_V (M1 := m_X11_refused) (as := [.inl (b2i y0)]) (st := []) (k := 0) (ci := 11) dc_X11_viewAt_20 ln_11_183 im_X11_refused (by decide) rfl rfl mk_X11_refused rfl (Nat.le_of_ble_eq_true rfl) (Nat.le_refl _) (v := (some (.inl (b2i q1.1)))) (σ1 := q1.2) (lk_X11_refused l d (by omega) (b2i y0) σ q1 e2.symm) _ rfl ?_
      refine go_ifb_eq dc_X11_viewAt_23 (by rfl) (fun hc => ?_) (fun hc => ?_)
      · replace h := (if_neg hc).symm.trans h
        refine go_ops ok_X11_viewAt_30_4 (L' := [some (.inr 0), some (.inl x1)]) (st' := [.inl x1, .inr 36, .inl 100000]) (σ1 := q1.2) rfl ?_
        obtain ⟨v3, e4, h⟩ := bind_inv h
        refine go_rd (k := 36) dc_X11_viewAt_38 rfl e4 ?_
        refine go_ops ok_X11_viewAt_39_5 (L' := [some (.inr 0), some (.inl x1)]) (st' := [.inl x1, .inr 37, .inl 10, .inl (wrap (100000 * v3))]) (σ1 := q1.2) rfl ?_
        obtain ⟨v5, e6, h⟩ := bind_inv h
        refine go_rd (k := 37) dc_X11_viewAt_47 rfl e6 ?_
        refine go_ops ok_X11_viewAt_48_5 (L' := [some (.inr 0), some (.inl x1)]) (st' := [.inl x1, .inr 38, .inl (wrap ((wrap (100000 * v3)) + (wrap (10 * v5))))]) (σ1 := q1.2) rfl ?_
        obtain ⟨v7, e8, h⟩ := bind_inv h
        refine go_rd (k := 38) dc_X11_viewAt_55 rfl e8 ?_
        refine go_ops ok_X11_viewAt_56_1 (L' := [some (.inr 0), some (.inl x1)]) (st' := [.inl (wrap ((wrap ((wrap (100000 * v3)) + (wrap (10 * v5)))) + v7))]) (σ1 := q1.2) rfl ?_
        have h9 := Option.some.inj h
        subst h9
        exact go_iret dc_X11_viewAt_57 rfl
      · replace h := (if_pos hc).symm.trans h
        refine go_ops ok_X11_viewAt_26_1 (L' := [some (.inr 0), some (.inl x1)]) (st' := [.inl 0]) (σ1 := q1.2) rfl ?_
        refine go_goto dc_X11_viewAt_27 (by rfl) ?_
        have h9 := Option.some.inj h
        subst h9
        exact go_iret dc_X11_viewAt_57 rfl
    refine go_ops ok_X11_viewAt_0_7 (L' := [some (.inr 0), some (.inl a1)]) (st' := [.inl (wrap ((σ 0 48) - 1)), .inl 0, .inl a1, .inr 0]) (σ1 := σ) rfl ?_
    refine go_S (M1 := m_X11_in) (as := [.inl a1, .inl 0, .inl (wrap ((σ 0 48) - 1))]) (st := [.inr 0]) dc_X11_viewAt_9 ln_11_171 sm_X11_in mk_X11_in rfl (Nat.le_of_ble_eq_true rfl) (Nat.le_refl _) (v := (some (.inl (b2i (F_X11_in a1 0 (wrap ((σ 0 48) - 1))))))) (σ1 := σ) (lk_X11_in l d (by omega) a1 0 (wrap ((σ 0 48) - 1)) σ _ rfl) _ rfl ?_
    refine go_ifb_eq dc_X11_viewAt_12 (by rfl) (fun hc => ?_) (fun hc => ?_)
    · replace h := (if_neg hc).symm.trans h
      refine go_ops ok_X11_viewAt_19_1 (L' := [some (.inr 0), some (.inl a1)]) (st' := [.inl 1, .inr 0]) (σ1 := σ) rfl ?_
      exact hB_X11_viewAt_20 a1 true σ h
    · replace h := (if_pos hc).symm.trans h
      refine go_ops ok_X11_viewAt_15_1 (L' := [some (.inr 0), some (.inl a1)]) (st' := [.inl 0, .inr 0]) (σ1 := σ) rfl ?_
      refine go_goto dc_X11_viewAt_16 (by rfl) ?_
      exact hB_X11_viewAt_20 a1 false σ h
  have hf := go_ct (as := [.inr 0, .inl a1]) mk_X11_viewAt (by rfl) (Nat.le_of_ble_eq_true rfl) key
  exact hf
theorem dc_X11_bound_4 : decode m_X11_bound.2.2.1 4 = .ok (.invokestatic 171, 3) := by decide +kernel
theorem dc_X11_bound_7 : decode m_X11_bound.2.2.1 7 = .ok (.ifCond .eq 7, 3) := by decide +kernel
theorem dc_X11_bound_11 : decode m_X11_bound.2.2.1 11 = .ok (.goto 4, 3) := by decide +kernel
theorem dc_X11_bound_15 : decode m_X11_bound.2.2.1 15 = .ok (.invokevirtual 183, 3) := by decide +kernel
theorem dc_X11_bound_18 : decode m_X11_bound.2.2.1 18 = .ok (.ifCond .eq 7, 3) := by decide +kernel
theorem dc_X11_bound_22 : decode m_X11_bound.2.2.1 22 = .ok (.goto 21, 3) := by decide +kernel
theorem dc_X11_bound_30 : decode m_X11_bound.2.2.1 30 = .ok (.if_icmp .ne 7, 3) := by decide +kernel
theorem dc_X11_bound_34 : decode m_X11_bound.2.2.1 34 = .ok (.goto 9, 3) := by decide +kernel
theorem dc_X11_bound_42 : decode m_X11_bound.2.2.1 42 = .ok (.iaload, 1) := by decide +kernel
theorem dc_X11_bound_43 : decode m_X11_bound.2.2.1 43 = .ok (.ireturn, 1) := by decide +kernel
theorem ok_X11_bound_0_4 : oks m_X11_bound.1 m_X11_bound.2.2.1 0 [(.aload_n 0, 1, (0, 0, 0)), (.iload_n 1, 1, (0, 0, 0)), (.iconst 0, 1, (0, 0, 0)), (.iconst 5, 1, (0, 0, 0))] = true ∧ plen 0 [(.aload_n 0, 1, (0, 0, 0)), (.iload_n 1, 1, (0, 0, 0)), (.iconst 0, 1, (0, 0, 0)), (.iconst 5, 1, (0, 0, 0))] = 4 := by decide +kernel
theorem ok_X11_bound_10_1 : oks m_X11_bound.1 m_X11_bound.2.2.1 10 [(.iconst 0, 1, (0, 0, 0))] = true ∧ plen 10 [(.iconst 0, 1, (0, 0, 0))] = 11 := by decide +kernel
theorem ok_X11_bound_14_1 : oks m_X11_bound.1 m_X11_bound.2.2.1 14 [(.iconst 1, 1, (0, 0, 0))] = true ∧ plen 14 [(.iconst 1, 1, (0, 0, 0))] = 15 := by decide +kernel
theorem ok_X11_bound_21_1 : oks m_X11_bound.1 m_X11_bound.2.2.1 21 [(.iconst 0, 1, (0, 0, 0))] = true ∧ plen 21 [(.iconst 0, 1, (0, 0, 0))] = 22 := by decide +kernel
theorem ok_X11_bound_25_3 : oks m_X11_bound.1 m_X11_bound.2.2.1 25 [(.aload_n 0, 1, (0, 0, 0)), (.getfield 165, 3, (11, 52, 0)), (.iconst (-1), 1, (0, 0, 0))] = true ∧ plen 25 [(.aload_n 0, 1, (0, 0, 0)), (.getfield 165, 3, (11, 52, 0)), (.iconst (-1), 1, (0, 0, 0))] = 30 := by decide +kernel
theorem ok_X11_bound_33_1 : oks m_X11_bound.1 m_X11_bound.2.2.1 33 [(.iconst (-1), 1, (0, 0, 0))] = true ∧ plen 33 [(.iconst (-1), 1, (0, 0, 0))] = 34 := by decide +kernel
theorem ok_X11_bound_37_3 : oks m_X11_bound.1 m_X11_bound.2.2.1 37 [(.aload_n 0, 1, (0, 0, 0)), (.getfield 125, 3, (11, 53, 0)), (.iload_n 1, 1, (0, 0, 0))] = true ∧ plen 37 [(.aload_n 0, 1, (0, 0, 0)), (.getfield 125, 3, (11, 53, 0)), (.iload_n 1, 1, (0, 0, 0))] = 42 := by decide +kernel
def B_X11_bound_15 (x1 : Int) (y0 : Bool) (σ : Sg) : Option (Int × Sg) :=
bnd (F_X11_refused (b2i y0) σ) fun q1 =>
if q1.1 = true then
some (0, q1.2)
else
if (q1.2 0 52) = (-1) then
some ((-1), q1.2)
else
(rdn 6 q1.2 39 x1).bind fun v3 =>
some (v3, q1.2)
def F_X11_bound (a1 : Int) (σ : Sg) : Option (Int × Sg) :=
if (F_X11_in a1 0 5) = true then
B_X11_bound_15 a1 false σ
else
B_X11_bound_15 a1 true σ
theorem lk_X11_bound (l : Launch) (d : Nat) (hd : 1 ≤ d) (a1 : Int) (σ : Sg) (q : (Int × Sg)) (h : F_X11_bound a1 σ = some q) : CT l d m_X11_bound.2.1 m_X11_bound.2.2.1 m_X11_bound.2.2.2.1 m_X11_bound.2.2.2.2 [.inr 0, .inl a1] (LAYM, σ) (some (.inl q.1)) (LAYM, q.2) := by
  obtain ⟨d, rfl⟩ : ∃ e, d = e + 1 := ⟨d - 1, by omega⟩
  have key : Go l m_X11_bound (d + 1) LAYM (.inl (some (.inl q.1))) q.2 0 [some (.inr 0), some (.inl a1)] [] σ := by
    unfold F_X11_bound at h
    have hB_X11_bound_15 : ∀ (x1 : Int) (y0 : Bool) (σ : Sg), B_X11_bound_15 x1 y0 σ = some q → Go l m_X11_bound (d + 1) LAYM (.inl (some (.inl q.1))) q.2 15 [some (.inr 0), some (.inl x1)] [.inl (b2i y0), .inr 0] σ := by
      intro x1 y0 σ h
      unfold B_X11_bound_15 at h
      obtain ⟨q1, e2, h⟩ := bnd_inv h
      refine go_V (M1 := m_X11_refused) (as := [.inl (b2i y0)]) (st := []) (k := 0) (ci := 11) dc_X11_bound_15 ln_11_183 im_X11_refused (by decide) rfl rfl mk_X11_refused rfl (Nat.le_of_ble_eq_true rfl) (Nat.le_refl _) (v := (some (.inl (b2i q1.1)))) (σ1 := q1.2) (lk_X11_refused l d (by omega) (b2i y0) σ q1 e2.symm) _ rfl ?_
      refine go_ifb_eq dc_X11_bound_18 (by rfl) (fun hc => ?_) (fun hc => ?_)
      · replace h := (if_neg hc).symm.trans h
        refine go_ops ok_X11_bound_25_3 (L' := [some (.inr 0), some (.inl x1)]) (st' := [.inl (-1), .inl (q1.2 0 52)]) (σ1 := q1.2) rfl ?_
        refine go_icmp_ne dc_X11_bound_30 (by rfl) (fun hc => ?_) (fun hc => ?_)
        · replace h := (if_neg hc).symm.trans h
          refine go_ops ok_X11_bound_37_3 (L' := [some (.inr 0), some (.inl x1)]) (st' := [.inl x1, .inr 39]) (σ1 := q1.2) rfl ?_
          obtain ⟨v3, e4, h⟩ := bind_inv h
          refine go_rd (k := 39) dc_X11_bound_42 rfl e4 ?_
          have h9 := Option.some.inj h
          subst h9
          exact go_iret dc_X11_bound_43 rfl
        · replace h := (if_pos hc).symm.trans h
          refine go_ops ok_X11_bound_33_1 (L' := [some (.inr 0), some (.inl x1)]) (st' := [.inl (-1)]) (σ1 := q1.2) rfl ?_
          refine go_goto dc_X11_bound_34 (by rfl) ?_
          have h9 := Option.some.inj h
          subst h9
          exact go_iret dc_X11_bound_43 rfl
      · replace h := (if_pos hc).symm.trans h
        refine go_ops ok_X11_bound_21_1 (L' := [some (.inr 0), some (.inl x1)]) (st' := [.inl 0]) (σ1 := q1.2) rfl ?_
        refine go_goto dc_X11_bound_22 (by rfl) ?_
        have h9 := Option.some.inj h
        subst h9
        exact go_iret dc_X11_bound_43 rfl
    refine go_ops ok_X11_bound_0_4 (L' := [some (.inr 0), some (.inl a1)]) (st' := [.inl 5, .inl 0, .inl a1, .inr 0]) (σ1 := σ) rfl ?_
    refine go_S (M1 := m_X11_in) (as := [.inl a1, .inl 0, .inl 5]) (st := [.inr 0]) dc_X11_bound_4 ln_11_171 sm_X11_in mk_X11_in rfl (Nat.le_of_ble_eq_true rfl) (Nat.le_refl _) (v := (some (.inl (b2i (F_X11_in a1 0 5))))) (σ1 := σ) (lk_X11_in l d (by omega) a1 0 5 σ _ rfl) _ rfl ?_
    refine go_ifb_eq dc_X11_bound_7 (by rfl) (fun hc => ?_) (fun hc => ?_)
    · replace h := (if_neg hc).symm.trans h
      refine go_ops ok_X11_bound_14_1 (L' := [some (.inr 0), some (.inl a1)]) (st' := [.inl 1, .inr 0]) (σ1 := σ) rfl ?_
      exact hB_X11_bound_15 a1 true σ h
    · replace h := (if_pos hc).symm.trans h
      refine go_ops ok_X11_bound_10_1 (L' := [some (.inr 0), some (.inl a1)]) (st' := [.inl 0, .inr 0]) (σ1 := σ) rfl ?_
      refine go_goto dc_X11_bound_11 (by rfl) ?_
      exact hB_X11_bound_15 a1 false σ h
  have hf := go_ct (as := [.inr 0, .inl a1]) mk_X11_bound (by rfl) (Nat.le_of_ble_eq_true rfl) key
  exact hf
theorem dc_X11_taken_3 : decode m_X11_taken.2.2.1 3 = .ok (.invokevirtual 248, 3) := by decide +kernel
theorem dc_X11_taken_6 : decode m_X11_taken.2.2.1 6 = .ok (.ifCond .eq 7, 3) := by decide +kernel
theorem dc_X11_taken_10 : decode m_X11_taken.2.2.1 10 = .ok (.goto 4, 3) := by decide +kernel
theorem dc_X11_taken_14 : decode m_X11_taken.2.2.1 14 = .ok (.invokevirtual 183, 3) := by decide +kernel
theorem dc_X11_taken_17 : decode m_X11_taken.2.2.1 17 = .ok (.ifCond .eq 7, 3) := by decide +kernel
theorem dc_X11_taken_21 : decode m_X11_taken.2.2.1 21 = .ok (.goto 9, 3) := by decide +kernel
theorem dc_X11_taken_29 : decode m_X11_taken.2.2.1 29 = .ok (.iaload, 1) := by decide +kernel
theorem dc_X11_taken_30 : decode m_X11_taken.2.2.1 30 = .ok (.ireturn, 1) := by decide +kernel
theorem ok_X11_taken_0_3 : oks m_X11_taken.1 m_X11_taken.2.2.1 0 [(.aload_n 0, 1, (0, 0, 0)), (.aload_n 0, 1, (0, 0, 0)), (.iload_n 1, 1, (0, 0, 0))] = true ∧ plen 0 [(.aload_n 0, 1, (0, 0, 0)), (.aload_n 0, 1, (0, 0, 0)), (.iload_n 1, 1, (0, 0, 0))] = 3 := by decide +kernel
theorem ok_X11_taken_9_1 : oks m_X11_taken.1 m_X11_taken.2.2.1 9 [(.iconst 0, 1, (0, 0, 0))] = true ∧ plen 9 [(.iconst 0, 1, (0, 0, 0))] = 10 := by decide +kernel
theorem ok_X11_taken_13_1 : oks m_X11_taken.1 m_X11_taken.2.2.1 13 [(.iconst 1, 1, (0, 0, 0))] = true ∧ plen 13 [(.iconst 1, 1, (0, 0, 0))] = 14 := by decide +kernel
theorem ok_X11_taken_20_1 : oks m_X11_taken.1 m_X11_taken.2.2.1 20 [(.iconst 0, 1, (0, 0, 0))] = true ∧ plen 20 [(.iconst 0, 1, (0, 0, 0))] = 21 := by decide +kernel
theorem ok_X11_taken_24_3 : oks m_X11_taken.1 m_X11_taken.2.2.1 24 [(.aload_n 0, 1, (0, 0, 0)), (.getfield 83, 3, (11, 29, 0)), (.iload_n 1, 1, (0, 0, 0))] = true ∧ plen 24 [(.aload_n 0, 1, (0, 0, 0)), (.getfield 83, 3, (11, 29, 0)), (.iload_n 1, 1, (0, 0, 0))] = 29 := by decide +kernel
def B_X11_taken_14 (x1 : Int) (y0 : Bool) (σ : Sg) : Option (Int × Sg) :=
bnd (F_X11_refused (b2i y0) σ) fun q1 =>
if q1.1 = true then
some (0, q1.2)
else
(rdn 8 q1.2 25 x1).bind fun v3 =>
some (v3, q1.2)
def F_X11_taken (a1 : Int) (σ : Sg) : Option (Int × Sg) :=
if (F_X11_isCase a1 σ) = true then
B_X11_taken_14 a1 false σ
else
B_X11_taken_14 a1 true σ
theorem lk_X11_taken (l : Launch) (d : Nat) (hd : 2 ≤ d) (a1 : Int) (σ : Sg) (q : (Int × Sg)) (h : F_X11_taken a1 σ = some q) : CT l d m_X11_taken.2.1 m_X11_taken.2.2.1 m_X11_taken.2.2.2.1 m_X11_taken.2.2.2.2 [.inr 0, .inl a1] (LAYM, σ) (some (.inl q.1)) (LAYM, q.2) := by
  obtain ⟨d, rfl⟩ : ∃ e, d = e + 1 := ⟨d - 1, by omega⟩
  have key : Go l m_X11_taken (d + 1) LAYM (.inl (some (.inl q.1))) q.2 0 [some (.inr 0), some (.inl a1)] [] σ := by
    unfold F_X11_taken at h
    have hB_X11_taken_14 : ∀ (x1 : Int) (y0 : Bool) (σ : Sg), B_X11_taken_14 x1 y0 σ = some q → Go l m_X11_taken (d + 1) LAYM (.inl (some (.inl q.1))) q.2 14 [some (.inr 0), some (.inl x1)] [.inl (b2i y0), .inr 0] σ := by
      intro x1 y0 σ h
      unfold B_X11_taken_14 at h
      obtain ⟨q1, e2, h⟩ := bnd_inv h
      refine go_V (M1 := m_X11_refused) (as := [.inl (b2i y0)]) (st := []) (k := 0) (ci := 11) dc_X11_taken_14 ln_11_183 im_X11_refused (by decide) rfl rfl mk_X11_refused rfl (Nat.le_of_ble_eq_true rfl) (Nat.le_refl _) (v := (some (.inl (b2i q1.1)))) (σ1 := q1.2) (lk_X11_refused l d (by omega) (b2i y0) σ q1 e2.symm) _ rfl ?_
      refine go_ifb_eq dc_X11_taken_17 (by rfl) (fun hc => ?_) (fun hc => ?_)
      · replace h := (if_neg hc).symm.trans h
        refine go_ops ok_X11_taken_24_3 (L' := [some (.inr 0), some (.inl x1)]) (st' := [.inl x1, .inr 25]) (σ1 := q1.2) rfl ?_
        obtain ⟨v3, e4, h⟩ := bind_inv h
        refine go_rd (k := 25) dc_X11_taken_29 rfl e4 ?_
        have h9 := Option.some.inj h
        subst h9
        exact go_iret dc_X11_taken_30 rfl
      · replace h := (if_pos hc).symm.trans h
        refine go_ops ok_X11_taken_20_1 (L' := [some (.inr 0), some (.inl x1)]) (st' := [.inl 0]) (σ1 := q1.2) rfl ?_
        refine go_goto dc_X11_taken_21 (by rfl) ?_
        have h9 := Option.some.inj h
        subst h9
        exact go_iret dc_X11_taken_30 rfl
    refine go_ops ok_X11_taken_0_3 (L' := [some (.inr 0), some (.inl a1)]) (st' := [.inl a1, .inr 0, .inr 0]) (σ1 := σ) rfl ?_
    refine go_V (M1 := m_X11_isCase) (as := [.inl a1]) (st := [.inr 0]) (k := 0) (ci := 11) dc_X11_taken_3 ln_11_248 im_X11_isCase (by decide) rfl rfl mk_X11_isCase rfl (Nat.le_of_ble_eq_true rfl) (Nat.le_refl _) (v := (some (.inl (b2i (F_X11_isCase a1 σ))))) (σ1 := σ) (lk_X11_isCase l d (by omega) a1 σ _ rfl) _ rfl ?_
    refine go_ifb_eq dc_X11_taken_6 (by rfl) (fun hc => ?_) (fun hc => ?_)
    · replace h := (if_neg hc).symm.trans h
      refine go_ops ok_X11_taken_13_1 (L' := [some (.inr 0), some (.inl a1)]) (st' := [.inl 1, .inr 0]) (σ1 := σ) rfl ?_
      exact hB_X11_taken_14 a1 true σ h
    · replace h := (if_pos hc).symm.trans h
      refine go_ops ok_X11_taken_9_1 (L' := [some (.inr 0), some (.inl a1)]) (st' := [.inl 0, .inr 0]) (σ1 := σ) rfl ?_
      refine go_goto dc_X11_taken_10 (by rfl) ?_
      exact hB_X11_taken_14 a1 false σ h
  have hf := go_ct (as := [.inr 0, .inl a1]) mk_X11_taken (by rfl) (Nat.le_of_ble_eq_true rfl) key
  exact hf
