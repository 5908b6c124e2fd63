/-! the law's helpers, one by one -/
def hh_constructor : List (Nat × Nat × Nat × Nat) := [(0, 16, 19, 13), (0, 16, 23, 15), (0, 16, 27, 17)]
theorem cw_constructor : Cond.codeWith yL_constructor cL_constructor 8 (some .int) hh_constructor ∈ TB := tb_at 383 (by decide +kernel) (by decide +kernel)
theorem sw_constructor : Cond.static yL_constructor ∈ TB := tb_at 382 (by decide +kernel) (by decide +kernel)
theorem dw_constructor_11 : decode cL_constructor 11 = .ok (.invokevirtual 7, 3) := by decide +kernel
theorem dw_constructor_14 : decode cL_constructor 14 = .ok (.i2l, 1) := by decide +kernel
theorem dw_constructor_15 : decode cL_constructor 15 = .ok (.lastore, 1) := by decide +kernel
theorem dw_constructor_16 : decode cL_constructor 16 = .ok (.goto 15, 3) := by decide +kernel
theorem dw_constructor_19 : decode cL_constructor 19 = .ok (.astore 7, 2) := by decide +kernel
theorem dw_constructor_21 : decode cL_constructor 21 = .ok (.iconst 1, 1) := by decide +kernel
theorem dw_constructor_22 : decode cL_constructor 22 = .ok (.ireturn, 1) := by decide +kernel
theorem dw_constructor_23 : decode cL_constructor 23 = .ok (.astore 7, 2) := by decide +kernel
theorem dw_constructor_25 : decode cL_constructor 25 = .ok (.iconst 2, 1) := by decide +kernel
theorem dw_constructor_26 : decode cL_constructor 26 = .ok (.ireturn, 1) := by decide +kernel
theorem dw_constructor_27 : decode cL_constructor 27 = .ok (.astore 7, 2) := by decide +kernel
theorem dw_constructor_29 : decode cL_constructor 29 = .ok (.iconst 3, 1) := by decide +kernel
theorem dw_constructor_30 : decode cL_constructor 30 = .ok (.ireturn, 1) := by decide +kernel
theorem dw_constructor_31 : decode cL_constructor 31 = .ok (.iconst 0, 1) := by decide +kernel
theorem dw_constructor_32 : decode cL_constructor 32 = .ok (.ireturn, 1) := by decide +kernel
theorem ow_constructor : oks 12 cL_constructor 0 [(.aload 6, 2, (0, 0, 0)), (.iconst 0, 1, (0, 0, 0)), (.aload_n 0, 1, (0, 0, 0)), (.iload_n 1, 1, (0, 0, 0)), (.iload_n 2, 1, (0, 0, 0)), (.iload_n 3, 1, (0, 0, 0)), (.iload 4, 2, (0, 0, 0)), (.iload 5, 2, (0, 0, 0))] = true ∧ plen 0 [(.aload 6, 2, (0, 0, 0)), (.iconst 0, 1, (0, 0, 0)), (.aload_n 0, 1, (0, 0, 0)), (.iload_n 1, 1, (0, 0, 0)), (.iload_n 2, 1, (0, 0, 0)), (.iload_n 3, 1, (0, 0, 0)), (.iload 4, 2, (0, 0, 0)), (.iload 5, 2, (0, 0, 0))] = 11 := by decide +kernel
theorem wc_constructor (l : Launch) (hl : l.stackTraces = false) (d : Nat) (hd : 8 ≤ d) (a1 : Int) (a2 : Int) (a3 : Int) (a4 : Int) (a5 : Int) (σ : Sg) (ov k ov' : Int) (q : ((Int ⊕ Nat) × Sg)) (h : F_X10_constructor a1 a2 a3 a4 a5 σ = some q) (hk : kW [(0, 1), (1, 2), (2, 3)] q.1 ov = some (k, ov')) : WC l d yL_constructor cL_constructor 8 hh_constructor [.inr 0, .inl a1, .inl a2, .inl a3, .inl a4, .inl a5, .inr 55] σ ov k q.2 ov' := by
  obtain ⟨d, rfl⟩ : ∃ e, d = e + 1 := ⟨d - 1, by omega⟩
  intro D cI cZ cJ ax ao sz cvs hv hax hσ
  refine va_MetW (cc := cL_constructor) (maxL := 8) (ret := some .int) (hh := hh_constructor) (by decide +kernel) rfl ?_
  intro p e s m args below meth c s₁ B hml hp
  obtain ⟨rfl, hsz, hP, hK, hDd, hT⟩ := hp
  subst hsz
  have hts := atoms_spec (ws := wsH yL_constructor cL_constructor 8 hh_constructor) B.pre
  have htab := vx_table (x := yL_constructor) B (hts _ List.mem_cons_self)
  have hC : Cx 12 cL_constructor 8 false p s m cvs.toArray meth c (Ao ax ao s.heap.size) D cI cZ := ⟨B.exec, B.bytes, hml, findClass_of_methodNamed B.named, fun w hw => hts w (List.mem_cons_of_mem _ hw), B.notSynchronized, (fun h => by cases h), hK.kn, fun q h => Or.inr (Or.inr h)⟩
  have hct := lk_X10_constructor l hl d (by omega) a1 a2 a3 a4 a5 σ q h
  have body : Rg p l e (headSpec (wsH yL_constructor cL_constructor 8 hh_constructor) (rmD (d + 1) 1 6)).room s m cvs.toArray below meth c (PwO D cI cZ cJ ax ao s σ ov) 0 0 (MQ below (va_Qi (fun (r : Int32) (_ : Unit) => r = Int32.ofInt k) (fun _ t => va_P D vwCl (Wo cI cZ cJ ax ao q.2 ov') t.heap ∧ ∀ k i : Nat, inR (q.2 k i)) (Ao ax ao s.heap.size)) cvs.toArray s 1 6 (Ao ax ao s.heap.size)) 8 0 [some (.inr 0), some (.inl a1), some (.inl a2), some (.inl a3), some (.inl a4), some (.inl a5), some (.inr 55), none] [] := by
    refine rg_ops (S := ([], σ)) (S' := ([], σ)) (on := 12) ⟨B.exec, B.bytes⟩ ow_constructor (by decide) (L' := [some (.inr 0), some (.inl a1), some (.inl a2), some (.inl a3), some (.inl a4), some (.inl a5), some (.inr 55), none]) (st' := [.inl a5, .inl a4, .inl a3, .inl a2, .inl a1, .inr 0, .inl 0, .inr 55]) rfl ?_
    obtain ⟨r, σ'⟩ := q
    cases r with
    | inl v =>
      obtain ⟨h91, h92⟩ : (0 : Int) = k ∧ v = ov' := Prod.mk.inj (Option.some.inj hk)
      subst h91 h92
      refine wr_call (M1 := m_X10_constructor) (as := [.inl a1, .inl a2, .inl a3, .inl a4, .inl a5]) (st := [.inl 0, .inr 55]) (z := ozI (.inl v)) (σ' := σ') (d := d + 1) hC rfl rfl (Nat.le_refl 1) (Nat.le_refl 6) dw_constructor_11 ln_12_7 im_X10_constructor mk_X10_constructor rfl rfl (Nat.le_of_ble_eq_true rfl) (Nat.le_refl _) (fun k hk => by simp at hk) hT hct (fun w hw => by cases hw; exact ⟨_, rfl⟩) (fun w hw => ?_) (fun E hE => by cases hE) _ rfl
      cases hw
      refine wr_put hC hK dw_constructor_14 dw_constructor_15 dw_constructor_16 (by rfl) ?_
      exact wr_ret hC (by decide) (by decide) dw_constructor_31 in0 dw_constructor_32 B.returns
    | inr E =>
      obtain ⟨hk2, rfl⟩ := kW_inr hk
      refine wr_call (M1 := m_X10_constructor) (as := [.inl a1, .inl a2, .inl a3, .inl a4, .inl a5]) (st := [.inl 0, .inr 55]) (z := ozI (.inr E)) (σ' := σ') (d := d + 1) hC rfl rfl (Nat.le_refl 1) (Nat.le_refl 6) dw_constructor_11 ln_12_7 im_X10_constructor mk_X10_constructor rfl rfl (Nat.le_of_ble_eq_true rfl) (Nat.le_refl _) (fun k hk => by simp at hk) hT hct (fun w hw => by cases hw) (fun w hw => by cases hw) (fun E2 hE2 ads H1 locs1 ls crest ce q9 hP1 hL1 hce hcv hcl => ?_) _ rfl
      cases hE2
      rcases kE_inv hk2 with ⟨hE9, hk9⟩ | ⟨-, hk2⟩
      · obtain rfl : E = 0 := hE9
        obtain rfl : k = 1 := hk9
        exact wr_exc (E := 0) (k := 1) (j := 7) (n := 2) hC hK hP1 hL1 (Nat.le_of_ble_eq_true rfl) hce hcv hcl [] ⟨0, 16, 19, 13⟩ [⟨0, 16, 23, 15⟩, ⟨0, 16, 27, 17⟩] (htab.trans rfl) (fun z hz => by cases hz) (by decide) (by decide) clw0 rfl (Or.inl ⟨rfl, dw_constructor_19⟩) dw_constructor_21 dw_constructor_22 (by unfold inR; decide) B.returns
      rcases kE_inv hk2 with ⟨hE9, hk9⟩ | ⟨-, hk2⟩
      · obtain rfl : E = 1 := hE9
        obtain rfl : k = 2 := hk9
        exact wr_exc (E := 1) (k := 2) (j := 7) (n := 2) hC hK hP1 hL1 (Nat.le_of_ble_eq_true rfl) hce hcv hcl [⟨0, 16, 19, 13⟩] ⟨0, 16, 23, 15⟩ [⟨0, 16, 27, 17⟩] (htab.trans rfl) (fun z hz => by rcases List.mem_cons.mp hz with rfl | hz; exact ⟨by decide, exN 0, clw0, hK.2.2 1 0 (by decide) (by decide) (by decide)⟩; cases hz) (by decide) (by decide) clw1 rfl (Or.inl ⟨rfl, dw_constructor_23⟩) dw_constructor_25 dw_constructor_26 (by unfold inR; decide) B.returns
      rcases kE_inv hk2 with ⟨hE9, hk9⟩ | ⟨-, hk2⟩
      · obtain rfl : E = 2 := hE9
        obtain rfl : k = 3 := hk9
        exact wr_exc (E := 2) (k := 3) (j := 7) (n := 2) hC hK hP1 hL1 (Nat.le_of_ble_eq_true rfl) hce hcv hcl [⟨0, 16, 19, 13⟩, ⟨0, 16, 23, 15⟩] ⟨0, 16, 27, 17⟩ [] (htab.trans rfl) (fun z hz => by rcases List.mem_cons.mp hz with rfl | hz; exact ⟨by decide, exN 0, clw0, hK.2.2 2 0 (by decide) (by decide) (by decide)⟩; rcases List.mem_cons.mp hz with rfl | hz; exact ⟨by decide, exN 1, clw1, hK.2.2 2 1 (by decide) (by decide) (by decide)⟩; cases hz) (by decide) (by decide) clw2 rfl (Or.inl ⟨rfl, dw_constructor_27⟩) dw_constructor_29 dw_constructor_30 (by unfold inR; decide) B.returns
      cases hk2
  have hw := body (ax ++ [ao]) s.heap [] _ [] ⟨rfl, hP, wo_A hax hDd, va_S.rf, hax, hσ⟩ (ent_lrs hv (Nat.le_of_ble_eq_true rfl)) trivial
  rw [lg_entry_eq]
  exact hw
def hh_num : List (Nat × Nat × Nat × Nat) := [(0, 9, 12, 15), (0, 9, 15, 17)]
theorem cw_num : Cond.codeWith yL_num cL_num 4 (some .int) hh_num ∈ TB := tb_at 542 (by decide +kernel) (by decide +kernel)
theorem sw_num : Cond.static yL_num ∈ TB := tb_at 541 (by decide +kernel) (by decide +kernel)
theorem dw_num_4 : decode cL_num 4 = .ok (.invokevirtual 19, 3) := by decide +kernel
theorem dw_num_7 : decode cL_num 7 = .ok (.i2l, 1) := by decide +kernel
theorem dw_num_8 : decode cL_num 8 = .ok (.lastore, 1) := by decide +kernel
theorem dw_num_9 : decode cL_num 9 = .ok (.goto 9, 3) := by decide +kernel
theorem dw_num_12 : decode cL_num 12 = .ok (.astore_n 3, 1) := by decide +kernel
theorem dw_num_13 : decode cL_num 13 = .ok (.iconst 1, 1) := by decide +kernel
theorem dw_num_14 : decode cL_num 14 = .ok (.ireturn, 1) := by decide +kernel
theorem dw_num_15 : decode cL_num 15 = .ok (.astore_n 3, 1) := by decide +kernel
theorem dw_num_16 : decode cL_num 16 = .ok (.iconst 2, 1) := by decide +kernel
theorem dw_num_17 : decode cL_num 17 = .ok (.ireturn, 1) := by decide +kernel
theorem dw_num_18 : decode cL_num 18 = .ok (.iconst 0, 1) := by decide +kernel
theorem dw_num_19 : decode cL_num 19 = .ok (.ireturn, 1) := by decide +kernel
theorem ow_num : oks 12 cL_num 0 [(.aload_n 2, 1, (0, 0, 0)), (.iconst 0, 1, (0, 0, 0)), (.aload_n 0, 1, (0, 0, 0)), (.iload_n 1, 1, (0, 0, 0))] = true ∧ plen 0 [(.aload_n 2, 1, (0, 0, 0)), (.iconst 0, 1, (0, 0, 0)), (.aload_n 0, 1, (0, 0, 0)), (.iload_n 1, 1, (0, 0, 0))] = 4 := by decide +kernel
theorem wc_num (l : Launch) (hl : l.stackTraces = false) (d : Nat) (hd : 8 ≤ d) (a1 : Int) (σ : Sg) (ov k ov' : Int) (q : ((Int ⊕ Nat) × Sg)) (h : F_X10_num a1 σ = some q) (hk : kW [(1, 1), (2, 2)] q.1 ov = some (k, ov')) : WC l d yL_num cL_num 4 hh_num [.inr 0, .inl a1, .inr 55] σ ov k q.2 ov' := by
  obtain ⟨d, rfl⟩ : ∃ e, d = e + 1 := ⟨d - 1, by omega⟩
  intro D cI cZ cJ ax ao sz cvs hv hax hσ
  refine va_MetW (cc := cL_num) (maxL := 4) (ret := some .int) (hh := hh_num) (by decide +kernel) rfl ?_
  intro p e s m args below meth c s₁ B hml hp
  obtain ⟨rfl, hsz, hP, hK, hDd, hT⟩ := hp
  subst hsz
  have hts := atoms_spec (ws := wsH yL_num cL_num 4 hh_num) B.pre
  have htab := vx_table (x := yL_num) B (hts _ List.mem_cons_self)
  have hC : Cx 12 cL_num 4 false p s m cvs.toArray meth c (Ao ax ao s.heap.size) D cI cZ := ⟨B.exec, B.bytes, hml, findClass_of_methodNamed B.named, fun w hw => hts w (List.mem_cons_of_mem _ hw), B.notSynchronized, (fun h => by cases h), hK.kn, fun q h => Or.inr (Or.inr h)⟩
  have hct := lk_X10_num l hl d (by omega) a1 σ q h
  have body : Rg p l e (headSpec (wsH yL_num cL_num 4 hh_num) (rmD (d + 1) 1 6)).room s m cvs.toArray below meth c (PwO D cI cZ cJ ax ao s σ ov) 0 0 (MQ below (va_Qi (fun (r : Int32) (_ : Unit) => r = Int32.ofInt k) (fun _ t => va_P D vwCl (Wo cI cZ cJ ax ao q.2 ov') t.heap ∧ ∀ k i : Nat, inR (q.2 k i)) (Ao ax ao s.heap.size)) cvs.toArray s 1 6 (Ao ax ao s.heap.size)) 4 0 [some (.inr 0), some (.inl a1), some (.inr 55), none] [] := by
    refine rg_ops (S := ([], σ)) (S' := ([], σ)) (on := 12) ⟨B.exec, B.bytes⟩ ow_num (by decide) (L' := [some (.inr 0), some (.inl a1), some (.inr 55), none]) (st' := [.inl a1, .inr 0, .inl 0, .inr 55]) rfl ?_
    obtain ⟨r, σ'⟩ := q
    cases r with
    | inl v =>
      obtain ⟨h91, h92⟩ : (0 : Int) = k ∧ v = ov' := Prod.mk.inj (Option.some.inj hk)
      subst h91 h92
      refine wr_call (M1 := m_X10_num) (as := [.inl a1]) (st := [.inl 0, .inr 55]) (z := ozI (.inl v)) (σ' := σ') (d := d + 1) hC rfl rfl (Nat.le_refl 1) (Nat.le_refl 6) dw_num_4 ln_12_19 im_X10_num mk_X10_num rfl rfl (Nat.le_of_ble_eq_true rfl) (Nat.le_refl _) (fun k hk => by simp at hk) hT hct (fun w hw => by cases hw; exact ⟨_, rfl⟩) (fun w hw => ?_) (fun E hE => by cases hE) _ rfl
      cases hw
      refine wr_put hC hK dw_num_7 dw_num_8 dw_num_9 (by rfl) ?_
      exact wr_ret hC (by decide) (by decide) dw_num_18 in0 dw_num_19 B.returns
    | inr E =>
      obtain ⟨hk2, rfl⟩ := kW_inr hk
      refine wr_call (M1 := m_X10_num) (as := [.inl a1]) (st := [.inl 0, .inr 55]) (z := ozI (.inr E)) (σ' := σ') (d := d + 1) hC rfl rfl (Nat.le_refl 1) (Nat.le_refl 6) dw_num_4 ln_12_19 im_X10_num mk_X10_num rfl rfl (Nat.le_of_ble_eq_true rfl) (Nat.le_refl _) (fun k hk => by simp at hk) hT hct (fun w hw => by cases hw) (fun w hw => by cases hw) (fun E2 hE2 ads H1 locs1 ls crest ce q9 hP1 hL1 hce hcv hcl => ?_) _ rfl
      cases hE2
      rcases kE_inv hk2 with ⟨hE9, hk9⟩ | ⟨-, hk2⟩
      · obtain rfl : E = 1 := hE9
        obtain rfl : k = 1 := hk9
        exact wr_exc (E := 1) (k := 1) (j := 3) (n := 1) hC hK hP1 hL1 (Nat.le_of_ble_eq_true rfl) hce hcv hcl [] ⟨0, 9, 12, 15⟩ [⟨0, 9, 15, 17⟩] (htab.trans rfl) (fun z hz => by cases hz) (by decide) (by decide) clw1 rfl (Or.inr ⟨rfl, 3, rfl, dw_num_12⟩) dw_num_13 dw_num_14 (by unfold inR; decide) B.returns
      rcases kE_inv hk2 with ⟨hE9, hk9⟩ | ⟨-, hk2⟩
      · obtain rfl : E = 2 := hE9
        obtain rfl : k = 2 := hk9
        exact wr_exc (E := 2) (k := 2) (j := 3) (n := 1) hC hK hP1 hL1 (Nat.le_of_ble_eq_true rfl) hce hcv hcl [⟨0, 9, 12, 15⟩] ⟨0, 9, 15, 17⟩ [] (htab.trans rfl) (fun z hz => by rcases List.mem_cons.mp hz with rfl | hz; exact ⟨by decide, exN 1, clw1, hK.2.2 2 1 (by decide) (by decide) (by decide)⟩; cases hz) (by decide) (by decide) clw2 rfl (Or.inr ⟨rfl, 3, rfl, dw_num_15⟩) dw_num_16 dw_num_17 (by unfold inR; decide) B.returns
      cases hk2
  have hw := body (ax ++ [ao]) s.heap [] _ [] ⟨rfl, hP, wo_A hax hDd, va_S.rf, hax, hσ⟩ (ent_lrs hv (Nat.le_of_ble_eq_true rfl)) trivial
  rw [lg_entry_eq]
  exact hw
def hh_seq : List (Nat × Nat × Nat × Nat) := [(0, 14, 17, 15), (0, 14, 21, 17)]
theorem cw_seq : Cond.codeWith yL_seq cL_seq 7 (some .int) hh_seq ∈ TB := tb_at 585 (by decide +kernel) (by decide +kernel)
theorem sw_seq : Cond.static yL_seq ∈ TB := tb_at 584 (by decide +kernel) (by decide +kernel)
theorem dw_seq_9 : decode cL_seq 9 = .ok (.invokevirtual 23, 3) := by decide +kernel
theorem dw_seq_12 : decode cL_seq 12 = .ok (.i2l, 1) := by decide +kernel
theorem dw_seq_13 : decode cL_seq 13 = .ok (.lastore, 1) := by decide +kernel
theorem dw_seq_14 : decode cL_seq 14 = .ok (.goto 11, 3) := by decide +kernel
theorem dw_seq_17 : decode cL_seq 17 = .ok (.astore 6, 2) := by decide +kernel
theorem dw_seq_19 : decode cL_seq 19 = .ok (.iconst 1, 1) := by decide +kernel
theorem dw_seq_20 : decode cL_seq 20 = .ok (.ireturn, 1) := by decide +kernel
theorem dw_seq_21 : decode cL_seq 21 = .ok (.astore 6, 2) := by decide +kernel
theorem dw_seq_23 : decode cL_seq 23 = .ok (.iconst 2, 1) := by decide +kernel
theorem dw_seq_24 : decode cL_seq 24 = .ok (.ireturn, 1) := by decide +kernel
theorem dw_seq_25 : decode cL_seq 25 = .ok (.iconst 0, 1) := by decide +kernel
theorem dw_seq_26 : decode cL_seq 26 = .ok (.ireturn, 1) := by decide +kernel
theorem ow_seq : oks 12 cL_seq 0 [(.aload 5, 2, (0, 0, 0)), (.iconst 0, 1, (0, 0, 0)), (.aload_n 0, 1, (0, 0, 0)), (.iload_n 1, 1, (0, 0, 0)), (.iload_n 2, 1, (0, 0, 0)), (.iload_n 3, 1, (0, 0, 0)), (.iload 4, 2, (0, 0, 0))] = true ∧ plen 0 [(.aload 5, 2, (0, 0, 0)), (.iconst 0, 1, (0, 0, 0)), (.aload_n 0, 1, (0, 0, 0)), (.iload_n 1, 1, (0, 0, 0)), (.iload_n 2, 1, (0, 0, 0)), (.iload_n 3, 1, (0, 0, 0)), (.iload 4, 2, (0, 0, 0))] = 9 := by decide +kernel
theorem wc_seq (l : Launch) (hl : l.stackTraces = false) (d : Nat) (hd : 8 ≤ d) (a1 : Int) (a2 : Int) (a3 : Int) (a4 : Int) (σ : Sg) (ov k ov' : Int) (q : ((Int ⊕ Nat) × Sg)) (h : F_X10_seq a1 a2 a3 a4 σ = some q) (hk : kW [(1, 1), (2, 2)] q.1 ov = some (k, ov')) : WC l d yL_seq cL_seq 7 hh_seq [.inr 0, .inl a1, .inl a2, .inl a3, .inl a4, .inr 55] σ ov k q.2 ov' := by
  obtain ⟨d, rfl⟩ : ∃ e, d = e + 1 := ⟨d - 1, by omega⟩
  intro D cI cZ cJ ax ao sz cvs hv hax hσ
  refine va_MetW (cc := cL_seq) (maxL := 7) (ret := some .int) (hh := hh_seq) (by decide +kernel) rfl ?_
  intro p e s m args below meth c s₁ B hml hp
  obtain ⟨rfl, hsz, hP, hK, hDd, hT⟩ := hp
  subst hsz
  have hts := atoms_spec (ws := wsH yL_seq cL_seq 7 hh_seq) B.pre
  have htab := vx_table (x := yL_seq) B (hts _ List.mem_cons_self)
  have hC : Cx 12 cL_seq 7 false p s m cvs.toArray meth c (Ao ax ao s.heap.size) D cI cZ := ⟨B.exec, B.bytes, hml, findClass_of_methodNamed B.named, fun w hw => hts w (List.mem_cons_of_mem _ hw), B.notSynchronized, (fun h => by cases h), hK.kn, fun q h => Or.inr (Or.inr h)⟩
  have hct := lk_X10_seq l hl d (by omega) a1 a2 a3 a4 σ q h
  have body : Rg p l e (headSpec (wsH yL_seq cL_seq 7 hh_seq) (rmD (d + 1) 1 6)).room s m cvs.toArray below meth c (PwO D cI cZ cJ ax ao s σ ov) 0 0 (MQ below (va_Qi (fun (r : Int32) (_ : Unit) => r = Int32.ofInt k) (fun _ t => va_P D vwCl (Wo cI cZ cJ ax ao q.2 ov') t.heap ∧ ∀ k i : Nat, inR (q.2 k i)) (Ao ax ao s.heap.size)) cvs.toArray s 1 6 (Ao ax ao s.heap.size)) 7 0 [some (.inr 0), some (.inl a1), some (.inl a2), some (.inl a3), some (.inl a4), some (.inr 55), none] [] := by
    refine rg_ops (S := ([], σ)) (S' := ([], σ)) (on := 12) ⟨B.exec, B.bytes⟩ ow_seq (by decide) (L' := [some (.inr 0), some (.inl a1), some (.inl a2), some (.inl a3), some (.inl a4), some (.inr 55), none]) (st' := [.inl a4, .inl a3, .inl a2, .inl a1, .inr 0, .inl 0, .inr 55]) rfl ?_
    obtain ⟨r, σ'⟩ := q
    cases r with
    | inl v =>
      obtain ⟨h91, h92⟩ : (0 : Int) = k ∧ v = ov' := Prod.mk.inj (Option.some.inj hk)
      subst h91 h92
      refine wr_call (M1 := m_X10_seq) (as := [.inl a1, .inl a2, .inl a3, .inl a4]) (st := [.inl 0, .inr 55]) (z := ozI (.inl v)) (σ' := σ') (d := d + 1) hC rfl rfl (Nat.le_refl 1) (Nat.le_refl 6) dw_seq_9 ln_12_23 im_X10_seq mk_X10_seq rfl rfl (Nat.le_of_ble_eq_true rfl) (Nat.le_refl _) (fun k hk => by simp at hk) hT hct (fun w hw => by cases hw; exact ⟨_, rfl⟩) (fun w hw => ?_) (fun E hE => by cases hE) _ rfl
      cases hw
      refine wr_put hC hK dw_seq_12 dw_seq_13 dw_seq_14 (by rfl) ?_
      exact wr_ret hC (by decide) (by decide) dw_seq_25 in0 dw_seq_26 B.returns
    | inr E =>
      obtain ⟨hk2, rfl⟩ := kW_inr hk
      refine wr_call (M1 := m_X10_seq) (as := [.inl a1, .inl a2, .inl a3, .inl a4]) (st := [.inl 0, .inr 55]) (z := ozI (.inr E)) (σ' := σ') (d := d + 1) hC rfl rfl (Nat.le_refl 1) (Nat.le_refl 6) dw_seq_9 ln_12_23 im_X10_seq mk_X10_seq rfl rfl (Nat.le_of_ble_eq_true rfl) (Nat.le_refl _) (fun k hk => by simp at hk) hT hct (fun w hw => by cases hw) (fun w hw => by cases hw) (fun E2 hE2 ads H1 locs1 ls crest ce q9 hP1 hL1 hce hcv hcl => ?_) _ rfl
      cases hE2
      rcases kE_inv hk2 with ⟨hE9, hk9⟩ | ⟨-, hk2⟩
      · obtain rfl : E = 1 := hE9
        obtain rfl : k = 1 := hk9
        exact wr_exc (E := 1) (k := 1) (j := 6) (n := 2) hC hK hP1 hL1 (Nat.le_of_ble_eq_true rfl) hce hcv hcl [] ⟨0, 14, 17, 15⟩ [⟨0, 14, 21, 17⟩] (htab.trans rfl) (fun z hz => by cases hz) (by decide) (by decide) clw1 rfl (Or.inl ⟨rfl, dw_seq_17⟩) dw_seq_19 dw_seq_20 (by unfold inR; decide) B.returns
      rcases kE_inv hk2 with ⟨hE9, hk9⟩ | ⟨-, hk2⟩
      · obtain rfl : E = 2 := hE9
        obtain rfl : k = 2 := hk9
        exact wr_exc (E := 2) (k := 2) (j := 6) (n := 2) hC hK hP1 hL1 (Nat.le_of_ble_eq_true rfl) hce hcv hcl [⟨0, 14, 17, 15⟩] ⟨0, 14, 21, 17⟩ [] (htab.trans rfl) (fun z hz => by rcases List.mem_cons.mp hz with rfl | hz; exact ⟨by decide, exN 1, clw1, hK.2.2 2 1 (by decide) (by decide) (by decide)⟩; cases hz) (by decide) (by decide) clw2 rfl (Or.inl ⟨rfl, dw_seq_21⟩) dw_seq_23 dw_seq_24 (by unfold inR; decide) B.returns
      cases hk2
  have hw := body (ax ++ [ao]) s.heap [] _ [] ⟨rfl, hP, wo_A hax hDd, va_S.rf, hax, hσ⟩ (ent_lrs hv (Nat.le_of_ble_eq_true rfl)) trivial
  rw [lg_entry_eq]
  exact hw
def hh_data : List (Nat × Nat × Nat × Nat) := [(0, 16, 19, 13), (0, 16, 23, 15), (0, 16, 27, 17)]
theorem cw_data : Cond.codeWith yL_data cL_data 8 (some .int) hh_data ∈ TB := tb_at 595 (by decide +kernel) (by decide +kernel)
theorem sw_data : Cond.static yL_data ∈ TB := tb_at 594 (by decide +kernel) (by decide +kernel)
theorem dw_data_11 : decode cL_data 11 = .ok (.invokevirtual 27, 3) := by decide +kernel
theorem dw_data_14 : decode cL_data 14 = .ok (.i2l, 1) := by decide +kernel
theorem dw_data_15 : decode cL_data 15 = .ok (.lastore, 1) := by decide +kernel
theorem dw_data_16 : decode cL_data 16 = .ok (.goto 15, 3) := by decide +kernel
theorem dw_data_19 : decode cL_data 19 = .ok (.astore 7, 2) := by decide +kernel
theorem dw_data_21 : decode cL_data 21 = .ok (.iconst 1, 1) := by decide +kernel
theorem dw_data_22 : decode cL_data 22 = .ok (.ireturn, 1) := by decide +kernel
theorem dw_data_23 : decode cL_data 23 = .ok (.astore 7, 2) := by decide +kernel
theorem dw_data_25 : decode cL_data 25 = .ok (.iconst 2, 1) := by decide +kernel
theorem dw_data_26 : decode cL_data 26 = .ok (.ireturn, 1) := by decide +kernel
theorem dw_data_27 : decode cL_data 27 = .ok (.astore 7, 2) := by decide +kernel
theorem dw_data_29 : decode cL_data 29 = .ok (.iconst 3, 1) := by decide +kernel
theorem dw_data_30 : decode cL_data 30 = .ok (.ireturn, 1) := by decide +kernel
theorem dw_data_31 : decode cL_data 31 = .ok (.iconst 0, 1) := by decide +kernel
theorem dw_data_32 : decode cL_data 32 = .ok (.ireturn, 1) := by decide +kernel
theorem ow_data : oks 12 cL_data 0 [(.aload 6, 2, (0, 0, 0)), (.iconst 0, 1, (0, 0, 0)), (.aload_n 0, 1, (0, 0, 0)), (.iload_n 1, 1, (0, 0, 0)), (.iload_n 2, 1, (0, 0, 0)), (.iload_n 3, 1, (0, 0, 0)), (.iload 4, 2, (0, 0, 0)), (.iload 5, 2, (0, 0, 0))] = true ∧ plen 0 [(.aload 6, 2, (0, 0, 0)), (.iconst 0, 1, (0, 0, 0)), (.aload_n 0, 1, (0, 0, 0)), (.iload_n 1, 1, (0, 0, 0)), (.iload_n 2, 1, (0, 0, 0)), (.iload_n 3, 1, (0, 0, 0)), (.iload 4, 2, (0, 0, 0)), (.iload 5, 2, (0, 0, 0))] = 11 := by decide +kernel
theorem wc_data (l : Launch) (hl : l.stackTraces = false) (d : Nat) (hd : 9 ≤ d) (a1 : Int) (a2 : Int) (a3 : Int) (a4 : Int) (a5 : Int) (σ : Sg) (ov k ov' : Int) (q : ((Int ⊕ Nat) × Sg)) (h : F_X10_data a1 a2 a3 a4 a5 σ = some q) (hk : kW [(0, 1), (1, 2), (2, 3)] q.1 ov = some (k, ov')) : WC l d yL_data cL_data 8 hh_data [.inr 0, .inl a1, .inl a2, .inl a3, .inl a4, .inl a5, .inr 55] σ ov k q.2 ov' := by
  obtain ⟨d, rfl⟩ : ∃ e, d = e + 1 := ⟨d - 1, by omega⟩
  intro D cI cZ cJ ax ao sz cvs hv hax hσ
  refine va_MetW (cc := cL_data) (maxL := 8) (ret := some .int) (hh := hh_data) (by decide +kernel) rfl ?_
  intro p e s m args below meth c s₁ B hml hp
  obtain ⟨rfl, hsz, hP, hK, hDd, hT⟩ := hp
  subst hsz
  have hts := atoms_spec (ws := wsH yL_data cL_data 8 hh_data) B.pre
  have htab := vx_table (x := yL_data) B (hts _ List.mem_cons_self)
  have hC : Cx 12 cL_data 8 false p s m cvs.toArray meth c (Ao ax ao s.heap.size) D cI cZ := ⟨B.exec, B.bytes, hml, findClass_of_methodNamed B.named, fun w hw => hts w (List.mem_cons_of_mem _ hw), B.notSynchronized, (fun h => by cases h), hK.kn, fun q h => Or.inr (Or.inr h)⟩
  have hct := lk_X10_data l hl d (by omega) a1 a2 a3 a4 a5 σ q h
  have body : Rg p l e (headSpec (wsH yL_data cL_data 8 hh_data) (rmD (d + 1) 1 6)).room s m cvs.toArray below meth c (PwO D cI cZ cJ ax ao s σ ov) 0 0 (MQ below (va_Qi (fun (r : Int32) (_ : Unit) => r = Int32.ofInt k) (fun _ t => va_P D vwCl (Wo cI cZ cJ ax ao q.2 ov') t.heap ∧ ∀ k i : Nat, inR (q.2 k i)) (Ao ax ao s.heap.size)) cvs.toArray s 1 6 (Ao ax ao s.heap.size)) 8 0 [some (.inr 0), some (.inl a1), some (.inl a2), some (.inl a3), some (.inl a4), some (.inl a5), some (.inr 55), none] [] := by
    refine rg_ops (S := ([], σ)) (S' := ([], σ)) (on := 12) ⟨B.exec, B.bytes⟩ ow_data (by decide) (L' := [some (.inr 0), some (.inl a1), some (.inl a2), some (.inl a3), some (.inl a4), some (.inl a5), some (.inr 55), none]) (st' := [.inl a5, .inl a4, .inl a3, .inl a2, .inl a1, .inr 0, .inl 0, .inr 55]) rfl ?_
    obtain ⟨r, σ'⟩ := q
    cases r with
    | inl v =>
      obtain ⟨h91, h92⟩ : (0 : Int) = k ∧ v = ov' := Prod.mk.inj (Option.some.inj hk)
      subst h91 h92
      refine wr_call (M1 := m_X10_data) (as := [.inl a1, .inl a2, .inl a3, .inl a4, .inl a5]) (st := [.inl 0, .inr 55]) (z := ozI (.inl v)) (σ' := σ') (d := d + 1) hC rfl rfl (Nat.le_refl 1) (Nat.le_refl 6) dw_data_11 ln_12_27 im_X10_data mk_X10_data rfl rfl (Nat.le_of_ble_eq_true rfl) (Nat.le_refl _) (fun k hk => by simp at hk) hT hct (fun w hw => by cases hw; exact ⟨_, rfl⟩) (fun w hw => ?_) (fun E hE => by cases hE) _ rfl
      cases hw
      refine wr_put hC hK dw_data_14 dw_data_15 dw_data_16 (by rfl) ?_
      exact wr_ret hC (by decide) (by decide) dw_data_31 in0 dw_data_32 B.returns
    | inr E =>
      obtain ⟨hk2, rfl⟩ := kW_inr hk
      refine wr_call (M1 := m_X10_data) (as := [.inl a1, .inl a2, .inl a3, .inl a4, .inl a5]) (st := [.inl 0, .inr 55]) (z := ozI (.inr E)) (σ' := σ') (d := d + 1) hC rfl rfl (Nat.le_refl 1) (Nat.le_refl 6) dw_data_11 ln_12_27 im_X10_data mk_X10_data rfl rfl (Nat.le_of_ble_eq_true rfl) (Nat.le_refl _) (fun k hk => by simp at hk) hT hct (fun w hw => by cases hw) (fun w hw => by cases hw) (fun E2 hE2 ads H1 locs1 ls crest ce q9 hP1 hL1 hce hcv hcl => ?_) _ rfl
      cases hE2
      rcases kE_inv hk2 with ⟨hE9, hk9⟩ | ⟨-, hk2⟩
      · obtain rfl : E = 0 := hE9
        obtain rfl : k = 1 := hk9
        exact wr_exc (E := 0) (k := 1) (j := 7) (n := 2) hC hK hP1 hL1 (Nat.le_of_ble_eq_true rfl) hce hcv hcl [] ⟨0, 16, 19, 13⟩ [⟨0, 16, 23, 15⟩, ⟨0, 16, 27, 17⟩] (htab.trans rfl) (fun z hz => by cases hz) (by decide) (by decide) clw0 rfl (Or.inl ⟨rfl, dw_data_19⟩) dw_data_21 dw_data_22 (by unfold inR; decide) B.returns
      rcases kE_inv hk2 with ⟨hE9, hk9⟩ | ⟨-, hk2⟩
      · obtain rfl : E = 1 := hE9
        obtain rfl : k = 2 := hk9
        exact wr_exc (E := 1) (k := 2) (j := 7) (n := 2) hC hK hP1 hL1 (Nat.le_of_ble_eq_true rfl) hce hcv hcl [⟨0, 16, 19, 13⟩] ⟨0, 16, 23, 15⟩ [⟨0, 16, 27, 17⟩] (htab.trans rfl) (fun z hz => by rcases List.mem_cons.mp hz with rfl | hz; exact ⟨by decide, exN 0, clw0, hK.2.2 1 0 (by decide) (by decide) (by decide)⟩; cases hz) (by decide) (by decide) clw1 rfl (Or.inl ⟨rfl, dw_data_23⟩) dw_data_25 dw_data_26 (by unfold inR; decide) B.returns
      rcases kE_inv hk2 with ⟨hE9, hk9⟩ | ⟨-, hk2⟩
      · obtain rfl : E = 2 := hE9
        obtain rfl : k = 3 := hk9
        exact wr_exc (E := 2) (k := 3) (j := 7) (n := 2) hC hK hP1 hL1 (Nat.le_of_ble_eq_true rfl) hce hcv hcl [⟨0, 16, 19, 13⟩, ⟨0, 16, 23, 15⟩] ⟨0, 16, 27, 17⟩ [] (htab.trans rfl) (fun z hz => by rcases List.mem_cons.mp hz with rfl | hz; exact ⟨by decide, exN 0, clw0, hK.2.2 2 0 (by decide) (by decide) (by decide)⟩; rcases List.mem_cons.mp hz with rfl | hz; exact ⟨by decide, exN 1, clw1, hK.2.2 2 1 (by decide) (by decide) (by decide)⟩; cases hz) (by decide) (by decide) clw2 rfl (Or.inl ⟨rfl, dw_data_27⟩) dw_data_29 dw_data_30 (by unfold inR; decide) B.returns
      cases hk2
  have hw := body (ax ++ [ao]) s.heap [] _ [] ⟨rfl, hP, wo_A hax hDd, va_S.rf, hax, hσ⟩ (ent_lrs hv (Nat.le_of_ble_eq_true rfl)) trivial
  rw [lg_entry_eq]
  exact hw
def hh_any : List (Nat × Nat × Nat × Nat) := [(0, 8, 11, 17)]
theorem cw_any : Cond.codeWith yL_any cL_any 3 (some .int) hh_any ∈ TB := tb_at 625 (by decide +kernel) (by decide +kernel)
theorem sw_any : Cond.static yL_any ∈ TB := tb_at 624 (by decide +kernel) (by decide +kernel)
theorem dw_any_3 : decode cL_any 3 = .ok (.invokevirtual 30, 3) := by decide +kernel
theorem dw_any_6 : decode cL_any 6 = .ok (.i2l, 1) := by decide +kernel
theorem dw_any_7 : decode cL_any 7 = .ok (.lastore, 1) := by decide +kernel
theorem dw_any_8 : decode cL_any 8 = .ok (.goto 6, 3) := by decide +kernel
theorem dw_any_11 : decode cL_any 11 = .ok (.astore_n 2, 1) := by decide +kernel
theorem dw_any_12 : decode cL_any 12 = .ok (.iconst 1, 1) := by decide +kernel
theorem dw_any_13 : decode cL_any 13 = .ok (.ireturn, 1) := by decide +kernel
theorem dw_any_14 : decode cL_any 14 = .ok (.iconst 0, 1) := by decide +kernel
theorem dw_any_15 : decode cL_any 15 = .ok (.ireturn, 1) := by decide +kernel
theorem ow_any : oks 12 cL_any 0 [(.aload_n 1, 1, (0, 0, 0)), (.iconst 0, 1, (0, 0, 0)), (.aload_n 0, 1, (0, 0, 0))] = true ∧ plen 0 [(.aload_n 1, 1, (0, 0, 0)), (.iconst 0, 1, (0, 0, 0)), (.aload_n 0, 1, (0, 0, 0))] = 3 := by decide +kernel
theorem wc_any (l : Launch) (hl : l.stackTraces = false) (d : Nat) (hd : 9 ≤ d)  (σ : Sg) (ov k ov' : Int) (q : ((Int ⊕ Nat) × Sg)) (h : F_X10_any σ = some q) (hk : kW [(2, 1)] q.1 ov = some (k, ov')) : WC l d yL_any cL_any 3 hh_any [.inr 0, .inr 55] σ ov k q.2 ov' := by
  obtain ⟨d, rfl⟩ : ∃ e, d = e + 1 := ⟨d - 1, by omega⟩
  intro D cI cZ cJ ax ao sz cvs hv hax hσ
  refine va_MetW (cc := cL_any) (maxL := 3) (ret := some .int) (hh := hh_any) (by decide +kernel) rfl ?_
  intro p e s m args below meth c s₁ B hml hp
  obtain ⟨rfl, hsz, hP, hK, hDd, hT⟩ := hp
  subst hsz
  have hts := atoms_spec (ws := wsH yL_any cL_any 3 hh_any) B.pre
  have htab := vx_table (x := yL_any) B (hts _ List.mem_cons_self)
  have hC : Cx 12 cL_any 3 false p s m cvs.toArray meth c (Ao ax ao s.heap.size) D cI cZ := ⟨B.exec, B.bytes, hml, findClass_of_methodNamed B.named, fun w hw => hts w (List.mem_cons_of_mem _ hw), B.notSynchronized, (fun h => by cases h), hK.kn, fun q h => Or.inr (Or.inr h)⟩
  have hct := lk_X10_any l hl d (by omega) σ q h
  have body : Rg p l e (headSpec (wsH yL_any cL_any 3 hh_any) (rmD (d + 1) 1 6)).room s m cvs.toArray below meth c (PwO D cI cZ cJ ax ao s σ ov) 0 0 (MQ below (va_Qi (fun (r : Int32) (_ : Unit) => r = Int32.ofInt k) (fun _ t => va_P D vwCl (Wo cI cZ cJ ax ao q.2 ov') t.heap ∧ ∀ k i : Nat, inR (q.2 k i)) (Ao ax ao s.heap.size)) cvs.toArray s 1 6 (Ao ax ao s.heap.size)) 3 0 [some (.inr 0), some (.inr 55), none] [] := by
    refine rg_ops (S := ([], σ)) (S' := ([], σ)) (on := 12) ⟨B.exec, B.bytes⟩ ow_any (by decide) (L' := [some (.inr 0), some (.inr 55), none]) (st' := [.inr 0, .inl 0, .inr 55]) rfl ?_
    obtain ⟨r, σ'⟩ := q
    cases r with
    | inl v =>
      obtain ⟨h91, h92⟩ : (0 : Int) = k ∧ v = ov' := Prod.mk.inj (Option.some.inj hk)
      subst h91 h92
      refine wr_call (M1 := m_X10_any) (as := []) (st := [.inl 0, .inr 55]) (z := ozI (.inl v)) (σ' := σ') (d := d + 1) hC rfl rfl (Nat.le_refl 1) (Nat.le_refl 6) dw_any_3 ln_12_30 im_X10_any mk_X10_any rfl rfl (Nat.le_of_ble_eq_true rfl) (Nat.le_refl _) (fun k hk => by simp at hk) hT hct (fun w hw => by cases hw; exact ⟨_, rfl⟩) (fun w hw => ?_) (fun E hE => by cases hE) _ rfl
      cases hw
      refine wr_put hC hK dw_any_6 dw_any_7 dw_any_8 (by rfl) ?_
      exact wr_ret hC (by decide) (by decide) dw_any_14 in0 dw_any_15 B.returns
    | inr E =>
      obtain ⟨hk2, rfl⟩ := kW_inr hk
      refine wr_call (M1 := m_X10_any) (as := []) (st := [.inl 0, .inr 55]) (z := ozI (.inr E)) (σ' := σ') (d := d + 1) hC rfl rfl (Nat.le_refl 1) (Nat.le_refl 6) dw_any_3 ln_12_30 im_X10_any mk_X10_any rfl rfl (Nat.le_of_ble_eq_true rfl) (Nat.le_refl _) (fun k hk => by simp at hk) hT hct (fun w hw => by cases hw) (fun w hw => by cases hw) (fun E2 hE2 ads H1 locs1 ls crest ce q9 hP1 hL1 hce hcv hcl => ?_) _ rfl
      cases hE2
      rcases kE_inv hk2 with ⟨hE9, hk9⟩ | ⟨-, hk2⟩
      · obtain rfl : E = 2 := hE9
        obtain rfl : k = 1 := hk9
        exact wr_exc (E := 2) (k := 1) (j := 2) (n := 1) hC hK hP1 hL1 (Nat.le_of_ble_eq_true rfl) hce hcv hcl [] ⟨0, 8, 11, 17⟩ [] (htab.trans rfl) (fun z hz => by cases hz) (by decide) (by decide) clw2 rfl (Or.inr ⟨rfl, 2, rfl, dw_any_11⟩) dw_any_12 dw_any_13 (by unfold inR; decide) B.returns
      cases hk2
  have hw := body (ax ++ [ao]) s.heap [] _ [] ⟨rfl, hP, wo_A hax hDd, va_S.rf, hax, hσ⟩ (ent_lrs hv (Nat.le_of_ble_eq_true rfl)) trivial
  rw [lg_entry_eq]
  exact hw
def hh_name : List (Nat × Nat × Nat × Nat) := [(0, 10, 13, 13), (0, 10, 17, 15), (0, 10, 21, 17)]
theorem cw_name : Cond.codeWith yL_name cL_name 5 (some .int) hh_name ∈ TB := tb_at 700 (by decide +kernel) (by decide +kernel)
theorem sw_name : Cond.static yL_name ∈ TB := tb_at 699 (by decide +kernel) (by decide +kernel)
theorem dw_name_5 : decode cL_name 5 = .ok (.invokevirtual 34, 3) := by decide +kernel
theorem dw_name_8 : decode cL_name 8 = .ok (.i2l, 1) := by decide +kernel
theorem dw_name_9 : decode cL_name 9 = .ok (.lastore, 1) := by decide +kernel
theorem dw_name_10 : decode cL_name 10 = .ok (.goto 15, 3) := by decide +kernel
theorem dw_name_13 : decode cL_name 13 = .ok (.astore 4, 2) := by decide +kernel
theorem dw_name_15 : decode cL_name 15 = .ok (.iconst 1, 1) := by decide +kernel
theorem dw_name_16 : decode cL_name 16 = .ok (.ireturn, 1) := by decide +kernel
theorem dw_name_17 : decode cL_name 17 = .ok (.astore 4, 2) := by decide +kernel
theorem dw_name_19 : decode cL_name 19 = .ok (.iconst 2, 1) := by decide +kernel
theorem dw_name_20 : decode cL_name 20 = .ok (.ireturn, 1) := by decide +kernel
theorem dw_name_21 : decode cL_name 21 = .ok (.astore 4, 2) := by decide +kernel
theorem dw_name_23 : decode cL_name 23 = .ok (.iconst 3, 1) := by decide +kernel
theorem dw_name_24 : decode cL_name 24 = .ok (.ireturn, 1) := by decide +kernel
theorem dw_name_25 : decode cL_name 25 = .ok (.iconst 0, 1) := by decide +kernel
theorem dw_name_26 : decode cL_name 26 = .ok (.ireturn, 1) := by decide +kernel
theorem ow_name : oks 12 cL_name 0 [(.aload_n 3, 1, (0, 0, 0)), (.iconst 0, 1, (0, 0, 0)), (.aload_n 0, 1, (0, 0, 0)), (.iload_n 1, 1, (0, 0, 0)), (.iload_n 2, 1, (0, 0, 0))] = true ∧ plen 0 [(.aload_n 3, 1, (0, 0, 0)), (.iconst 0, 1, (0, 0, 0)), (.aload_n 0, 1, (0, 0, 0)), (.iload_n 1, 1, (0, 0, 0)), (.iload_n 2, 1, (0, 0, 0))] = 5 := by decide +kernel
theorem wc_name (l : Launch) (hl : l.stackTraces = false) (d : Nat) (hd : 9 ≤ d) (a1 : Int) (a2 : Int) (σ : Sg) (ov k ov' : Int) (q : ((Int ⊕ Nat) × Sg)) (h : F_X10_name a1 a2 σ = some q) (hk : kW [(0, 1), (1, 2), (2, 3)] q.1 ov = some (k, ov')) : WC l d yL_name cL_name 5 hh_name [.inr 0, .inl a1, .inl a2, .inr 55] σ ov k q.2 ov' := by
  obtain ⟨d, rfl⟩ : ∃ e, d = e + 1 := ⟨d - 1, by omega⟩
  intro D cI cZ cJ ax ao sz cvs hv hax hσ
  refine va_MetW (cc := cL_name) (maxL := 5) (ret := some .int) (hh := hh_name) (by decide +kernel) rfl ?_
  intro p e s m args below meth c s₁ B hml hp
  obtain ⟨rfl, hsz, hP, hK, hDd, hT⟩ := hp
  subst hsz
  have hts := atoms_spec (ws := wsH yL_name cL_name 5 hh_name) B.pre
  have htab := vx_table (x := yL_name) B (hts _ List.mem_cons_self)
  have hC : Cx 12 cL_name 5 false p s m cvs.toArray meth c (Ao ax ao s.heap.size) D cI cZ := ⟨B.exec, B.bytes, hml, findClass_of_methodNamed B.named, fun w hw => hts w (List.mem_cons_of_mem _ hw), B.notSynchronized, (fun h => by cases h), hK.kn, fun q h => Or.inr (Or.inr h)⟩
  have hct := lk_X10_name l hl d (by omega) a1 a2 σ q h
  have body : Rg p l e (headSpec (wsH yL_name cL_name 5 hh_name) (rmD (d + 1) 1 6)).room s m cvs.toArray below meth c (PwO D cI cZ cJ ax ao s σ ov) 0 0 (MQ below (va_Qi (fun (r : Int32) (_ : Unit) => r = Int32.ofInt k) (fun _ t => va_P D vwCl (Wo cI cZ cJ ax ao q.2 ov') t.heap ∧ ∀ k i : Nat, inR (q.2 k i)) (Ao ax ao s.heap.size)) cvs.toArray s 1 6 (Ao ax ao s.heap.size)) 5 0 [some (.inr 0), some (.inl a1), some (.inl a2), some (.inr 55), none] [] := by
    refine rg_ops (S := ([], σ)) (S' := ([], σ)) (on := 12) ⟨B.exec, B.bytes⟩ ow_name (by decide) (L' := [some (.inr 0), some (.inl a1), some (.inl a2), some (.inr 55), none]) (st' := [.inl a2, .inl a1, .inr 0, .inl 0, .inr 55]) rfl ?_
    obtain ⟨r, σ'⟩ := q
    cases r with
    | inl v =>
      obtain ⟨h91, h92⟩ : (0 : Int) = k ∧ v = ov' := Prod.mk.inj (Option.some.inj hk)
      subst h91 h92
      refine wr_call (M1 := m_X10_name) (as := [.inl a1, .inl a2]) (st := [.inl 0, .inr 55]) (z := ozI (.inl v)) (σ' := σ') (d := d + 1) hC rfl rfl (Nat.le_refl 1) (Nat.le_refl 6) dw_name_5 ln_12_34 im_X10_name mk_X10_name rfl rfl (Nat.le_of_ble_eq_true rfl) (Nat.le_refl _) (fun k hk => by simp at hk) hT hct (fun w hw => by cases hw; exact ⟨_, rfl⟩) (fun w hw => ?_) (fun E hE => by cases hE) _ rfl
      cases hw
      refine wr_put hC hK dw_name_8 dw_name_9 dw_name_10 (by rfl) ?_
      exact wr_ret hC (by decide) (by decide) dw_name_25 in0 dw_name_26 B.returns
    | inr E =>
      obtain ⟨hk2, rfl⟩ := kW_inr hk
      refine wr_call (M1 := m_X10_name) (as := [.inl a1, .inl a2]) (st := [.inl 0, .inr 55]) (z := ozI (.inr E)) (σ' := σ') (d := d + 1) hC rfl rfl (Nat.le_refl 1) (Nat.le_refl 6) dw_name_5 ln_12_34 im_X10_name mk_X10_name rfl rfl (Nat.le_of_ble_eq_true rfl) (Nat.le_refl _) (fun k hk => by simp at hk) hT hct (fun w hw => by cases hw) (fun w hw => by cases hw) (fun E2 hE2 ads H1 locs1 ls crest ce q9 hP1 hL1 hce hcv hcl => ?_) _ rfl
      cases hE2
      rcases kE_inv hk2 with ⟨hE9, hk9⟩ | ⟨-, hk2⟩
      · obtain rfl : E = 0 := hE9
        obtain rfl : k = 1 := hk9
        exact wr_exc (E := 0) (k := 1) (j := 4) (n := 2) hC hK hP1 hL1 (Nat.le_of_ble_eq_true rfl) hce hcv hcl [] ⟨0, 10, 13, 13⟩ [⟨0, 10, 17, 15⟩, ⟨0, 10, 21, 17⟩] (htab.trans rfl) (fun z hz => by cases hz) (by decide) (by decide) clw0 rfl (Or.inl ⟨rfl, dw_name_13⟩) dw_name_15 dw_name_16 (by unfold inR; decide) B.returns
      rcases kE_inv hk2 with ⟨hE9, hk9⟩ | ⟨-, hk2⟩
      · obtain rfl : E = 1 := hE9
        obtain rfl : k = 2 := hk9
        exact wr_exc (E := 1) (k := 2) (j := 4) (n := 2) hC hK hP1 hL1 (Nat.le_of_ble_eq_true rfl) hce hcv hcl [⟨0, 10, 13, 13⟩] ⟨0, 10, 17, 15⟩ [⟨0, 10, 21, 17⟩] (htab.trans rfl) (fun z hz => by rcases List.mem_cons.mp hz with rfl | hz; exact ⟨by decide, exN 0, clw0, hK.2.2 1 0 (by decide) (by decide) (by decide)⟩; cases hz) (by decide) (by decide) clw1 rfl (Or.inl ⟨rfl, dw_name_17⟩) dw_name_19 dw_name_20 (by unfold inR; decide) B.returns
      rcases kE_inv hk2 with ⟨hE9, hk9⟩ | ⟨-, hk2⟩
      · obtain rfl : E = 2 := hE9
        obtain rfl : k = 3 := hk9
        exact wr_exc (E := 2) (k := 3) (j := 4) (n := 2) hC hK hP1 hL1 (Nat.le_of_ble_eq_true rfl) hce hcv hcl [⟨0, 10, 13, 13⟩, ⟨0, 10, 17, 15⟩] ⟨0, 10, 21, 17⟩ [] (htab.trans rfl) (fun z hz => by rcases List.mem_cons.mp hz with rfl | hz; exact ⟨by decide, exN 0, clw0, hK.2.2 2 0 (by decide) (by decide) (by decide)⟩; rcases List.mem_cons.mp hz with rfl | hz; exact ⟨by decide, exN 1, clw1, hK.2.2 2 1 (by decide) (by decide) (by decide)⟩; cases hz) (by decide) (by decide) clw2 rfl (Or.inl ⟨rfl, dw_name_21⟩) dw_name_23 dw_name_24 (by unfold inR; decide) B.returns
      cases hk2
  have hw := body (ax ++ [ao]) s.heap [] _ [] ⟨rfl, hP, wo_A hax hDd, va_S.rf, hax, hσ⟩ (ent_lrs hv (Nat.le_of_ble_eq_true rfl)) trivial
  rw [lg_entry_eq]
  exact hw
def hh_range : List (Nat × Nat × Nat × Nat) := [(0, 10, 13, 15), (0, 10, 17, 17)]
theorem cw_range : Cond.codeWith yL_range cL_range 5 (some .int) hh_range ∈ TB := tb_at 727 (by decide +kernel) (by decide +kernel)
theorem sw_range : Cond.static yL_range ∈ TB := tb_at 726 (by decide +kernel) (by decide +kernel)
theorem dw_range_5 : decode cL_range 5 = .ok (.invokevirtual 38, 3) := by decide +kernel
theorem dw_range_8 : decode cL_range 8 = .ok (.i2l, 1) := by decide +kernel
theorem dw_range_9 : decode cL_range 9 = .ok (.lastore, 1) := by decide +kernel
theorem dw_range_10 : decode cL_range 10 = .ok (.goto 11, 3) := by decide +kernel
theorem dw_range_13 : decode cL_range 13 = .ok (.astore 4, 2) := by decide +kernel
theorem dw_range_15 : decode cL_range 15 = .ok (.iconst 1, 1) := by decide +kernel
theorem dw_range_16 : decode cL_range 16 = .ok (.ireturn, 1) := by decide +kernel
theorem dw_range_17 : decode cL_range 17 = .ok (.astore 4, 2) := by decide +kernel
theorem dw_range_19 : decode cL_range 19 = .ok (.iconst 2, 1) := by decide +kernel
theorem dw_range_20 : decode cL_range 20 = .ok (.ireturn, 1) := by decide +kernel
theorem dw_range_21 : decode cL_range 21 = .ok (.iconst 0, 1) := by decide +kernel
theorem dw_range_22 : decode cL_range 22 = .ok (.ireturn, 1) := by decide +kernel
theorem ow_range : oks 12 cL_range 0 [(.aload_n 3, 1, (0, 0, 0)), (.iconst 0, 1, (0, 0, 0)), (.aload_n 0, 1, (0, 0, 0)), (.iload_n 1, 1, (0, 0, 0)), (.iload_n 2, 1, (0, 0, 0))] = true ∧ plen 0 [(.aload_n 3, 1, (0, 0, 0)), (.iconst 0, 1, (0, 0, 0)), (.aload_n 0, 1, (0, 0, 0)), (.iload_n 1, 1, (0, 0, 0)), (.iload_n 2, 1, (0, 0, 0))] = 5 := by decide +kernel
theorem wc_range (l : Launch) (hl : l.stackTraces = false) (d : Nat) (hd : 9 ≤ d) (a1 : Int) (a2 : Int) (σ : Sg) (ov k ov' : Int) (q : ((Int ⊕ Nat) × Sg)) (h : F_X10_range a1 a2 σ = some q) (hk : kW [(1, 1), (2, 2)] q.1 ov = some (k, ov')) : WC l d yL_range cL_range 5 hh_range [.inr 0, .inl a1, .inl a2, .inr 55] σ ov k q.2 ov' := by
  obtain ⟨d, rfl⟩ : ∃ e, d = e + 1 := ⟨d - 1, by omega⟩
  intro D cI cZ cJ ax ao sz cvs hv hax hσ
  refine va_MetW (cc := cL_range) (maxL := 5) (ret := some .int) (hh := hh_range) (by decide +kernel) rfl ?_
  intro p e s m args below meth c s₁ B hml hp
  obtain ⟨rfl, hsz, hP, hK, hDd, hT⟩ := hp
  subst hsz
  have hts := atoms_spec (ws := wsH yL_range cL_range 5 hh_range) B.pre
  have htab := vx_table (x := yL_range) B (hts _ List.mem_cons_self)
  have hC : Cx 12 cL_range 5 false p s m cvs.toArray meth c (Ao ax ao s.heap.size) D cI cZ := ⟨B.exec, B.bytes, hml, findClass_of_methodNamed B.named, fun w hw => hts w (List.mem_cons_of_mem _ hw), B.notSynchronized, (fun h => by cases h), hK.kn, fun q h => Or.inr (Or.inr h)⟩
  have hct := lk_X10_range l hl d (by omega) a1 a2 σ q h
  have body : Rg p l e (headSpec (wsH yL_range cL_range 5 hh_range) (rmD (d + 1) 1 6)).room s m cvs.toArray below meth c (PwO D cI cZ cJ ax ao s σ ov) 0 0 (MQ below (va_Qi (fun (r : Int32) (_ : Unit) => r = Int32.ofInt k) (fun _ t => va_P D vwCl (Wo cI cZ cJ ax ao q.2 ov') t.heap ∧ ∀ k i : Nat, inR (q.2 k i)) (Ao ax ao s.heap.size)) cvs.toArray s 1 6 (Ao ax ao s.heap.size)) 5 0 [some (.inr 0), some (.inl a1), some (.inl a2), some (.inr 55), none] [] := by
    refine rg_ops (S := ([], σ)) (S' := ([], σ)) (on := 12) ⟨B.exec, B.bytes⟩ ow_range (by decide) (L' := [some (.inr 0), some (.inl a1), some (.inl a2), some (.inr 55), none]) (st' := [.inl a2, .inl a1, .inr 0, .inl 0, .inr 55]) rfl ?_
    obtain ⟨r, σ'⟩ := q
    cases r with
    | inl v =>
      obtain ⟨h91, h92⟩ : (0 : Int) = k ∧ v = ov' := Prod.mk.inj (Option.some.inj hk)
      subst h91 h92
      refine wr_call (M1 := m_X10_range) (as := [.inl a1, .inl a2]) (st := [.inl 0, .inr 55]) (z := ozI (.inl v)) (σ' := σ') (d := d + 1) hC rfl rfl (Nat.le_refl 1) (Nat.le_refl 6) dw_range_5 ln_12_38 im_X10_range mk_X10_range rfl rfl (Nat.le_of_ble_eq_true rfl) (Nat.le_refl _) (fun k hk => by simp at hk) hT hct (fun w hw => by cases hw; exact ⟨_, rfl⟩) (fun w hw => ?_) (fun E hE => by cases hE) _ rfl
      cases hw
      refine wr_put hC hK dw_range_8 dw_range_9 dw_range_10 (by rfl) ?_
      exact wr_ret hC (by decide) (by decide) dw_range_21 in0 dw_range_22 B.returns
    | inr E =>
      obtain ⟨hk2, rfl⟩ := kW_inr hk
      refine wr_call (M1 := m_X10_range) (as := [.inl a1, .inl a2]) (st := [.inl 0, .inr 55]) (z := ozI (.inr E)) (σ' := σ') (d := d + 1) hC rfl rfl (Nat.le_refl 1) (Nat.le_refl 6) dw_range_5 ln_12_38 im_X10_range mk_X10_range rfl rfl (Nat.le_of_ble_eq_true rfl) (Nat.le_refl _) (fun k hk => by simp at hk) hT hct (fun w hw => by cases hw) (fun w hw => by cases hw) (fun E2 hE2 ads H1 locs1 ls crest ce q9 hP1 hL1 hce hcv hcl => ?_) _ rfl
      cases hE2
      rcases kE_inv hk2 with ⟨hE9, hk9⟩ | ⟨-, hk2⟩
      · obtain rfl : E = 1 := hE9
        obtain rfl : k = 1 := hk9
        exact wr_exc (E := 1) (k := 1) (j := 4) (n := 2) hC hK hP1 hL1 (Nat.le_of_ble_eq_true rfl) hce hcv hcl [] ⟨0, 10, 13, 15⟩ [⟨0, 10, 17, 17⟩] (htab.trans rfl) (fun z hz => by cases hz) (by decide) (by decide) clw1 rfl (Or.inl ⟨rfl, dw_range_13⟩) dw_range_15 dw_range_16 (by unfold inR; decide) B.returns
      rcases kE_inv hk2 with ⟨hE9, hk9⟩ | ⟨-, hk2⟩
      · obtain rfl : E = 2 := hE9
        obtain rfl : k = 2 := hk9
        exact wr_exc (E := 2) (k := 2) (j := 4) (n := 2) hC hK hP1 hL1 (Nat.le_of_ble_eq_true rfl) hce hcv hcl [⟨0, 10, 13, 15⟩] ⟨0, 10, 17, 17⟩ [] (htab.trans rfl) (fun z hz => by rcases List.mem_cons.mp hz with rfl | hz; exact ⟨by decide, exN 1, clw1, hK.2.2 2 1 (by decide) (by decide) (by decide)⟩; cases hz) (by decide) (by decide) clw2 rfl (Or.inl ⟨rfl, dw_range_17⟩) dw_range_19 dw_range_20 (by unfold inR; decide) B.returns
      cases hk2
  have hw := body (ax ++ [ao]) s.heap [] _ [] ⟨rfl, hP, wo_A hax hDd, va_S.rf, hax, hσ⟩ (ent_lrs hv (Nat.le_of_ble_eq_true rfl)) trivial
  rw [lg_entry_eq]
  exact hw
def hh_make : List (Nat × Nat × Nat × Nat) := [(0, 16, 19, 13), (0, 16, 23, 15), (0, 16, 27, 17)]
theorem cw_make : Cond.codeWith yL_make cL_make 8 (some .int) hh_make ∈ TB := tb_at 734 (by decide +kernel) (by decide +kernel)
theorem sw_make : Cond.static yL_make ∈ TB := tb_at 733 (by decide +kernel) (by decide +kernel)
theorem dw_make_11 : decode cL_make 11 = .ok (.invokevirtual 41, 3) := by decide +kernel
theorem dw_make_14 : decode cL_make 14 = .ok (.i2l, 1) := by decide +kernel
theorem dw_make_15 : decode cL_make 15 = .ok (.lastore, 1) := by decide +kernel
theorem dw_make_16 : decode cL_make 16 = .ok (.goto 15, 3) := by decide +kernel
theorem dw_make_19 : decode cL_make 19 = .ok (.astore 7, 2) := by decide +kernel
theorem dw_make_21 : decode cL_make 21 = .ok (.iconst 1, 1) := by decide +kernel
theorem dw_make_22 : decode cL_make 22 = .ok (.ireturn, 1) := by decide +kernel
theorem dw_make_23 : decode cL_make 23 = .ok (.astore 7, 2) := by decide +kernel
theorem dw_make_25 : decode cL_make 25 = .ok (.iconst 2, 1) := by decide +kernel
theorem dw_make_26 : decode cL_make 26 = .ok (.ireturn, 1) := by decide +kernel
theorem dw_make_27 : decode cL_make 27 = .ok (.astore 7, 2) := by decide +kernel
theorem dw_make_29 : decode cL_make 29 = .ok (.iconst 3, 1) := by decide +kernel
theorem dw_make_30 : decode cL_make 30 = .ok (.ireturn, 1) := by decide +kernel
theorem dw_make_31 : decode cL_make 31 = .ok (.iconst 0, 1) := by decide +kernel
theorem dw_make_32 : decode cL_make 32 = .ok (.ireturn, 1) := by decide +kernel
theorem ow_make : oks 12 cL_make 0 [(.aload 6, 2, (0, 0, 0)), (.iconst 0, 1, (0, 0, 0)), (.aload_n 0, 1, (0, 0, 0)), (.iload_n 1, 1, (0, 0, 0)), (.iload_n 2, 1, (0, 0, 0)), (.iload_n 3, 1, (0, 0, 0)), (.iload 4, 2, (0, 0, 0)), (.iload 5, 2, (0, 0, 0))] = true ∧ plen 0 [(.aload 6, 2, (0, 0, 0)), (.iconst 0, 1, (0, 0, 0)), (.aload_n 0, 1, (0, 0, 0)), (.iload_n 1, 1, (0, 0, 0)), (.iload_n 2, 1, (0, 0, 0)), (.iload_n 3, 1, (0, 0, 0)), (.iload 4, 2, (0, 0, 0)), (.iload 5, 2, (0, 0, 0))] = 11 := by decide +kernel
theorem wc_make (l : Launch) (hl : l.stackTraces = false) (d : Nat) (hd : 9 ≤ d) (a1 : Int) (a2 : Int) (a3 : Int) (a4 : Int) (a5 : Int) (σ : Sg) (ov k ov' : Int) (q : ((Int ⊕ Nat) × Sg)) (h : F_X10_make a1 a2 a3 a4 a5 σ = some q) (hk : kW [(0, 1), (1, 2), (2, 3)] q.1 ov = some (k, ov')) : WC l d yL_make cL_make 8 hh_make [.inr 0, .inl a1, .inl a2, .inl a3, .inl a4, .inl a5, .inr 55] σ ov k q.2 ov' := by
  obtain ⟨d, rfl⟩ : ∃ e, d = e + 1 := ⟨d - 1, by omega⟩
  intro D cI cZ cJ ax ao sz cvs hv hax hσ
  refine va_MetW (cc := cL_make) (maxL := 8) (ret := some .int) (hh := hh_make) (by decide +kernel) rfl ?_
  intro p e s m args below meth c s₁ B hml hp
  obtain ⟨rfl, hsz, hP, hK, hDd, hT⟩ := hp
  subst hsz
  have hts := atoms_spec (ws := wsH yL_make cL_make 8 hh_make) B.pre
  have htab := vx_table (x := yL_make) B (hts _ List.mem_cons_self)
  have hC : Cx 12 cL_make 8 false p s m cvs.toArray meth c (Ao ax ao s.heap.size) D cI cZ := ⟨B.exec, B.bytes, hml, findClass_of_methodNamed B.named, fun w hw => hts w (List.mem_cons_of_mem _ hw), B.notSynchronized, (fun h => by cases h), hK.kn, fun q h => Or.inr (Or.inr h)⟩
  have hct := lk_X10_make l hl d (by omega) a1 a2 a3 a4 a5 σ q h
  have body : Rg p l e (headSpec (wsH yL_make cL_make 8 hh_make) (rmD (d + 1) 1 6)).room s m cvs.toArray below meth c (PwO D cI cZ cJ ax ao s σ ov) 0 0 (MQ below (va_Qi (fun (r : Int32) (_ : Unit) => r = Int32.ofInt k) (fun _ t => va_P D vwCl (Wo cI cZ cJ ax ao q.2 ov') t.heap ∧ ∀ k i : Nat, inR (q.2 k i)) (Ao ax ao s.heap.size)) cvs.toArray s 1 6 (Ao ax ao s.heap.size)) 8 0 [some (.inr 0), some (.inl a1), some (.inl a2), some (.inl a3), some (.inl a4), some (.inl a5), some (.inr 55), none] [] := by
    refine rg_ops (S := ([], σ)) (S' := ([], σ)) (on := 12) ⟨B.exec, B.bytes⟩ ow_make (by decide) (L' := [some (.inr 0), some (.inl a1), some (.inl a2), some (.inl a3), some (.inl a4), some (.inl a5), some (.inr 55), none]) (st' := [.inl a5, .inl a4, .inl a3, .inl a2, .inl a1, .inr 0, .inl 0, .inr 55]) rfl ?_
    obtain ⟨r, σ'⟩ := q
    cases r with
    | inl v =>
      obtain ⟨h91, h92⟩ : (0 : Int) = k ∧ v = ov' := Prod.mk.inj (Option.some.inj hk)
      subst h91 h92
      refine wr_call (M1 := m_X10_make) (as := [.inl a1, .inl a2, .inl a3, .inl a4, .inl a5]) (st := [.inl 0, .inr 55]) (z := ozI (.inl v)) (σ' := σ') (d := d + 1) hC rfl rfl (Nat.le_refl 1) (Nat.le_refl 6) dw_make_11 ln_12_41 im_X10_make mk_X10_make rfl rfl (Nat.le_of_ble_eq_true rfl) (Nat.le_refl _) (fun k hk => by simp at hk) hT hct (fun w hw => by cases hw; exact ⟨_, rfl⟩) (fun w hw => ?_) (fun E hE => by cases hE) _ rfl
      cases hw
      refine wr_put hC hK dw_make_14 dw_make_15 dw_make_16 (by rfl) ?_
      exact wr_ret hC (by decide) (by decide) dw_make_31 in0 dw_make_32 B.returns
    | inr E =>
      obtain ⟨hk2, rfl⟩ := kW_inr hk
      refine wr_call (M1 := m_X10_make) (as := [.inl a1, .inl a2, .inl a3, .inl a4, .inl a5]) (st := [.inl 0, .inr 55]) (z := ozI (.inr E)) (σ' := σ') (d := d + 1) hC rfl rfl (Nat.le_refl 1) (Nat.le_refl 6) dw_make_11 ln_12_41 im_X10_make mk_X10_make rfl rfl (Nat.le_of_ble_eq_true rfl) (Nat.le_refl _) (fun k hk => by simp at hk) hT hct (fun w hw => by cases hw) (fun w hw => by cases hw) (fun E2 hE2 ads H1 locs1 ls crest ce q9 hP1 hL1 hce hcv hcl => ?_) _ rfl
      cases hE2
      rcases kE_inv hk2 with ⟨hE9, hk9⟩ | ⟨-, hk2⟩
      · obtain rfl : E = 0 := hE9
        obtain rfl : k = 1 := hk9
        exact wr_exc (E := 0) (k := 1) (j := 7) (n := 2) hC hK hP1 hL1 (Nat.le_of_ble_eq_true rfl) hce hcv hcl [] ⟨0, 16, 19, 13⟩ [⟨0, 16, 23, 15⟩, ⟨0, 16, 27, 17⟩] (htab.trans rfl) (fun z hz => by cases hz) (by decide) (by decide) clw0 rfl (Or.inl ⟨rfl, dw_make_19⟩) dw_make_21 dw_make_22 (by unfold inR; decide) B.returns
      rcases kE_inv hk2 with ⟨hE9, hk9⟩ | ⟨-, hk2⟩
      · obtain rfl : E = 1 := hE9
        obtain rfl : k = 2 := hk9
        exact wr_exc (E := 1) (k := 2) (j := 7) (n := 2) hC hK hP1 hL1 (Nat.le_of_ble_eq_true rfl) hce hcv hcl [⟨0, 16, 19, 13⟩] ⟨0, 16, 23, 15⟩ [⟨0, 16, 27, 17⟩] (htab.trans rfl) (fun z hz => by rcases List.mem_cons.mp hz with rfl | hz; exact ⟨by decide, exN 0, clw0, hK.2.2 1 0 (by decide) (by decide) (by decide)⟩; cases hz) (by decide) (by decide) clw1 rfl (Or.inl ⟨rfl, dw_make_23⟩) dw_make_25 dw_make_26 (by unfold inR; decide) B.returns
      rcases kE_inv hk2 with ⟨hE9, hk9⟩ | ⟨-, hk2⟩
      · obtain rfl : E = 2 := hE9
        obtain rfl : k = 3 := hk9
        exact wr_exc (E := 2) (k := 3) (j := 7) (n := 2) hC hK hP1 hL1 (Nat.le_of_ble_eq_true rfl) hce hcv hcl [⟨0, 16, 19, 13⟩, ⟨0, 16, 23, 15⟩] ⟨0, 16, 27, 17⟩ [] (htab.trans rfl) (fun z hz => by rcases List.mem_cons.mp hz with rfl | hz; exact ⟨by decide, exN 0, clw0, hK.2.2 2 0 (by decide) (by decide) (by decide)⟩; rcases List.mem_cons.mp hz with rfl | hz; exact ⟨by decide, exN 1, clw1, hK.2.2 2 1 (by decide) (by decide) (by decide)⟩; cases hz) (by decide) (by decide) clw2 rfl (Or.inl ⟨rfl, dw_make_27⟩) dw_make_29 dw_make_30 (by unfold inR; decide) B.returns
      cases hk2
  have hw := body (ax ++ [ao]) s.heap [] _ [] ⟨rfl, hP, wo_A hax hDd, va_S.rf, hax, hσ⟩ (ent_lrs hv (Nat.le_of_ble_eq_true rfl)) trivial
  rw [lg_entry_eq]
  exact hw
def hh_either : List (Nat × Nat × Nat × Nat) := [(0, 10, 13, 13), (0, 10, 17, 15), (0, 10, 21, 17)]
theorem cw_either : Cond.codeWith yL_either cL_either 5 (some .int) hh_either ∈ TB := tb_at 759 (by decide +kernel) (by decide +kernel)
theorem sw_either : Cond.static yL_either ∈ TB := tb_at 758 (by decide +kernel) (by decide +kernel)
theorem dw_either_5 : decode cL_either 5 = .ok (.invokevirtual 44, 3) := by decide +kernel
theorem dw_either_8 : decode cL_either 8 = .ok (.i2l, 1) := by decide +kernel
theorem dw_either_9 : decode cL_either 9 = .ok (.lastore, 1) := by decide +kernel
theorem dw_either_10 : decode cL_either 10 = .ok (.goto 15, 3) := by decide +kernel
theorem dw_either_13 : decode cL_either 13 = .ok (.astore 4, 2) := by decide +kernel
theorem dw_either_15 : decode cL_either 15 = .ok (.iconst 1, 1) := by decide +kernel
theorem dw_either_16 : decode cL_either 16 = .ok (.ireturn, 1) := by decide +kernel
theorem dw_either_17 : decode cL_either 17 = .ok (.astore 4, 2) := by decide +kernel
theorem dw_either_19 : decode cL_either 19 = .ok (.iconst 2, 1) := by decide +kernel
theorem dw_either_20 : decode cL_either 20 = .ok (.ireturn, 1) := by decide +kernel
theorem dw_either_21 : decode cL_either 21 = .ok (.astore 4, 2) := by decide +kernel
theorem dw_either_23 : decode cL_either 23 = .ok (.iconst 3, 1) := by decide +kernel
theorem dw_either_24 : decode cL_either 24 = .ok (.ireturn, 1) := by decide +kernel
theorem dw_either_25 : decode cL_either 25 = .ok (.iconst 0, 1) := by decide +kernel
theorem dw_either_26 : decode cL_either 26 = .ok (.ireturn, 1) := by decide +kernel
theorem ow_either : oks 12 cL_either 0 [(.aload_n 3, 1, (0, 0, 0)), (.iconst 0, 1, (0, 0, 0)), (.aload_n 0, 1, (0, 0, 0)), (.iload_n 1, 1, (0, 0, 0)), (.iload_n 2, 1, (0, 0, 0))] = true ∧ plen 0 [(.aload_n 3, 1, (0, 0, 0)), (.iconst 0, 1, (0, 0, 0)), (.aload_n 0, 1, (0, 0, 0)), (.iload_n 1, 1, (0, 0, 0)), (.iload_n 2, 1, (0, 0, 0))] = 5 := by decide +kernel
theorem wc_either (l : Launch) (hl : l.stackTraces = false) (d : Nat) (hd : 9 ≤ d) (a1 : Int) (a2 : Int) (σ : Sg) (ov k ov' : Int) (q : ((Int ⊕ Nat) × Sg)) (h : F_X10_either a1 a2 σ = some q) (hk : kW [(0, 1), (1, 2), (2, 3)] q.1 ov = some (k, ov')) : WC l d yL_either cL_either 5 hh_either [.inr 0, .inl a1, .inl a2, .inr 55] σ ov k q.2 ov' := by
  obtain ⟨d, rfl⟩ : ∃ e, d = e + 1 := ⟨d - 1, by omega⟩
  intro D cI cZ cJ ax ao sz cvs hv hax hσ
  refine va_MetW (cc := cL_either) (maxL := 5) (ret := some .int) (hh := hh_either) (by decide +kernel) rfl ?_
  intro p e s m args below meth c s₁ B hml hp
  obtain ⟨rfl, hsz, hP, hK, hDd, hT⟩ := hp
  subst hsz
  have hts := atoms_spec (ws := wsH yL_either cL_either 5 hh_either) B.pre
  have htab := vx_table (x := yL_either) B (hts _ List.mem_cons_self)
  have hC : Cx 12 cL_either 5 false p s m cvs.toArray meth c (Ao ax ao s.heap.size) D cI cZ := ⟨B.exec, B.bytes, hml, findClass_of_methodNamed B.named, fun w hw => hts w (List.mem_cons_of_mem _ hw), B.notSynchronized, (fun h => by cases h), hK.kn, fun q h => Or.inr (Or.inr h)⟩
  have hct := lk_X10_either l hl d (by omega) a1 a2 σ q h
  have body : Rg p l e (headSpec (wsH yL_either cL_either 5 hh_either) (rmD (d + 1) 1 6)).room s m cvs.toArray below meth c (PwO D cI cZ cJ ax ao s σ ov) 0 0 (MQ below (va_Qi (fun (r : Int32) (_ : Unit) => r = Int32.ofInt k) (fun _ t => va_P D vwCl (Wo cI cZ cJ ax ao q.2 ov') t.heap ∧ ∀ k i : Nat, inR (q.2 k i)) (Ao ax ao s.heap.size)) cvs.toArray s 1 6 (Ao ax ao s.heap.size)) 5 0 [some (.inr 0), some (.inl a1), some (.inl a2), some (.inr 55), none] [] := by
    refine rg_ops (S := ([], σ)) (S' := ([], σ)) (on := 12) ⟨B.exec, B.bytes⟩ ow_either (by decide) (L' := [some (.inr 0), some (.inl a1), some (.inl a2), some (.inr 55), none]) (st' := [.inl a2, .inl a1, .inr 0, .inl 0, .inr 55]) rfl ?_
    obtain ⟨r, σ'⟩ := q
    cases r with
    | inl v =>
      obtain ⟨h91, h92⟩ : (0 : Int) = k ∧ v = ov' := Prod.mk.inj (Option.some.inj hk)
      subst h91 h92
      refine wr_call (M1 := m_X10_either) (as := [.inl a1, .inl a2]) (st := [.inl 0, .inr 55]) (z := ozI (.inl v)) (σ' := σ') (d := d + 1) hC rfl rfl (Nat.le_refl 1) (Nat.le_refl 6) dw_either_5 ln_12_44 im_X10_either mk_X10_either rfl rfl (Nat.le_of_ble_eq_true rfl) (Nat.le_refl _) (fun k hk => by simp at hk) hT hct (fun w hw => by cases hw; exact ⟨_, rfl⟩) (fun w hw => ?_) (fun E hE => by cases hE) _ rfl
      cases hw
      refine wr_put hC hK dw_either_8 dw_either_9 dw_either_10 (by rfl) ?_
      exact wr_ret hC (by decide) (by decide) dw_either_25 in0 dw_either_26 B.returns
    | inr E =>
      obtain ⟨hk2, rfl⟩ := kW_inr hk
      refine wr_call (M1 := m_X10_either) (as := [.inl a1, .inl a2]) (st := [.inl 0, .inr 55]) (z := ozI (.inr E)) (σ' := σ') (d := d + 1) hC rfl rfl (Nat.le_refl 1) (Nat.le_refl 6) dw_either_5 ln_12_44 im_X10_either mk_X10_either rfl rfl (Nat.le_of_ble_eq_true rfl) (Nat.le_refl _) (fun k hk => by simp at hk) hT hct (fun w hw => by cases hw) (fun w hw => by cases hw) (fun E2 hE2 ads H1 locs1 ls crest ce q9 hP1 hL1 hce hcv hcl => ?_) _ rfl
      cases hE2
      rcases kE_inv hk2 with ⟨hE9, hk9⟩ | ⟨-, hk2⟩
      · obtain rfl : E = 0 := hE9
        obtain rfl : k = 1 := hk9
        exact wr_exc (E := 0) (k := 1) (j := 4) (n := 2) hC hK hP1 hL1 (Nat.le_of_ble_eq_true rfl) hce hcv hcl [] ⟨0, 10, 13, 13⟩ [⟨0, 10, 17, 15⟩, ⟨0, 10, 21, 17⟩] (htab.trans rfl) (fun z hz => by cases hz) (by decide) (by decide) clw0 rfl (Or.inl ⟨rfl, dw_either_13⟩) dw_either_15 dw_either_16 (by unfold inR; decide) B.returns
      rcases kE_inv hk2 with ⟨hE9, hk9⟩ | ⟨-, hk2⟩
      · obtain rfl : E = 1 := hE9
        obtain rfl : k = 2 := hk9
        exact wr_exc (E := 1) (k := 2) (j := 4) (n := 2) hC hK hP1 hL1 (Nat.le_of_ble_eq_true rfl) hce hcv hcl [⟨0, 10, 13, 13⟩] ⟨0, 10, 17, 15⟩ [⟨0, 10, 21, 17⟩] (htab.trans rfl) (fun z hz => by rcases List.mem_cons.mp hz with rfl | hz; exact ⟨by decide, exN 0, clw0, hK.2.2 1 0 (by decide) (by decide) (by decide)⟩; cases hz) (by decide) (by decide) clw1 rfl (Or.inl ⟨rfl, dw_either_17⟩) dw_either_19 dw_either_20 (by unfold inR; decide) B.returns
      rcases kE_inv hk2 with ⟨hE9, hk9⟩ | ⟨-, hk2⟩
      · obtain rfl : E = 2 := hE9
        obtain rfl : k = 3 := hk9
        exact wr_exc (E := 2) (k := 3) (j := 4) (n := 2) hC hK hP1 hL1 (Nat.le_of_ble_eq_true rfl) hce hcv hcl [⟨0, 10, 13, 13⟩, ⟨0, 10, 17, 15⟩] ⟨0, 10, 21, 17⟩ [] (htab.trans rfl) (fun z hz => by rcases List.mem_cons.mp hz with rfl | hz; exact ⟨by decide, exN 0, clw0, hK.2.2 2 0 (by decide) (by decide) (by decide)⟩; rcases List.mem_cons.mp hz with rfl | hz; exact ⟨by decide, exN 1, clw1, hK.2.2 2 1 (by decide) (by decide) (by decide)⟩; cases hz) (by decide) (by decide) clw2 rfl (Or.inl ⟨rfl, dw_either_21⟩) dw_either_23 dw_either_24 (by unfold inR; decide) B.returns
      cases hk2
  have hw := body (ax ++ [ao]) s.heap [] _ [] ⟨rfl, hP, wo_A hax hDd, va_S.rf, hax, hσ⟩ (ent_lrs hv (Nat.le_of_ble_eq_true rfl)) trivial
  rw [lg_entry_eq]
  exact hw
def hh_view : List (Nat × Nat × Nat × Nat) := [(0, 10, 13, 13), (0, 10, 17, 15), (0, 10, 21, 17)]
theorem cw_view : Cond.codeWith yL_view cL_view 5 (some .int) hh_view ∈ TB := tb_at 775 (by decide +kernel) (by decide +kernel)
theorem sw_view : Cond.static yL_view ∈ TB := tb_at 774 (by decide +kernel) (by decide +kernel)
theorem dw_view_5 : decode cL_view 5 = .ok (.invokevirtual 47, 3) := by decide +kernel
theorem dw_view_8 : decode cL_view 8 = .ok (.i2l, 1) := by decide +kernel
theorem dw_view_9 : decode cL_view 9 = .ok (.lastore, 1) := by decide +kernel
theorem dw_view_10 : decode cL_view 10 = .ok (.goto 15, 3) := by decide +kernel
theorem dw_view_13 : decode cL_view 13 = .ok (.astore 4, 2) := by decide +kernel
theorem dw_view_15 : decode cL_view 15 = .ok (.iconst 1, 1) := by decide +kernel
theorem dw_view_16 : decode cL_view 16 = .ok (.ireturn, 1) := by decide +kernel
theorem dw_view_17 : decode cL_view 17 = .ok (.astore 4, 2) := by decide +kernel
theorem dw_view_19 : decode cL_view 19 = .ok (.iconst 2, 1) := by decide +kernel
theorem dw_view_20 : decode cL_view 20 = .ok (.ireturn, 1) := by decide +kernel
theorem dw_view_21 : decode cL_view 21 = .ok (.astore 4, 2) := by decide +kernel
theorem dw_view_23 : decode cL_view 23 = .ok (.iconst 3, 1) := by decide +kernel
theorem dw_view_24 : decode cL_view 24 = .ok (.ireturn, 1) := by decide +kernel
theorem dw_view_25 : decode cL_view 25 = .ok (.iconst 0, 1) := by decide +kernel
theorem dw_view_26 : decode cL_view 26 = .ok (.ireturn, 1) := by decide +kernel
theorem ow_view : oks 12 cL_view 0 [(.aload_n 3, 1, (0, 0, 0)), (.iconst 0, 1, (0, 0, 0)), (.aload_n 0, 1, (0, 0, 0)), (.iload_n 1, 1, (0, 0, 0)), (.iload_n 2, 1, (0, 0, 0))] = true ∧ plen 0 [(.aload_n 3, 1, (0, 0, 0)), (.iconst 0, 1, (0, 0, 0)), (.aload_n 0, 1, (0, 0, 0)), (.iload_n 1, 1, (0, 0, 0)), (.iload_n 2, 1, (0, 0, 0))] = 5 := by decide +kernel
theorem wc_view (l : Launch) (hl : l.stackTraces = false) (d : Nat) (hd : 9 ≤ d) (a1 : Int) (a2 : Int) (σ : Sg) (ov k ov' : Int) (q : ((Int ⊕ Nat) × Sg)) (h : F_X10_view a1 a2 σ = some q) (hk : kW [(0, 1), (1, 2), (2, 3)] q.1 ov = some (k, ov')) : WC l d yL_view cL_view 5 hh_view [.inr 0, .inl a1, .inl a2, .inr 55] σ ov k q.2 ov' := by
  obtain ⟨d, rfl⟩ : ∃ e, d = e + 1 := ⟨d - 1, by omega⟩
  intro D cI cZ cJ ax ao sz cvs hv hax hσ
  refine va_MetW (cc := cL_view) (maxL := 5) (ret := some .int) (hh := hh_view) (by decide +kernel) rfl ?_
  intro p e s m args below meth c s₁ B hml hp
  obtain ⟨rfl, hsz, hP, hK, hDd, hT⟩ := hp
  subst hsz
  have hts := atoms_spec (ws := wsH yL_view cL_view 5 hh_view) B.pre
  have htab := vx_table (x := yL_view) B (hts _ List.mem_cons_self)
  have hC : Cx 12 cL_view 5 false p s m cvs.toArray meth c (Ao ax ao s.heap.size) D cI cZ := ⟨B.exec, B.bytes, hml, findClass_of_methodNamed B.named, fun w hw => hts w (List.mem_cons_of_mem _ hw), B.notSynchronized, (fun h => by cases h), hK.kn, fun q h => Or.inr (Or.inr h)⟩
  have hct := lk_X10_view l hl d (by omega) a1 a2 σ q h
  have body : Rg p l e (headSpec (wsH yL_view cL_view 5 hh_view) (rmD (d + 1) 1 6)).room s m cvs.toArray below meth c (PwO D cI cZ cJ ax ao s σ ov) 0 0 (MQ below (va_Qi (fun (r : Int32) (_ : Unit) => r = Int32.ofInt k) (fun _ t => va_P D vwCl (Wo cI cZ cJ ax ao q.2 ov') t.heap ∧ ∀ k i : Nat, inR (q.2 k i)) (Ao ax ao s.heap.size)) cvs.toArray s 1 6 (Ao ax ao s.heap.size)) 5 0 [some (.inr 0), some (.inl a1), some (.inl a2), some (.inr 55), none] [] := by
    refine rg_ops (S := ([], σ)) (S' := ([], σ)) (on := 12) ⟨B.exec, B.bytes⟩ ow_view (by decide) (L' := [some (.inr 0), some (.inl a1), some (.inl a2), some (.inr 55), none]) (st' := [.inl a2, .inl a1, .inr 0, .inl 0, .inr 55]) rfl ?_
    obtain ⟨r, σ'⟩ := q
    cases r with
    | inl v =>
      obtain ⟨h91, h92⟩ : (0 : Int) = k ∧ v = ov' := Prod.mk.inj (Option.some.inj hk)
      subst h91 h92
      refine wr_call (M1 := m_X10_view) (as := [.inl a1, .inl a2]) (st := [.inl 0, .inr 55]) (z := ozI (.inl v)) (σ' := σ') (d := d + 1) hC rfl rfl (Nat.le_refl 1) (Nat.le_refl 6) dw_view_5 ln_12_47 im_X10_view mk_X10_view rfl rfl (Nat.le_of_ble_eq_true rfl) (Nat.le_refl _) (fun k hk => by simp at hk) hT hct (fun w hw => by cases hw; exact ⟨_, rfl⟩) (fun w hw => ?_) (fun E hE => by cases hE) _ rfl
      cases hw
      refine wr_put hC hK dw_view_8 dw_view_9 dw_view_10 (by rfl) ?_
      exact wr_ret hC (by decide) (by decide) dw_view_25 in0 dw_view_26 B.returns
    | inr E =>
      obtain ⟨hk2, rfl⟩ := kW_inr hk
      refine wr_call (M1 := m_X10_view) (as := [.inl a1, .inl a2]) (st := [.inl 0, .inr 55]) (z := ozI (.inr E)) (σ' := σ') (d := d + 1) hC rfl rfl (Nat.le_refl 1) (Nat.le_refl 6) dw_view_5 ln_12_47 im_X10_view mk_X10_view rfl rfl (Nat.le_of_ble_eq_true rfl) (Nat.le_refl _) (fun k hk => by simp at hk) hT hct (fun w hw => by cases hw) (fun w hw => by cases hw) (fun E2 hE2 ads H1 locs1 ls crest ce q9 hP1 hL1 hce hcv hcl => ?_) _ rfl
      cases hE2
      rcases kE_inv hk2 with ⟨hE9, hk9⟩ | ⟨-, hk2⟩
      · obtain rfl : E = 0 := hE9
        obtain rfl : k = 1 := hk9
        exact wr_exc (E := 0) (k := 1) (j := 4) (n := 2) hC hK hP1 hL1 (Nat.le_of_ble_eq_true rfl) hce hcv hcl [] ⟨0, 10, 13, 13⟩ [⟨0, 10, 17, 15⟩, ⟨0, 10, 21, 17⟩] (htab.trans rfl) (fun z hz => by cases hz) (by decide) (by decide) clw0 rfl (Or.inl ⟨rfl, dw_view_13⟩) dw_view_15 dw_view_16 (by unfold inR; decide) B.returns
      rcases kE_inv hk2 with ⟨hE9, hk9⟩ | ⟨-, hk2⟩
      · obtain rfl : E = 1 := hE9
        obtain rfl : k = 2 := hk9
        exact wr_exc (E := 1) (k := 2) (j := 4) (n := 2) hC hK hP1 hL1 (Nat.le_of_ble_eq_true rfl) hce hcv hcl [⟨0, 10, 13, 13⟩] ⟨0, 10, 17, 15⟩ [⟨0, 10, 21, 17⟩] (htab.trans rfl) (fun z hz => by rcases List.mem_cons.mp hz with rfl | hz; exact ⟨by decide, exN 0, clw0, hK.2.2 1 0 (by decide) (by decide) (by decide)⟩; cases hz) (by decide) (by decide) clw1 rfl (Or.inl ⟨rfl, dw_view_17⟩) dw_view_19 dw_view_20 (by unfold inR; decide) B.returns
      rcases kE_inv hk2 with ⟨hE9, hk9⟩ | ⟨-, hk2⟩
      · obtain rfl : E = 2 := hE9
        obtain rfl : k = 3 := hk9
        exact wr_exc (E := 2) (k := 3) (j := 4) (n := 2) hC hK hP1 hL1 (Nat.le_of_ble_eq_true rfl) hce hcv hcl [⟨0, 10, 13, 13⟩, ⟨0, 10, 17, 15⟩] ⟨0, 10, 21, 17⟩ [] (htab.trans rfl) (fun z hz => by rcases List.mem_cons.mp hz with rfl | hz; exact ⟨by decide, exN 0, clw0, hK.2.2 2 0 (by decide) (by decide) (by decide)⟩; rcases List.mem_cons.mp hz with rfl | hz; exact ⟨by decide, exN 1, clw1, hK.2.2 2 1 (by decide) (by decide) (by decide)⟩; cases hz) (by decide) (by decide) clw2 rfl (Or.inl ⟨rfl, dw_view_21⟩) dw_view_23 dw_view_24 (by unfold inR; decide) B.returns
      cases hk2
  have hw := body (ax ++ [ao]) s.heap [] _ [] ⟨rfl, hP, wo_A hax hDd, va_S.rf, hax, hσ⟩ (ent_lrs hv (Nat.le_of_ble_eq_true rfl)) trivial
  rw [lg_entry_eq]
  exact hw
def hh_list : List (Nat × Nat × Nat × Nat) := [(0, 14, 17, 13), (0, 14, 21, 15), (0, 14, 25, 17)]
theorem cw_list : Cond.codeWith yL_list cL_list 7 (some .int) hh_list ∈ TB := tb_at 789 (by decide +kernel) (by decide +kernel)
theorem sw_list : Cond.static yL_list ∈ TB := tb_at 788 (by decide +kernel) (by decide +kernel)
theorem dw_list_9 : decode cL_list 9 = .ok (.invokevirtual 50, 3) := by decide +kernel
theorem dw_list_12 : decode cL_list 12 = .ok (.i2l, 1) := by decide +kernel
theorem dw_list_13 : decode cL_list 13 = .ok (.lastore, 1) := by decide +kernel
theorem dw_list_14 : decode cL_list 14 = .ok (.goto 15, 3) := by decide +kernel
theorem dw_list_17 : decode cL_list 17 = .ok (.astore 6, 2) := by decide +kernel
theorem dw_list_19 : decode cL_list 19 = .ok (.iconst 1, 1) := by decide +kernel
theorem dw_list_20 : decode cL_list 20 = .ok (.ireturn, 1) := by decide +kernel
theorem dw_list_21 : decode cL_list 21 = .ok (.astore 6, 2) := by decide +kernel
theorem dw_list_23 : decode cL_list 23 = .ok (.iconst 2, 1) := by decide +kernel
theorem dw_list_24 : decode cL_list 24 = .ok (.ireturn, 1) := by decide +kernel
theorem dw_list_25 : decode cL_list 25 = .ok (.astore 6, 2) := by decide +kernel
theorem dw_list_27 : decode cL_list 27 = .ok (.iconst 3, 1) := by decide +kernel
theorem dw_list_28 : decode cL_list 28 = .ok (.ireturn, 1) := by decide +kernel
theorem dw_list_29 : decode cL_list 29 = .ok (.iconst 0, 1) := by decide +kernel
theorem dw_list_30 : decode cL_list 30 = .ok (.ireturn, 1) := by decide +kernel
theorem ow_list : oks 12 cL_list 0 [(.aload 5, 2, (0, 0, 0)), (.iconst 0, 1, (0, 0, 0)), (.aload_n 0, 1, (0, 0, 0)), (.iload_n 1, 1, (0, 0, 0)), (.iload_n 2, 1, (0, 0, 0)), (.iload_n 3, 1, (0, 0, 0)), (.iload 4, 2, (0, 0, 0))] = true ∧ plen 0 [(.aload 5, 2, (0, 0, 0)), (.iconst 0, 1, (0, 0, 0)), (.aload_n 0, 1, (0, 0, 0)), (.iload_n 1, 1, (0, 0, 0)), (.iload_n 2, 1, (0, 0, 0)), (.iload_n 3, 1, (0, 0, 0)), (.iload 4, 2, (0, 0, 0))] = 9 := by decide +kernel
theorem wc_list (l : Launch) (hl : l.stackTraces = false) (d : Nat) (hd : 9 ≤ d) (a1 : Int) (a2 : Int) (a3 : Int) (a4 : Int) (σ : Sg) (ov k ov' : Int) (q : ((Int ⊕ Nat) × Sg)) (h : F_X10_list a1 a2 a3 a4 σ = some q) (hk : kW [(0, 1), (1, 2), (2, 3)] q.1 ov = some (k, ov')) : WC l d yL_list cL_list 7 hh_list [.inr 0, .inl a1, .inl a2, .inl a3, .inl a4, .inr 55] σ ov k q.2 ov' := by
  obtain ⟨d, rfl⟩ : ∃ e, d = e + 1 := ⟨d - 1, by omega⟩
  intro D cI cZ cJ ax ao sz cvs hv hax hσ
  refine va_MetW (cc := cL_list) (maxL := 7) (ret := some .int) (hh := hh_list) (by decide +kernel) rfl ?_
  intro p e s m args below meth c s₁ B hml hp
  obtain ⟨rfl, hsz, hP, hK, hDd, hT⟩ := hp
  subst hsz
  have hts := atoms_spec (ws := wsH yL_list cL_list 7 hh_list) B.pre
  have htab := vx_table (x := yL_list) B (hts _ List.mem_cons_self)
  have hC : Cx 12 cL_list 7 false p s m cvs.toArray meth c (Ao ax ao s.heap.size) D cI cZ := ⟨B.exec, B.bytes, hml, findClass_of_methodNamed B.named, fun w hw => hts w (List.mem_cons_of_mem _ hw), B.notSynchronized, (fun h => by cases h), hK.kn, fun q h => Or.inr (Or.inr h)⟩
  have hct := lk_X10_list l hl d (by omega) a1 a2 a3 a4 σ q h
  have body : Rg p l e (headSpec (wsH yL_list cL_list 7 hh_list) (rmD (d + 1) 1 6)).room s m cvs.toArray below meth c (PwO D cI cZ cJ ax ao s σ ov) 0 0 (MQ below (va_Qi (fun (r : Int32) (_ : Unit) => r = Int32.ofInt k) (fun _ t => va_P D vwCl (Wo cI cZ cJ ax ao q.2 ov') t.heap ∧ ∀ k i : Nat, inR (q.2 k i)) (Ao ax ao s.heap.size)) cvs.toArray s 1 6 (Ao ax ao s.heap.size)) 7 0 [some (.inr 0), some (.inl a1), some (.inl a2), some (.inl a3), some (.inl a4), some (.inr 55), none] [] := by
    refine rg_ops (S := ([], σ)) (S' := ([], σ)) (on := 12) ⟨B.exec, B.bytes⟩ ow_list (by decide) (L' := [some (.inr 0), some (.inl a1), some (.inl a2), some (.inl a3), some (.inl a4), some (.inr 55), none]) (st' := [.inl a4, .inl a3, .inl a2, .inl a1, .inr 0, .inl 0, .inr 55]) rfl ?_
    obtain ⟨r, σ'⟩ := q
    cases r with
    | inl v =>
      obtain ⟨h91, h92⟩ : (0 : Int) = k ∧ v = ov' := Prod.mk.inj (Option.some.inj hk)
      subst h91 h92
      refine wr_call (M1 := m_X10_list) (as := [.inl a1, .inl a2, .inl a3, .inl a4]) (st := [.inl 0, .inr 55]) (z := ozI (.inl v)) (σ' := σ') (d := d + 1) hC rfl rfl (Nat.le_refl 1) (Nat.le_refl 6) dw_list_9 ln_12_50 im_X10_list mk_X10_list rfl rfl (Nat.le_of_ble_eq_true rfl) (Nat.le_refl _) (fun k hk => by simp at hk) hT hct (fun w hw => by cases hw; exact ⟨_, rfl⟩) (fun w hw => ?_) (fun E hE => by cases hE) _ rfl
      cases hw
      refine wr_put hC hK dw_list_12 dw_list_13 dw_list_14 (by rfl) ?_
      exact wr_ret hC (by decide) (by decide) dw_list_29 in0 dw_list_30 B.returns
    | inr E =>
      obtain ⟨hk2, rfl⟩ := kW_inr hk
      refine wr_call (M1 := m_X10_list) (as := [.inl a1, .inl a2, .inl a3, .inl a4]) (st := [.inl 0, .inr 55]) (z := ozI (.inr E)) (σ' := σ') (d := d + 1) hC rfl rfl (Nat.le_refl 1) (Nat.le_refl 6) dw_list_9 ln_12_50 im_X10_list mk_X10_list rfl rfl (Nat.le_of_ble_eq_true rfl) (Nat.le_refl _) (fun k hk => by simp at hk) hT hct (fun w hw => by cases hw) (fun w hw => by cases hw) (fun E2 hE2 ads H1 locs1 ls crest ce q9 hP1 hL1 hce hcv hcl => ?_) _ rfl
      cases hE2
      rcases kE_inv hk2 with ⟨hE9, hk9⟩ | ⟨-, hk2⟩
      · obtain rfl : E = 0 := hE9
        obtain rfl : k = 1 := hk9
        exact wr_exc (E := 0) (k := 1) (j := 6) (n := 2) hC hK hP1 hL1 (Nat.le_of_ble_eq_true rfl) hce hcv hcl [] ⟨0, 14, 17, 13⟩ [⟨0, 14, 21, 15⟩, ⟨0, 14, 25, 17⟩] (htab.trans rfl) (fun z hz => by cases hz) (by decide) (by decide) clw0 rfl (Or.inl ⟨rfl, dw_list_17⟩) dw_list_19 dw_list_20 (by unfold inR; decide) B.returns
      rcases kE_inv hk2 with ⟨hE9, hk9⟩ | ⟨-, hk2⟩
      · obtain rfl : E = 1 := hE9
        obtain rfl : k = 2 := hk9
        exact wr_exc (E := 1) (k := 2) (j := 6) (n := 2) hC hK hP1 hL1 (Nat.le_of_ble_eq_true rfl) hce hcv hcl [⟨0, 14, 17, 13⟩] ⟨0, 14, 21, 15⟩ [⟨0, 14, 25, 17⟩] (htab.trans rfl) (fun z hz => by rcases List.mem_cons.mp hz with rfl | hz; exact ⟨by decide, exN 0, clw0, hK.2.2 1 0 (by decide) (by decide) (by decide)⟩; cases hz) (by decide) (by decide) clw1 rfl (Or.inl ⟨rfl, dw_list_21⟩) dw_list_23 dw_list_24 (by unfold inR; decide) B.returns
      rcases kE_inv hk2 with ⟨hE9, hk9⟩ | ⟨-, hk2⟩
      · obtain rfl : E = 2 := hE9
        obtain rfl : k = 3 := hk9
        exact wr_exc (E := 2) (k := 3) (j := 6) (n := 2) hC hK hP1 hL1 (Nat.le_of_ble_eq_true rfl) hce hcv hcl [⟨0, 14, 17, 13⟩, ⟨0, 14, 21, 15⟩] ⟨0, 14, 25, 17⟩ [] (htab.trans rfl) (fun z hz => by rcases List.mem_cons.mp hz with rfl | hz; exact ⟨by decide, exN 0, clw0, hK.2.2 2 0 (by decide) (by decide) (by decide)⟩; rcases List.mem_cons.mp hz with rfl | hz; exact ⟨by decide, exN 1, clw1, hK.2.2 2 1 (by decide) (by decide) (by decide)⟩; cases hz) (by decide) (by decide) clw2 rfl (Or.inl ⟨rfl, dw_list_25⟩) dw_list_27 dw_list_28 (by unfold inR; decide) B.returns
      cases hk2
  have hw := body (ax ++ [ao]) s.heap [] _ [] ⟨rfl, hP, wo_A hax hDd, va_S.rf, hax, hσ⟩ (ent_lrs hv (Nat.le_of_ble_eq_true rfl)) trivial
  rw [lg_entry_eq]
  exact hw
def hh_setView : List (Nat × Nat × Nat × Nat) := [(0, 16, 19, 13), (0, 16, 23, 15)]
theorem cw_setView : Cond.codeWith yL_setView cL_setView 8 (some .int) hh_setView ∈ TB := tb_at 796 (by decide +kernel) (by decide +kernel)
theorem sw_setView : Cond.static yL_setView ∈ TB := tb_at 795 (by decide +kernel) (by decide +kernel)
theorem dw_setView_11 : decode cL_setView 11 = .ok (.invokevirtual 53, 3) := by decide +kernel
theorem dw_setView_14 : decode cL_setView 14 = .ok (.i2l, 1) := by decide +kernel
theorem dw_setView_15 : decode cL_setView 15 = .ok (.lastore, 1) := by decide +kernel
theorem dw_setView_16 : decode cL_setView 16 = .ok (.goto 11, 3) := by decide +kernel
theorem dw_setView_19 : decode cL_setView 19 = .ok (.astore 7, 2) := by decide +kernel
theorem dw_setView_21 : decode cL_setView 21 = .ok (.iconst 1, 1) := by decide +kernel
theorem dw_setView_22 : decode cL_setView 22 = .ok (.ireturn, 1) := by decide +kernel
theorem dw_setView_23 : decode cL_setView 23 = .ok (.astore 7, 2) := by decide +kernel
theorem dw_setView_25 : decode cL_setView 25 = .ok (.iconst 2, 1) := by decide +kernel
theorem dw_setView_26 : decode cL_setView 26 = .ok (.ireturn, 1) := by decide +kernel
theorem dw_setView_27 : decode cL_setView 27 = .ok (.iconst 0, 1) := by decide +kernel
theorem dw_setView_28 : decode cL_setView 28 = .ok (.ireturn, 1) := by decide +kernel
theorem ow_setView : oks 12 cL_setView 0 [(.aload 6, 2, (0, 0, 0)), (.iconst 0, 1, (0, 0, 0)), (.aload_n 0, 1, (0, 0, 0)), (.iload_n 1, 1, (0, 0, 0)), (.iload_n 2, 1, (0, 0, 0)), (.iload_n 3, 1, (0, 0, 0)), (.iload 4, 2, (0, 0, 0)), (.iload 5, 2, (0, 0, 0))] = true ∧ plen 0 [(.aload 6, 2, (0, 0, 0)), (.iconst 0, 1, (0, 0, 0)), (.aload_n 0, 1, (0, 0, 0)), (.iload_n 1, 1, (0, 0, 0)), (.iload_n 2, 1, (0, 0, 0)), (.iload_n 3, 1, (0, 0, 0)), (.iload 4, 2, (0, 0, 0)), (.iload 5, 2, (0, 0, 0))] = 11 := by decide +kernel
theorem wc_setView (l : Launch) (hl : l.stackTraces = false) (d : Nat) (hd : 8 ≤ d) (a1 : Int) (a2 : Int) (a3 : Int) (a4 : Int) (a5 : Int) (σ : Sg) (ov k ov' : Int) (q : ((Int ⊕ Nat) × Sg)) (h : F_X10_setView a1 a2 a3 a4 a5 σ = some q) (hk : kW [(0, 1), (1, 2)] q.1 ov = some (k, ov')) : WC l d yL_setView cL_setView 8 hh_setView [.inr 0, .inl a1, .inl a2, .inl a3, .inl a4, .inl a5, .inr 55] σ ov k q.2 ov' := by
  obtain ⟨d, rfl⟩ : ∃ e, d = e + 1 := ⟨d - 1, by omega⟩
  intro D cI cZ cJ ax ao sz cvs hv hax hσ
  refine va_MetW (cc := cL_setView) (maxL := 8) (ret := some .int) (hh := hh_setView) (by decide +kernel) rfl ?_
  intro p e s m args below meth c s₁ B hml hp
  obtain ⟨rfl, hsz, hP, hK, hDd, hT⟩ := hp
  subst hsz
  have hts := atoms_spec (ws := wsH yL_setView cL_setView 8 hh_setView) B.pre
  have htab := vx_table (x := yL_setView) B (hts _ List.mem_cons_self)
  have hC : Cx 12 cL_setView 8 false p s m cvs.toArray meth c (Ao ax ao s.heap.size) D cI cZ := ⟨B.exec, B.bytes, hml, findClass_of_methodNamed B.named, fun w hw => hts w (List.mem_cons_of_mem _ hw), B.notSynchronized, (fun h => by cases h), hK.kn, fun q h => Or.inr (Or.inr h)⟩
  have hct := lk_X10_setView l hl d (by omega) a1 a2 a3 a4 a5 σ q h
  have body : Rg p l e (headSpec (wsH yL_setView cL_setView 8 hh_setView) (rmD (d + 1) 1 6)).room s m cvs.toArray below meth c (PwO D cI cZ cJ ax ao s σ ov) 0 0 (MQ below (va_Qi (fun (r : Int32) (_ : Unit) => r = Int32.ofInt k) (fun _ t => va_P D vwCl (Wo cI cZ cJ ax ao q.2 ov') t.heap ∧ ∀ k i : Nat, inR (q.2 k i)) (Ao ax ao s.heap.size)) cvs.toArray s 1 6 (Ao ax ao s.heap.size)) 8 0 [some (.inr 0), some (.inl a1), some (.inl a2), some (.inl a3), some (.inl a4), some (.inl a5), some (.inr 55), none] [] := by
    refine rg_ops (S := ([], σ)) (S' := ([], σ)) (on := 12) ⟨B.exec, B.bytes⟩ ow_setView (by decide) (L' := [some (.inr 0), some (.inl a1), some (.inl a2), some (.inl a3), some (.inl a4), some (.inl a5), some (.inr 55), none]) (st' := [.inl a5, .inl a4, .inl a3, .inl a2, .inl a1, .inr 0, .inl 0, .inr 55]) rfl ?_
    obtain ⟨r, σ'⟩ := q
    cases r with
    | inl v =>
      obtain ⟨h91, h92⟩ : (0 : Int) = k ∧ v = ov' := Prod.mk.inj (Option.some.inj hk)
      subst h91 h92
      refine wr_call (M1 := m_X10_setView) (as := [.inl a1, .inl a2, .inl a3, .inl a4, .inl a5]) (st := [.inl 0, .inr 55]) (z := ozI (.inl v)) (σ' := σ') (d := d + 1) hC rfl rfl (Nat.le_refl 1) (Nat.le_refl 6) dw_setView_11 ln_12_53 im_X10_setView mk_X10_setView rfl rfl (Nat.le_of_ble_eq_true rfl) (Nat.le_refl _) (fun k hk => by simp at hk) hT hct (fun w hw => by cases hw; exact ⟨_, rfl⟩) (fun w hw => ?_) (fun E hE => by cases hE) _ rfl
      cases hw
      refine wr_put hC hK dw_setView_14 dw_setView_15 dw_setView_16 (by rfl) ?_
      exact wr_ret hC (by decide) (by decide) dw_setView_27 in0 dw_setView_28 B.returns
    | inr E =>
      obtain ⟨hk2, rfl⟩ := kW_inr hk
      refine wr_call (M1 := m_X10_setView) (as := [.inl a1, .inl a2, .inl a3, .inl a4, .inl a5]) (st := [.inl 0, .inr 55]) (z := ozI (.inr E)) (σ' := σ') (d := d + 1) hC rfl rfl (Nat.le_refl 1) (Nat.le_refl 6) dw_setView_11 ln_12_53 im_X10_setView mk_X10_setView rfl rfl (Nat.le_of_ble_eq_true rfl) (Nat.le_refl _) (fun k hk => by simp at hk) hT hct (fun w hw => by cases hw) (fun w hw => by cases hw) (fun E2 hE2 ads H1 locs1 ls crest ce q9 hP1 hL1 hce hcv hcl => ?_) _ rfl
      cases hE2
      rcases kE_inv hk2 with ⟨hE9, hk9⟩ | ⟨-, hk2⟩
      · obtain rfl : E = 0 := hE9
        obtain rfl : k = 1 := hk9
        exact wr_exc (E := 0) (k := 1) (j := 7) (n := 2) hC hK hP1 hL1 (Nat.le_of_ble_eq_true rfl) hce hcv hcl [] ⟨0, 16, 19, 13⟩ [⟨0, 16, 23, 15⟩] (htab.trans rfl) (fun z hz => by cases hz) (by decide) (by decide) clw0 rfl (Or.inl ⟨rfl, dw_setView_19⟩) dw_setView_21 dw_setView_22 (by unfold inR; decide) B.returns
      rcases kE_inv hk2 with ⟨hE9, hk9⟩ | ⟨-, hk2⟩
      · obtain rfl : E = 1 := hE9
        obtain rfl : k = 2 := hk9
        exact wr_exc (E := 1) (k := 2) (j := 7) (n := 2) hC hK hP1 hL1 (Nat.le_of_ble_eq_true rfl) hce hcv hcl [⟨0, 16, 19, 13⟩] ⟨0, 16, 23, 15⟩ [] (htab.trans rfl) (fun z hz => by rcases List.mem_cons.mp hz with rfl | hz; exact ⟨by decide, exN 0, clw0, hK.2.2 1 0 (by decide) (by decide) (by decide)⟩; cases hz) (by decide) (by decide) clw1 rfl (Or.inl ⟨rfl, dw_setView_23⟩) dw_setView_25 dw_setView_26 (by unfold inR; decide) B.returns
      cases hk2
  have hw := body (ax ++ [ao]) s.heap [] _ [] ⟨rfl, hP, wo_A hax hDd, va_S.rf, hax, hσ⟩ (ent_lrs hv (Nat.le_of_ble_eq_true rfl)) trivial
  rw [lg_entry_eq]
  exact hw
def hh_begin : List (Nat × Nat × Nat × Nat) := [(0, 14, 17, 15)]
theorem cw_begin : Cond.codeWith yL_begin cL_begin 7 (some .int) hh_begin ∈ TB := tb_at 812 (by decide +kernel) (by decide +kernel)
theorem sw_begin : Cond.static yL_begin ∈ TB := tb_at 811 (by decide +kernel) (by decide +kernel)
theorem dw_begin_9 : decode cL_begin 9 = .ok (.invokevirtual 56, 3) := by decide +kernel
theorem dw_begin_12 : decode cL_begin 12 = .ok (.i2l, 1) := by decide +kernel
theorem dw_begin_13 : decode cL_begin 13 = .ok (.lastore, 1) := by decide +kernel
theorem dw_begin_14 : decode cL_begin 14 = .ok (.goto 7, 3) := by decide +kernel
theorem dw_begin_17 : decode cL_begin 17 = .ok (.astore 6, 2) := by decide +kernel
theorem dw_begin_19 : decode cL_begin 19 = .ok (.iconst 1, 1) := by decide +kernel
theorem dw_begin_20 : decode cL_begin 20 = .ok (.ireturn, 1) := by decide +kernel
theorem dw_begin_21 : decode cL_begin 21 = .ok (.iconst 0, 1) := by decide +kernel
theorem dw_begin_22 : decode cL_begin 22 = .ok (.ireturn, 1) := by decide +kernel
theorem ow_begin : oks 12 cL_begin 0 [(.aload 5, 2, (0, 0, 0)), (.iconst 0, 1, (0, 0, 0)), (.aload_n 0, 1, (0, 0, 0)), (.iload_n 1, 1, (0, 0, 0)), (.iload_n 2, 1, (0, 0, 0)), (.iload_n 3, 1, (0, 0, 0)), (.iload 4, 2, (0, 0, 0))] = true ∧ plen 0 [(.aload 5, 2, (0, 0, 0)), (.iconst 0, 1, (0, 0, 0)), (.aload_n 0, 1, (0, 0, 0)), (.iload_n 1, 1, (0, 0, 0)), (.iload_n 2, 1, (0, 0, 0)), (.iload_n 3, 1, (0, 0, 0)), (.iload 4, 2, (0, 0, 0))] = 9 := by decide +kernel
theorem wc_begin (l : Launch) (hl : l.stackTraces = false) (d : Nat) (hd : 8 ≤ d) (a1 : Int) (a2 : Int) (a3 : Int) (a4 : Int) (σ : Sg) (ov k ov' : Int) (q : ((Int ⊕ Nat) × Sg)) (h : F_X10_begin a1 a2 a3 a4 σ = some q) (hk : kW [(1, 1)] q.1 ov = some (k, ov')) : WC l d yL_begin cL_begin 7 hh_begin [.inr 0, .inl a1, .inl a2, .inl a3, .inl a4, .inr 55] σ ov k q.2 ov' := by
  obtain ⟨d, rfl⟩ : ∃ e, d = e + 1 := ⟨d - 1, by omega⟩
  intro D cI cZ cJ ax ao sz cvs hv hax hσ
  refine va_MetW (cc := cL_begin) (maxL := 7) (ret := some .int) (hh := hh_begin) (by decide +kernel) rfl ?_
  intro p e s m args below meth c s₁ B hml hp
  obtain ⟨rfl, hsz, hP, hK, hDd, hT⟩ := hp
  subst hsz
  have hts := atoms_spec (ws := wsH yL_begin cL_begin 7 hh_begin) B.pre
  have htab := vx_table (x := yL_begin) B (hts _ List.mem_cons_self)
  have hC : Cx 12 cL_begin 7 false p s m cvs.toArray meth c (Ao ax ao s.heap.size) D cI cZ := ⟨B.exec, B.bytes, hml, findClass_of_methodNamed B.named, fun w hw => hts w (List.mem_cons_of_mem _ hw), B.notSynchronized, (fun h => by cases h), hK.kn, fun q h => Or.inr (Or.inr h)⟩
  have hct := lk_X10_begin l hl d (by omega) a1 a2 a3 a4 σ q h
  have body : Rg p l e (headSpec (wsH yL_begin cL_begin 7 hh_begin) (rmD (d + 1) 1 6)).room s m cvs.toArray below meth c (PwO D cI cZ cJ ax ao s σ ov) 0 0 (MQ below (va_Qi (fun (r : Int32) (_ : Unit) => r = Int32.ofInt k) (fun _ t => va_P D vwCl (Wo cI cZ cJ ax ao q.2 ov') t.heap ∧ ∀ k i : Nat, inR (q.2 k i)) (Ao ax ao s.heap.size)) cvs.toArray s 1 6 (Ao ax ao s.heap.size)) 7 0 [some (.inr 0), some (.inl a1), some (.inl a2), some (.inl a3), some (.inl a4), some (.inr 55), none] [] := by
    refine rg_ops (S := ([], σ)) (S' := ([], σ)) (on := 12) ⟨B.exec, B.bytes⟩ ow_begin (by decide) (L' := [some (.inr 0), some (.inl a1), some (.inl a2), some (.inl a3), some (.inl a4), some (.inr 55), none]) (st' := [.inl a4, .inl a3, .inl a2, .inl a1, .inr 0, .inl 0, .inr 55]) rfl ?_
    obtain ⟨r, σ'⟩ := q
    cases r with
    | inl v =>
      obtain ⟨h91, h92⟩ : (0 : Int) = k ∧ v = ov' := Prod.mk.inj (Option.some.inj hk)
      subst h91 h92
      refine wr_call (M1 := m_X10_begin) (as := [.inl a1, .inl a2, .inl a3, .inl a4]) (st := [.inl 0, .inr 55]) (z := ozI (.inl v)) (σ' := σ') (d := d + 1) hC rfl rfl (Nat.le_refl 1) (Nat.le_refl 6) dw_begin_9 ln_12_56 im_X10_begin mk_X10_begin rfl rfl (Nat.le_of_ble_eq_true rfl) (Nat.le_refl _) (fun k hk => by simp at hk) hT hct (fun w hw => by cases hw; exact ⟨_, rfl⟩) (fun w hw => ?_) (fun E hE => by cases hE) _ rfl
      cases hw
      refine wr_put hC hK dw_begin_12 dw_begin_13 dw_begin_14 (by rfl) ?_
      exact wr_ret hC (by decide) (by decide) dw_begin_21 in0 dw_begin_22 B.returns
    | inr E =>
      obtain ⟨hk2, rfl⟩ := kW_inr hk
      refine wr_call (M1 := m_X10_begin) (as := [.inl a1, .inl a2, .inl a3, .inl a4]) (st := [.inl 0, .inr 55]) (z := ozI (.inr E)) (σ' := σ') (d := d + 1) hC rfl rfl (Nat.le_refl 1) (Nat.le_refl 6) dw_begin_9 ln_12_56 im_X10_begin mk_X10_begin rfl rfl (Nat.le_of_ble_eq_true rfl) (Nat.le_refl _) (fun k hk => by simp at hk) hT hct (fun w hw => by cases hw) (fun w hw => by cases hw) (fun E2 hE2 ads H1 locs1 ls crest ce q9 hP1 hL1 hce hcv hcl => ?_) _ rfl
      cases hE2
      rcases kE_inv hk2 with ⟨hE9, hk9⟩ | ⟨-, hk2⟩
      · obtain rfl : E = 1 := hE9
        obtain rfl : k = 1 := hk9
        exact wr_exc (E := 1) (k := 1) (j := 6) (n := 2) hC hK hP1 hL1 (Nat.le_of_ble_eq_true rfl) hce hcv hcl [] ⟨0, 14, 17, 15⟩ [] (htab.trans rfl) (fun z hz => by cases hz) (by decide) (by decide) clw1 rfl (Or.inl ⟨rfl, dw_begin_17⟩) dw_begin_19 dw_begin_20 (by unfold inR; decide) B.returns
      cases hk2
  have hw := body (ax ++ [ao]) s.heap [] _ [] ⟨rfl, hP, wo_A hax hDd, va_S.rf, hax, hσ⟩ (ent_lrs hv (Nat.le_of_ble_eq_true rfl)) trivial
  rw [lg_entry_eq]
  exact hw
def hh_add : List (Nat × Nat × Nat × Nat) := [(0, 14, 17, 13), (0, 14, 21, 15), (0, 14, 25, 17)]
theorem cw_add : Cond.codeWith yL_add cL_add 7 (some .int) hh_add ∈ TB := tb_at 833 (by decide +kernel) (by decide +kernel)
theorem sw_add : Cond.static yL_add ∈ TB := tb_at 832 (by decide +kernel) (by decide +kernel)
theorem dw_add_9 : decode cL_add 9 = .ok (.invokevirtual 59, 3) := by decide +kernel
theorem dw_add_12 : decode cL_add 12 = .ok (.i2l, 1) := by decide +kernel
theorem dw_add_13 : decode cL_add 13 = .ok (.lastore, 1) := by decide +kernel
theorem dw_add_14 : decode cL_add 14 = .ok (.goto 15, 3) := by decide +kernel
theorem dw_add_17 : decode cL_add 17 = .ok (.astore 6, 2) := by decide +kernel
theorem dw_add_19 : decode cL_add 19 = .ok (.iconst 1, 1) := by decide +kernel
theorem dw_add_20 : decode cL_add 20 = .ok (.ireturn, 1) := by decide +kernel
theorem dw_add_21 : decode cL_add 21 = .ok (.astore 6, 2) := by decide +kernel
theorem dw_add_23 : decode cL_add 23 = .ok (.iconst 2, 1) := by decide +kernel
theorem dw_add_24 : decode cL_add 24 = .ok (.ireturn, 1) := by decide +kernel
theorem dw_add_25 : decode cL_add 25 = .ok (.astore 6, 2) := by decide +kernel
theorem dw_add_27 : decode cL_add 27 = .ok (.iconst 3, 1) := by decide +kernel
theorem dw_add_28 : decode cL_add 28 = .ok (.ireturn, 1) := by decide +kernel
theorem dw_add_29 : decode cL_add 29 = .ok (.iconst 0, 1) := by decide +kernel
theorem dw_add_30 : decode cL_add 30 = .ok (.ireturn, 1) := by decide +kernel
theorem ow_add : oks 12 cL_add 0 [(.aload 5, 2, (0, 0, 0)), (.iconst 0, 1, (0, 0, 0)), (.aload_n 0, 1, (0, 0, 0)), (.iload_n 1, 1, (0, 0, 0)), (.iload_n 2, 1, (0, 0, 0)), (.iload_n 3, 1, (0, 0, 0)), (.iload 4, 2, (0, 0, 0))] = true ∧ plen 0 [(.aload 5, 2, (0, 0, 0)), (.iconst 0, 1, (0, 0, 0)), (.aload_n 0, 1, (0, 0, 0)), (.iload_n 1, 1, (0, 0, 0)), (.iload_n 2, 1, (0, 0, 0)), (.iload_n 3, 1, (0, 0, 0)), (.iload 4, 2, (0, 0, 0))] = 9 := by decide +kernel
theorem wc_add (l : Launch) (hl : l.stackTraces = false) (d : Nat) (hd : 9 ≤ d) (a1 : Int) (a2 : Int) (a3 : Int) (a4 : Int) (σ : Sg) (ov k ov' : Int) (q : ((Int ⊕ Nat) × Sg)) (h : F_X10_add a1 a2 a3 a4 σ = some q) (hk : kW [(0, 1), (1, 2), (2, 3)] q.1 ov = some (k, ov')) : WC l d yL_add cL_add 7 hh_add [.inr 0, .inl a1, .inl a2, .inl a3, .inl a4, .inr 55] σ ov k q.2 ov' := by
  obtain ⟨d, rfl⟩ : ∃ e, d = e + 1 := ⟨d - 1, by omega⟩
  intro D cI cZ cJ ax ao sz cvs hv hax hσ
  refine va_MetW (cc := cL_add) (maxL := 7) (ret := some .int) (hh := hh_add) (by decide +kernel) rfl ?_
  intro p e s m args below meth c s₁ B hml hp
  obtain ⟨rfl, hsz, hP, hK, hDd, hT⟩ := hp
  subst hsz
  have hts := atoms_spec (ws := wsH yL_add cL_add 7 hh_add) B.pre
  have htab := vx_table (x := yL_add) B (hts _ List.mem_cons_self)
  have hC : Cx 12 cL_add 7 false p s m cvs.toArray meth c (Ao ax ao s.heap.size) D cI cZ := ⟨B.exec, B.bytes, hml, findClass_of_methodNamed B.named, fun w hw => hts w (List.mem_cons_of_mem _ hw), B.notSynchronized, (fun h => by cases h), hK.kn, fun q h => Or.inr (Or.inr h)⟩
  have hct := lk_X10_add l hl d (by omega) a1 a2 a3 a4 σ q h
  have body : Rg p l e (headSpec (wsH yL_add cL_add 7 hh_add) (rmD (d + 1) 1 6)).room s m cvs.toArray below meth c (PwO D cI cZ cJ ax ao s σ ov) 0 0 (MQ below (va_Qi (fun (r : Int32) (_ : Unit) => r = Int32.ofInt k) (fun _ t => va_P D vwCl (Wo cI cZ cJ ax ao q.2 ov') t.heap ∧ ∀ k i : Nat, inR (q.2 k i)) (Ao ax ao s.heap.size)) cvs.toArray s 1 6 (Ao ax ao s.heap.size)) 7 0 [some (.inr 0), some (.inl a1), some (.inl a2), some (.inl a3), some (.inl a4), some (.inr 55), none] [] := by
    refine rg_ops (S := ([], σ)) (S' := ([], σ)) (on := 12) ⟨B.exec, B.bytes⟩ ow_add (by decide) (L' := [some (.inr 0), some (.inl a1), some (.inl a2), some (.inl a3), some (.inl a4), some (.inr 55), none]) (st' := [.inl a4, .inl a3, .inl a2, .inl a1, .inr 0, .inl 0, .inr 55]) rfl ?_
    obtain ⟨r, σ'⟩ := q
    cases r with
    | inl v =>
      obtain ⟨h91, h92⟩ : (0 : Int) = k ∧ v = ov' := Prod.mk.inj (Option.some.inj hk)
      subst h91 h92
      refine wr_call (M1 := m_X10_add) (as := [.inl a1, .inl a2, .inl a3, .inl a4]) (st := [.inl 0, .inr 55]) (z := ozI (.inl v)) (σ' := σ') (d := d + 1) hC rfl rfl (Nat.le_refl 1) (Nat.le_refl 6) dw_add_9 ln_12_59 im_X10_add mk_X10_add rfl rfl (Nat.le_of_ble_eq_true rfl) (Nat.le_refl _) (fun k hk => by simp at hk) hT hct (fun w hw => by cases hw; exact ⟨_, rfl⟩) (fun w hw => ?_) (fun E hE => by cases hE) _ rfl
      cases hw
      refine wr_put hC hK dw_add_12 dw_add_13 dw_add_14 (by rfl) ?_
      exact wr_ret hC (by decide) (by decide) dw_add_29 in0 dw_add_30 B.returns
    | inr E =>
      obtain ⟨hk2, rfl⟩ := kW_inr hk
      refine wr_call (M1 := m_X10_add) (as := [.inl a1, .inl a2, .inl a3, .inl a4]) (st := [.inl 0, .inr 55]) (z := ozI (.inr E)) (σ' := σ') (d := d + 1) hC rfl rfl (Nat.le_refl 1) (Nat.le_refl 6) dw_add_9 ln_12_59 im_X10_add mk_X10_add rfl rfl (Nat.le_of_ble_eq_true rfl) (Nat.le_refl _) (fun k hk => by simp at hk) hT hct (fun w hw => by cases hw) (fun w hw => by cases hw) (fun E2 hE2 ads H1 locs1 ls crest ce q9 hP1 hL1 hce hcv hcl => ?_) _ rfl
      cases hE2
      rcases kE_inv hk2 with ⟨hE9, hk9⟩ | ⟨-, hk2⟩
      · obtain rfl : E = 0 := hE9
        obtain rfl : k = 1 := hk9
        exact wr_exc (E := 0) (k := 1) (j := 6) (n := 2) hC hK hP1 hL1 (Nat.le_of_ble_eq_true rfl) hce hcv hcl [] ⟨0, 14, 17, 13⟩ [⟨0, 14, 21, 15⟩, ⟨0, 14, 25, 17⟩] (htab.trans rfl) (fun z hz => by cases hz) (by decide) (by decide) clw0 rfl (Or.inl ⟨rfl, dw_add_17⟩) dw_add_19 dw_add_20 (by unfold inR; decide) B.returns
      rcases kE_inv hk2 with ⟨hE9, hk9⟩ | ⟨-, hk2⟩
      · obtain rfl : E = 1 := hE9
        obtain rfl : k = 2 := hk9
        exact wr_exc (E := 1) (k := 2) (j := 6) (n := 2) hC hK hP1 hL1 (Nat.le_of_ble_eq_true rfl) hce hcv hcl [⟨0, 14, 17, 13⟩] ⟨0, 14, 21, 15⟩ [⟨0, 14, 25, 17⟩] (htab.trans rfl) (fun z hz => by rcases List.mem_cons.mp hz with rfl | hz; exact ⟨by decide, exN 0, clw0, hK.2.2 1 0 (by decide) (by decide) (by decide)⟩; cases hz) (by decide) (by decide) clw1 rfl (Or.inl ⟨rfl, dw_add_21⟩) dw_add_23 dw_add_24 (by unfold inR; decide) B.returns
      rcases kE_inv hk2 with ⟨hE9, hk9⟩ | ⟨-, hk2⟩
      · obtain rfl : E = 2 := hE9
        obtain rfl : k = 3 := hk9
        exact wr_exc (E := 2) (k := 3) (j := 6) (n := 2) hC hK hP1 hL1 (Nat.le_of_ble_eq_true rfl) hce hcv hcl [⟨0, 14, 17, 13⟩, ⟨0, 14, 21, 15⟩] ⟨0, 14, 25, 17⟩ [] (htab.trans rfl) (fun z hz => by rcases List.mem_cons.mp hz with rfl | hz; exact ⟨by decide, exN 0, clw0, hK.2.2 2 0 (by decide) (by decide) (by decide)⟩; rcases List.mem_cons.mp hz with rfl | hz; exact ⟨by decide, exN 1, clw1, hK.2.2 2 1 (by decide) (by decide) (by decide)⟩; cases hz) (by decide) (by decide) clw2 rfl (Or.inl ⟨rfl, dw_add_25⟩) dw_add_27 dw_add_28 (by unfold inR; decide) B.returns
      cases hk2
  have hw := body (ax ++ [ao]) s.heap [] _ [] ⟨rfl, hP, wo_A hax hDd, va_S.rf, hax, hσ⟩ (ent_lrs hv (Nat.le_of_ble_eq_true rfl)) trivial
  rw [lg_entry_eq]
  exact hw
def hh_guard : List (Nat × Nat × Nat × Nat) := [(0, 14, 17, 13), (0, 14, 21, 15)]
theorem cw_guard : Cond.codeWith yL_guard cL_guard 7 (some .int) hh_guard ∈ TB := tb_at 871 (by decide +kernel) (by decide +kernel)
theorem sw_guard : Cond.static yL_guard ∈ TB := tb_at 870 (by decide +kernel) (by decide +kernel)
theorem dw_guard_9 : decode cL_guard 9 = .ok (.invokevirtual 62, 3) := by decide +kernel
theorem dw_guard_12 : decode cL_guard 12 = .ok (.i2l, 1) := by decide +kernel
theorem dw_guard_13 : decode cL_guard 13 = .ok (.lastore, 1) := by decide +kernel
theorem dw_guard_14 : decode cL_guard 14 = .ok (.goto 11, 3) := by decide +kernel
theorem dw_guard_17 : decode cL_guard 17 = .ok (.astore 6, 2) := by decide +kernel
theorem dw_guard_19 : decode cL_guard 19 = .ok (.iconst 1, 1) := by decide +kernel
theorem dw_guard_20 : decode cL_guard 20 = .ok (.ireturn, 1) := by decide +kernel
theorem dw_guard_21 : decode cL_guard 21 = .ok (.astore 6, 2) := by decide +kernel
theorem dw_guard_23 : decode cL_guard 23 = .ok (.iconst 2, 1) := by decide +kernel
theorem dw_guard_24 : decode cL_guard 24 = .ok (.ireturn, 1) := by decide +kernel
theorem dw_guard_25 : decode cL_guard 25 = .ok (.iconst 0, 1) := by decide +kernel
theorem dw_guard_26 : decode cL_guard 26 = .ok (.ireturn, 1) := by decide +kernel
theorem ow_guard : oks 12 cL_guard 0 [(.aload 5, 2, (0, 0, 0)), (.iconst 0, 1, (0, 0, 0)), (.aload_n 0, 1, (0, 0, 0)), (.iload_n 1, 1, (0, 0, 0)), (.iload_n 2, 1, (0, 0, 0)), (.iload_n 3, 1, (0, 0, 0)), (.iload 4, 2, (0, 0, 0))] = true ∧ plen 0 [(.aload 5, 2, (0, 0, 0)), (.iconst 0, 1, (0, 0, 0)), (.aload_n 0, 1, (0, 0, 0)), (.iload_n 1, 1, (0, 0, 0)), (.iload_n 2, 1, (0, 0, 0)), (.iload_n 3, 1, (0, 0, 0)), (.iload 4, 2, (0, 0, 0))] = 9 := by decide +kernel
theorem wc_guard (l : Launch) (hl : l.stackTraces = false) (d : Nat) (hd : 58 ≤ d) (a1 : Int) (a2 : Int) (a3 : Int) (a4 : Int) (σ : Sg) (ov k ov' : Int) (q : ((Int ⊕ Nat) × Sg)) (h : F_X10_guard a1 a2 a3 a4 σ = some q) (hk : kW [(0, 1), (1, 2)] q.1 ov = some (k, ov')) : WC l d yL_guard cL_guard 7 hh_guard [.inr 0, .inl a1, .inl a2, .inl a3, .inl a4, .inr 55] σ ov k q.2 ov' := by
  obtain ⟨d, rfl⟩ : ∃ e, d = e + 1 := ⟨d - 1, by omega⟩
  intro D cI cZ cJ ax ao sz cvs hv hax hσ
  refine va_MetW (cc := cL_guard) (maxL := 7) (ret := some .int) (hh := hh_guard) (by decide +kernel) rfl ?_
  intro p e s m args below meth c s₁ B hml hp
  obtain ⟨rfl, hsz, hP, hK, hDd, hT⟩ := hp
  subst hsz
  have hts := atoms_spec (ws := wsH yL_guard cL_guard 7 hh_guard) B.pre
  have htab := vx_table (x := yL_guard) B (hts _ List.mem_cons_self)
  have hC : Cx 12 cL_guard 7 false p s m cvs.toArray meth c (Ao ax ao s.heap.size) D cI cZ := ⟨B.exec, B.bytes, hml, findClass_of_methodNamed B.named, fun w hw => hts w (List.mem_cons_of_mem _ hw), B.notSynchronized, (fun h => by cases h), hK.kn, fun q h => Or.inr (Or.inr h)⟩
  have hct := lk_X10_guard l hl d (by omega) a1 a2 a3 a4 σ q h
  have body : Rg p l e (headSpec (wsH yL_guard cL_guard 7 hh_guard) (rmD (d + 1) 1 6)).room s m cvs.toArray below meth c (PwO D cI cZ cJ ax ao s σ ov) 0 0 (MQ below (va_Qi (fun (r : Int32) (_ : Unit) => r = Int32.ofInt k) (fun _ t => va_P D vwCl (Wo cI cZ cJ ax ao q.2 ov') t.heap ∧ ∀ k i : Nat, inR (q.2 k i)) (Ao ax ao s.heap.size)) cvs.toArray s 1 6 (Ao ax ao s.heap.size)) 7 0 [some (.inr 0), some (.inl a1), some (.inl a2), some (.inl a3), some (.inl a4), some (.inr 55), none] [] := by
    refine rg_ops (S := ([], σ)) (S' := ([], σ)) (on := 12) ⟨B.exec, B.bytes⟩ ow_guard (by decide) (L' := [some (.inr 0), some (.inl a1), some (.inl a2), some (.inl a3), some (.inl a4), some (.inr 55), none]) (st' := [.inl a4, .inl a3, .inl a2, .inl a1, .inr 0, .inl 0, .inr 55]) rfl ?_
    obtain ⟨r, σ'⟩ := q
    cases r with
    | inl v =>
      obtain ⟨h91, h92⟩ : (0 : Int) = k ∧ v = ov' := Prod.mk.inj (Option.some.inj hk)
      subst h91 h92
      refine wr_call (M1 := m_X10_guard) (as := [.inl a1, .inl a2, .inl a3, .inl a4]) (st := [.inl 0, .inr 55]) (z := ozI (.inl v)) (σ' := σ') (d := d + 1) hC rfl rfl (Nat.le_refl 1) (Nat.le_refl 6) dw_guard_9 ln_12_62 im_X10_guard mk_X10_guard rfl rfl (Nat.le_of_ble_eq_true rfl) (Nat.le_refl _) (fun k hk => by simp at hk) hT hct (fun w hw => by cases hw; exact ⟨_, rfl⟩) (fun w hw => ?_) (fun E hE => by cases hE) _ rfl
      cases hw
      refine wr_put hC hK dw_guard_12 dw_guard_13 dw_guard_14 (by rfl) ?_
      exact wr_ret hC (by decide) (by decide) dw_guard_25 in0 dw_guard_26 B.returns
    | inr E =>
      obtain ⟨hk2, rfl⟩ := kW_inr hk
      refine wr_call (M1 := m_X10_guard) (as := [.inl a1, .inl a2, .inl a3, .inl a4]) (st := [.inl 0, .inr 55]) (z := ozI (.inr E)) (σ' := σ') (d := d + 1) hC rfl rfl (Nat.le_refl 1) (Nat.le_refl 6) dw_guard_9 ln_12_62 im_X10_guard mk_X10_guard rfl rfl (Nat.le_of_ble_eq_true rfl) (Nat.le_refl _) (fun k hk => by simp at hk) hT hct (fun w hw => by cases hw) (fun w hw => by cases hw) (fun E2 hE2 ads H1 locs1 ls crest ce q9 hP1 hL1 hce hcv hcl => ?_) _ rfl
      cases hE2
      rcases kE_inv hk2 with ⟨hE9, hk9⟩ | ⟨-, hk2⟩
      · obtain rfl : E = 0 := hE9
        obtain rfl : k = 1 := hk9
        exact wr_exc (E := 0) (k := 1) (j := 6) (n := 2) hC hK hP1 hL1 (Nat.le_of_ble_eq_true rfl) hce hcv hcl [] ⟨0, 14, 17, 13⟩ [⟨0, 14, 21, 15⟩] (htab.trans rfl) (fun z hz => by cases hz) (by decide) (by decide) clw0 rfl (Or.inl ⟨rfl, dw_guard_17⟩) dw_guard_19 dw_guard_20 (by unfold inR; decide) B.returns
      rcases kE_inv hk2 with ⟨hE9, hk9⟩ | ⟨-, hk2⟩
      · obtain rfl : E = 1 := hE9
        obtain rfl : k = 2 := hk9
        exact wr_exc (E := 1) (k := 2) (j := 6) (n := 2) hC hK hP1 hL1 (Nat.le_of_ble_eq_true rfl) hce hcv hcl [⟨0, 14, 17, 13⟩] ⟨0, 14, 21, 15⟩ [] (htab.trans rfl) (fun z hz => by rcases List.mem_cons.mp hz with rfl | hz; exact ⟨by decide, exN 0, clw0, hK.2.2 1 0 (by decide) (by decide) (by decide)⟩; cases hz) (by decide) (by decide) clw1 rfl (Or.inl ⟨rfl, dw_guard_21⟩) dw_guard_23 dw_guard_24 (by unfold inR; decide) B.returns
      cases hk2
  have hw := body (ax ++ [ao]) s.heap [] _ [] ⟨rfl, hP, wo_A hax hDd, va_S.rf, hax, hσ⟩ (ent_lrs hv (Nat.le_of_ble_eq_true rfl)) trivial
  rw [lg_entry_eq]
  exact hw
def hh_split : List (Nat × Nat × Nat × Nat) := [(0, 10, 13, 13), (0, 10, 17, 17)]
theorem cw_split : Cond.codeWith yL_split cL_split 5 (some .int) hh_split ∈ TB := tb_at 899 (by decide +kernel) (by decide +kernel)
theorem sw_split : Cond.static yL_split ∈ TB := tb_at 898 (by decide +kernel) (by decide +kernel)
theorem dw_split_5 : decode cL_split 5 = .ok (.invokevirtual 65, 3) := by decide +kernel
theorem dw_split_8 : decode cL_split 8 = .ok (.i2l, 1) := by decide +kernel
theorem dw_split_9 : decode cL_split 9 = .ok (.lastore, 1) := by decide +kernel
theorem dw_split_10 : decode cL_split 10 = .ok (.goto 11, 3) := by decide +kernel
theorem dw_split_13 : decode cL_split 13 = .ok (.astore 4, 2) := by decide +kernel
theorem dw_split_15 : decode cL_split 15 = .ok (.iconst 1, 1) := by decide +kernel
theorem dw_split_16 : decode cL_split 16 = .ok (.ireturn, 1) := by decide +kernel
theorem dw_split_17 : decode cL_split 17 = .ok (.astore 4, 2) := by decide +kernel
theorem dw_split_19 : decode cL_split 19 = .ok (.iconst 2, 1) := by decide +kernel
theorem dw_split_20 : decode cL_split 20 = .ok (.ireturn, 1) := by decide +kernel
theorem dw_split_21 : decode cL_split 21 = .ok (.iconst 0, 1) := by decide +kernel
theorem dw_split_22 : decode cL_split 22 = .ok (.ireturn, 1) := by decide +kernel
theorem ow_split : oks 12 cL_split 0 [(.aload_n 3, 1, (0, 0, 0)), (.iconst 0, 1, (0, 0, 0)), (.aload_n 0, 1, (0, 0, 0)), (.iload_n 1, 1, (0, 0, 0)), (.iload_n 2, 1, (0, 0, 0))] = true ∧ plen 0 [(.aload_n 3, 1, (0, 0, 0)), (.iconst 0, 1, (0, 0, 0)), (.aload_n 0, 1, (0, 0, 0)), (.iload_n 1, 1, (0, 0, 0)), (.iload_n 2, 1, (0, 0, 0))] = 5 := by decide +kernel
theorem wc_split (l : Launch) (hl : l.stackTraces = false) (d : Nat) (hd : 8 ≤ d) (a1 : Int) (a2 : Int) (σ : Sg) (ov k ov' : Int) (q : ((Int ⊕ Nat) × Sg)) (h : F_X10_split a1 a2 σ = some q) (hk : kW [(0, 1), (2, 2)] q.1 ov = some (k, ov')) : WC l d yL_split cL_split 5 hh_split [.inr 0, .inl a1, .inl a2, .inr 55] σ ov k q.2 ov' := by
  obtain ⟨d, rfl⟩ : ∃ e, d = e + 1 := ⟨d - 1, by omega⟩
  intro D cI cZ cJ ax ao sz cvs hv hax hσ
  refine va_MetW (cc := cL_split) (maxL := 5) (ret := some .int) (hh := hh_split) (by decide +kernel) rfl ?_
  intro p e s m args below meth c s₁ B hml hp
  obtain ⟨rfl, hsz, hP, hK, hDd, hT⟩ := hp
  subst hsz
  have hts := atoms_spec (ws := wsH yL_split cL_split 5 hh_split) B.pre
  have htab := vx_table (x := yL_split) B (hts _ List.mem_cons_self)
  have hC : Cx 12 cL_split 5 false p s m cvs.toArray meth c (Ao ax ao s.heap.size) D cI cZ := ⟨B.exec, B.bytes, hml, findClass_of_methodNamed B.named, fun w hw => hts w (List.mem_cons_of_mem _ hw), B.notSynchronized, (fun h => by cases h), hK.kn, fun q h => Or.inr (Or.inr h)⟩
  have hct := lk_X10_split l hl d (by omega) a1 a2 σ q h
  have body : Rg p l e (headSpec (wsH yL_split cL_split 5 hh_split) (rmD (d + 1) 1 6)).room s m cvs.toArray below meth c (PwO D cI cZ cJ ax ao s σ ov) 0 0 (MQ below (va_Qi (fun (r : Int32) (_ : Unit) => r = Int32.ofInt k) (fun _ t => va_P D vwCl (Wo cI cZ cJ ax ao q.2 ov') t.heap ∧ ∀ k i : Nat, inR (q.2 k i)) (Ao ax ao s.heap.size)) cvs.toArray s 1 6 (Ao ax ao s.heap.size)) 5 0 [some (.inr 0), some (.inl a1), some (.inl a2), some (.inr 55), none] [] := by
    refine rg_ops (S := ([], σ)) (S' := ([], σ)) (on := 12) ⟨B.exec, B.bytes⟩ ow_split (by decide) (L' := [some (.inr 0), some (.inl a1), some (.inl a2), some (.inr 55), none]) (st' := [.inl a2, .inl a1, .inr 0, .inl 0, .inr 55]) rfl ?_
    obtain ⟨r, σ'⟩ := q
    cases r with
    | inl v =>
      obtain ⟨h91, h92⟩ : (0 : Int) = k ∧ v = ov' := Prod.mk.inj (Option.some.inj hk)
      subst h91 h92
      refine wr_call (M1 := m_X10_split) (as := [.inl a1, .inl a2]) (st := [.inl 0, .inr 55]) (z := ozI (.inl v)) (σ' := σ') (d := d + 1) hC rfl rfl (Nat.le_refl 1) (Nat.le_refl 6) dw_split_5 ln_12_65 im_X10_split mk_X10_split rfl rfl (Nat.le_of_ble_eq_true rfl) (Nat.le_refl _) (fun k hk => by simp at hk) hT hct (fun w hw => by cases hw; exact ⟨_, rfl⟩) (fun w hw => ?_) (fun E hE => by cases hE) _ rfl
      cases hw
      refine wr_put hC hK dw_split_8 dw_split_9 dw_split_10 (by rfl) ?_
      exact wr_ret hC (by decide) (by decide) dw_split_21 in0 dw_split_22 B.returns
    | inr E =>
      obtain ⟨hk2, rfl⟩ := kW_inr hk
      refine wr_call (M1 := m_X10_split) (as := [.inl a1, .inl a2]) (st := [.inl 0, .inr 55]) (z := ozI (.inr E)) (σ' := σ') (d := d + 1) hC rfl rfl (Nat.le_refl 1) (Nat.le_refl 6) dw_split_5 ln_12_65 im_X10_split mk_X10_split rfl rfl (Nat.le_of_ble_eq_true rfl) (Nat.le_refl _) (fun k hk => by simp at hk) hT hct (fun w hw => by cases hw) (fun w hw => by cases hw) (fun E2 hE2 ads H1 locs1 ls crest ce q9 hP1 hL1 hce hcv hcl => ?_) _ rfl
      cases hE2
      rcases kE_inv hk2 with ⟨hE9, hk9⟩ | ⟨-, hk2⟩
      · obtain rfl : E = 0 := hE9
        obtain rfl : k = 1 := hk9
        exact wr_exc (E := 0) (k := 1) (j := 4) (n := 2) hC hK hP1 hL1 (Nat.le_of_ble_eq_true rfl) hce hcv hcl [] ⟨0, 10, 13, 13⟩ [⟨0, 10, 17, 17⟩] (htab.trans rfl) (fun z hz => by cases hz) (by decide) (by decide) clw0 rfl (Or.inl ⟨rfl, dw_split_13⟩) dw_split_15 dw_split_16 (by unfold inR; decide) B.returns
      rcases kE_inv hk2 with ⟨hE9, hk9⟩ | ⟨-, hk2⟩
      · obtain rfl : E = 2 := hE9
        obtain rfl : k = 2 := hk9
        exact wr_exc (E := 2) (k := 2) (j := 4) (n := 2) hC hK hP1 hL1 (Nat.le_of_ble_eq_true rfl) hce hcv hcl [⟨0, 10, 13, 13⟩] ⟨0, 10, 17, 17⟩ [] (htab.trans rfl) (fun z hz => by rcases List.mem_cons.mp hz with rfl | hz; exact ⟨by decide, exN 0, clw0, hK.2.2 2 0 (by decide) (by decide) (by decide)⟩; cases hz) (by decide) (by decide) clw2 rfl (Or.inl ⟨rfl, dw_split_17⟩) dw_split_19 dw_split_20 (by unfold inR; decide) B.returns
      cases hk2
  have hw := body (ax ++ [ao]) s.heap [] _ [] ⟨rfl, hP, wo_A hax hDd, va_S.rf, hax, hσ⟩ (ent_lrs hv (Nat.le_of_ble_eq_true rfl)) trivial
  rw [lg_entry_eq]
  exact hw
def hh_merge : List (Nat × Nat × Nat × Nat) := [(0, 10, 13, 13), (0, 10, 17, 17)]
theorem cw_merge : Cond.codeWith yL_merge cL_merge 5 (some .int) hh_merge ∈ TB := tb_at 920 (by decide +kernel) (by decide +kernel)
theorem sw_merge : Cond.static yL_merge ∈ TB := tb_at 919 (by decide +kernel) (by decide +kernel)
theorem dw_merge_5 : decode cL_merge 5 = .ok (.invokevirtual 68, 3) := by decide +kernel
theorem dw_merge_8 : decode cL_merge 8 = .ok (.i2l, 1) := by decide +kernel
theorem dw_merge_9 : decode cL_merge 9 = .ok (.lastore, 1) := by decide +kernel
theorem dw_merge_10 : decode cL_merge 10 = .ok (.goto 11, 3) := by decide +kernel
theorem dw_merge_13 : decode cL_merge 13 = .ok (.astore 4, 2) := by decide +kernel
theorem dw_merge_15 : decode cL_merge 15 = .ok (.iconst 1, 1) := by decide +kernel
theorem dw_merge_16 : decode cL_merge 16 = .ok (.ireturn, 1) := by decide +kernel
theorem dw_merge_17 : decode cL_merge 17 = .ok (.astore 4, 2) := by decide +kernel
theorem dw_merge_19 : decode cL_merge 19 = .ok (.iconst 2, 1) := by decide +kernel
theorem dw_merge_20 : decode cL_merge 20 = .ok (.ireturn, 1) := by decide +kernel
theorem dw_merge_21 : decode cL_merge 21 = .ok (.iconst 0, 1) := by decide +kernel
theorem dw_merge_22 : decode cL_merge 22 = .ok (.ireturn, 1) := by decide +kernel
theorem ow_merge : oks 12 cL_merge 0 [(.aload_n 3, 1, (0, 0, 0)), (.iconst 0, 1, (0, 0, 0)), (.aload_n 0, 1, (0, 0, 0)), (.iload_n 1, 1, (0, 0, 0)), (.iload_n 2, 1, (0, 0, 0))] = true ∧ plen 0 [(.aload_n 3, 1, (0, 0, 0)), (.iconst 0, 1, (0, 0, 0)), (.aload_n 0, 1, (0, 0, 0)), (.iload_n 1, 1, (0, 0, 0)), (.iload_n 2, 1, (0, 0, 0))] = 5 := by decide +kernel
theorem wc_merge (l : Launch) (hl : l.stackTraces = false) (d : Nat) (hd : 9 ≤ d) (a1 : Int) (a2 : Int) (σ : Sg) (ov k ov' : Int) (q : ((Int ⊕ Nat) × Sg)) (h : F_X10_merge a1 a2 σ = some q) (hk : kW [(0, 1), (2, 2)] q.1 ov = some (k, ov')) : WC l d yL_merge cL_merge 5 hh_merge [.inr 0, .inl a1, .inl a2, .inr 55] σ ov k q.2 ov' := by
  obtain ⟨d, rfl⟩ : ∃ e, d = e + 1 := ⟨d - 1, by omega⟩
  intro D cI cZ cJ ax ao sz cvs hv hax hσ
  refine va_MetW (cc := cL_merge) (maxL := 5) (ret := some .int) (hh := hh_merge) (by decide +kernel) rfl ?_
  intro p e s m args below meth c s₁ B hml hp
  obtain ⟨rfl, hsz, hP, hK, hDd, hT⟩ := hp
  subst hsz
  have hts := atoms_spec (ws := wsH yL_merge cL_merge 5 hh_merge) B.pre
  have htab := vx_table (x := yL_merge) B (hts _ List.mem_cons_self)
  have hC : Cx 12 cL_merge 5 false p s m cvs.toArray meth c (Ao ax ao s.heap.size) D cI cZ := ⟨B.exec, B.bytes, hml, findClass_of_methodNamed B.named, fun w hw => hts w (List.mem_cons_of_mem _ hw), B.notSynchronized, (fun h => by cases h), hK.kn, fun q h => Or.inr (Or.inr h)⟩
  have hct := lk_X10_merge l hl d (by omega) a1 a2 σ q h
  have body : Rg p l e (headSpec (wsH yL_merge cL_merge 5 hh_merge) (rmD (d + 1) 1 6)).room s m cvs.toArray below meth c (PwO D cI cZ cJ ax ao s σ ov) 0 0 (MQ below (va_Qi (fun (r : Int32) (_ : Unit) => r = Int32.ofInt k) (fun _ t => va_P D vwCl (Wo cI cZ cJ ax ao q.2 ov') t.heap ∧ ∀ k i : Nat, inR (q.2 k i)) (Ao ax ao s.heap.size)) cvs.toArray s 1 6 (Ao ax ao s.heap.size)) 5 0 [some (.inr 0), some (.inl a1), some (.inl a2), some (.inr 55), none] [] := by
    refine rg_ops (S := ([], σ)) (S' := ([], σ)) (on := 12) ⟨B.exec, B.bytes⟩ ow_merge (by decide) (L' := [some (.inr 0), some (.inl a1), some (.inl a2), some (.inr 55), none]) (st' := [.inl a2, .inl a1, .inr 0, .inl 0, .inr 55]) rfl ?_
    obtain ⟨r, σ'⟩ := q
    cases r with
    | inl v =>
      obtain ⟨h91, h92⟩ : (0 : Int) = k ∧ v = ov' := Prod.mk.inj (Option.some.inj hk)
      subst h91 h92
      refine wr_call (M1 := m_X10_merge) (as := [.inl a1, .inl a2]) (st := [.inl 0, .inr 55]) (z := ozI (.inl v)) (σ' := σ') (d := d + 1) hC rfl rfl (Nat.le_refl 1) (Nat.le_refl 6) dw_merge_5 ln_12_68 im_X10_merge mk_X10_merge rfl rfl (Nat.le_of_ble_eq_true rfl) (Nat.le_refl _) (fun k hk => by simp at hk) hT hct (fun w hw => by cases hw; exact ⟨_, rfl⟩) (fun w hw => ?_) (fun E hE => by cases hE) _ rfl
      cases hw
      refine wr_put hC hK dw_merge_8 dw_merge_9 dw_merge_10 (by rfl) ?_
      exact wr_ret hC (by decide) (by decide) dw_merge_21 in0 dw_merge_22 B.returns
    | inr E =>
      obtain ⟨hk2, rfl⟩ := kW_inr hk
      refine wr_call (M1 := m_X10_merge) (as := [.inl a1, .inl a2]) (st := [.inl 0, .inr 55]) (z := ozI (.inr E)) (σ' := σ') (d := d + 1) hC rfl rfl (Nat.le_refl 1) (Nat.le_refl 6) dw_merge_5 ln_12_68 im_X10_merge mk_X10_merge rfl rfl (Nat.le_of_ble_eq_true rfl) (Nat.le_refl _) (fun k hk => by simp at hk) hT hct (fun w hw => by cases hw) (fun w hw => by cases hw) (fun E2 hE2 ads H1 locs1 ls crest ce q9 hP1 hL1 hce hcv hcl => ?_) _ rfl
      cases hE2
      rcases kE_inv hk2 with ⟨hE9, hk9⟩ | ⟨-, hk2⟩
      · obtain rfl : E = 0 := hE9
        obtain rfl : k = 1 := hk9
        exact wr_exc (E := 0) (k := 1) (j := 4) (n := 2) hC hK hP1 hL1 (Nat.le_of_ble_eq_true rfl) hce hcv hcl [] ⟨0, 10, 13, 13⟩ [⟨0, 10, 17, 17⟩] (htab.trans rfl) (fun z hz => by cases hz) (by decide) (by decide) clw0 rfl (Or.inl ⟨rfl, dw_merge_13⟩) dw_merge_15 dw_merge_16 (by unfold inR; decide) B.returns
      rcases kE_inv hk2 with ⟨hE9, hk9⟩ | ⟨-, hk2⟩
      · obtain rfl : E = 2 := hE9
        obtain rfl : k = 2 := hk9
        exact wr_exc (E := 2) (k := 2) (j := 4) (n := 2) hC hK hP1 hL1 (Nat.le_of_ble_eq_true rfl) hce hcv hcl [⟨0, 10, 13, 13⟩] ⟨0, 10, 17, 17⟩ [] (htab.trans rfl) (fun z hz => by rcases List.mem_cons.mp hz with rfl | hz; exact ⟨by decide, exN 0, clw0, hK.2.2 2 0 (by decide) (by decide) (by decide)⟩; cases hz) (by decide) (by decide) clw2 rfl (Or.inl ⟨rfl, dw_merge_17⟩) dw_merge_19 dw_merge_20 (by unfold inR; decide) B.returns
      cases hk2
  have hw := body (ax ++ [ao]) s.heap [] _ [] ⟨rfl, hP, wo_A hax hDd, va_S.rf, hax, hσ⟩ (ent_lrs hv (Nat.le_of_ble_eq_true rfl)) trivial
  rw [lg_entry_eq]
  exact hw
def hh_run : List (Nat × Nat × Nat × Nat) := [(0, 14, 17, 13), (0, 14, 21, 15), (0, 14, 25, 17)]
theorem cw_run : Cond.codeWith yL_run cL_run 7 (some .int) hh_run ∈ TB := tb_at 935 (by decide +kernel) (by decide +kernel)
theorem sw_run : Cond.static yL_run ∈ TB := tb_at 934 (by decide +kernel) (by decide +kernel)
theorem dw_run_9 : decode cL_run 9 = .ok (.invokevirtual 71, 3) := by decide +kernel
theorem dw_run_12 : decode cL_run 12 = .ok (.i2l, 1) := by decide +kernel
theorem dw_run_13 : decode cL_run 13 = .ok (.lastore, 1) := by decide +kernel
theorem dw_run_14 : decode cL_run 14 = .ok (.goto 15, 3) := by decide +kernel
theorem dw_run_17 : decode cL_run 17 = .ok (.astore 6, 2) := by decide +kernel
theorem dw_run_19 : decode cL_run 19 = .ok (.iconst 1, 1) := by decide +kernel
theorem dw_run_20 : decode cL_run 20 = .ok (.ireturn, 1) := by decide +kernel
theorem dw_run_21 : decode cL_run 21 = .ok (.astore 6, 2) := by decide +kernel
theorem dw_run_23 : decode cL_run 23 = .ok (.iconst 2, 1) := by decide +kernel
theorem dw_run_24 : decode cL_run 24 = .ok (.ireturn, 1) := by decide +kernel
theorem dw_run_25 : decode cL_run 25 = .ok (.astore 6, 2) := by decide +kernel
theorem dw_run_27 : decode cL_run 27 = .ok (.iconst 3, 1) := by decide +kernel
theorem dw_run_28 : decode cL_run 28 = .ok (.ireturn, 1) := by decide +kernel
theorem dw_run_29 : decode cL_run 29 = .ok (.iconst 0, 1) := by decide +kernel
theorem dw_run_30 : decode cL_run 30 = .ok (.ireturn, 1) := by decide +kernel
theorem ow_run : oks 12 cL_run 0 [(.aload 5, 2, (0, 0, 0)), (.iconst 0, 1, (0, 0, 0)), (.aload_n 0, 1, (0, 0, 0)), (.iload_n 1, 1, (0, 0, 0)), (.iload_n 2, 1, (0, 0, 0)), (.iload_n 3, 1, (0, 0, 0)), (.iload 4, 2, (0, 0, 0))] = true ∧ plen 0 [(.aload 5, 2, (0, 0, 0)), (.iconst 0, 1, (0, 0, 0)), (.aload_n 0, 1, (0, 0, 0)), (.iload_n 1, 1, (0, 0, 0)), (.iload_n 2, 1, (0, 0, 0)), (.iload_n 3, 1, (0, 0, 0)), (.iload 4, 2, (0, 0, 0))] = 9 := by decide +kernel
theorem wc_run (l : Launch) (hl : l.stackTraces = false) (d : Nat) (hd : 160 ≤ d) (a1 : Int) (a2 : Int) (a3 : Int) (a4 : Int) (σ : Sg) (ov k ov' : Int) (q : ((Int ⊕ Nat) × Sg)) (h : F_X10_run a1 a2 a3 a4 σ = some q) (hk : kW [(0, 1), (1, 2), (2, 3)] q.1 ov = some (k, ov')) : WC l d yL_run cL_run 7 hh_run [.inr 0, .inl a1, .inl a2, .inl a3, .inl a4, .inr 55] σ ov k q.2 ov' := by
  obtain ⟨d, rfl⟩ : ∃ e, d = e + 1 := ⟨d - 1, by omega⟩
  intro D cI cZ cJ ax ao sz cvs hv hax hσ
  refine va_MetW (cc := cL_run) (maxL := 7) (ret := some .int) (hh := hh_run) (by decide +kernel) rfl ?_
  intro p e s m args below meth c s₁ B hml hp
  obtain ⟨rfl, hsz, hP, hK, hDd, hT⟩ := hp
  subst hsz
  have hts := atoms_spec (ws := wsH yL_run cL_run 7 hh_run) B.pre
  have htab := vx_table (x := yL_run) B (hts _ List.mem_cons_self)
  have hC : Cx 12 cL_run 7 false p s m cvs.toArray meth c (Ao ax ao s.heap.size) D cI cZ := ⟨B.exec, B.bytes, hml, findClass_of_methodNamed B.named, fun w hw => hts w (List.mem_cons_of_mem _ hw), B.notSynchronized, (fun h => by cases h), hK.kn, fun q h => Or.inr (Or.inr h)⟩
  have hct := lk_X10_run l hl d (by omega) a1 a2 a3 a4 σ q h
  have body : Rg p l e (headSpec (wsH yL_run cL_run 7 hh_run) (rmD (d + 1) 1 6)).room s m cvs.toArray below meth c (PwO D cI cZ cJ ax ao s σ ov) 0 0 (MQ below (va_Qi (fun (r : Int32) (_ : Unit) => r = Int32.ofInt k) (fun _ t => va_P D vwCl (Wo cI cZ cJ ax ao q.2 ov') t.heap ∧ ∀ k i : Nat, inR (q.2 k i)) (Ao ax ao s.heap.size)) cvs.toArray s 1 6 (Ao ax ao s.heap.size)) 7 0 [some (.inr 0), some (.inl a1), some (.inl a2), some (.inl a3), some (.inl a4), some (.inr 55), none] [] := by
    refine rg_ops (S := ([], σ)) (S' := ([], σ)) (on := 12) ⟨B.exec, B.bytes⟩ ow_run (by decide) (L' := [some (.inr 0), some (.inl a1), some (.inl a2), some (.inl a3), some (.inl a4), some (.inr 55), none]) (st' := [.inl a4, .inl a3, .inl a2, .inl a1, .inr 0, .inl 0, .inr 55]) rfl ?_
    obtain ⟨r, σ'⟩ := q
    cases r with
    | inl v =>
      obtain ⟨h91, h92⟩ : (0 : Int) = k ∧ v = ov' := Prod.mk.inj (Option.some.inj hk)
      subst h91 h92
      refine wr_call (M1 := m_X10_run) (as := [.inl a1, .inl a2, .inl a3, .inl a4]) (st := [.inl 0, .inr 55]) (z := ozI (.inl v)) (σ' := σ') (d := d + 1) hC rfl rfl (Nat.le_refl 1) (Nat.le_refl 6) dw_run_9 ln_12_71 im_X10_run mk_X10_run rfl rfl (Nat.le_of_ble_eq_true rfl) (Nat.le_refl _) (fun k hk => by simp at hk) hT hct (fun w hw => by cases hw; exact ⟨_, rfl⟩) (fun w hw => ?_) (fun E hE => by cases hE) _ rfl
      cases hw
      refine wr_put hC hK dw_run_12 dw_run_13 dw_run_14 (by rfl) ?_
      exact wr_ret hC (by decide) (by decide) dw_run_29 in0 dw_run_30 B.returns
    | inr E =>
      obtain ⟨hk2, rfl⟩ := kW_inr hk
      refine wr_call (M1 := m_X10_run) (as := [.inl a1, .inl a2, .inl a3, .inl a4]) (st := [.inl 0, .inr 55]) (z := ozI (.inr E)) (σ' := σ') (d := d + 1) hC rfl rfl (Nat.le_refl 1) (Nat.le_refl 6) dw_run_9 ln_12_71 im_X10_run mk_X10_run rfl rfl (Nat.le_of_ble_eq_true rfl) (Nat.le_refl _) (fun k hk => by simp at hk) hT hct (fun w hw => by cases hw) (fun w hw => by cases hw) (fun E2 hE2 ads H1 locs1 ls crest ce q9 hP1 hL1 hce hcv hcl => ?_) _ rfl
      cases hE2
      rcases kE_inv hk2 with ⟨hE9, hk9⟩ | ⟨-, hk2⟩
      · obtain rfl : E = 0 := hE9
        obtain rfl : k = 1 := hk9
        exact wr_exc (E := 0) (k := 1) (j := 6) (n := 2) hC hK hP1 hL1 (Nat.le_of_ble_eq_true rfl) hce hcv hcl [] ⟨0, 14, 17, 13⟩ [⟨0, 14, 21, 15⟩, ⟨0, 14, 25, 17⟩] (htab.trans rfl) (fun z hz => by cases hz) (by decide) (by decide) clw0 rfl (Or.inl ⟨rfl, dw_run_17⟩) dw_run_19 dw_run_20 (by unfold inR; decide) B.returns
      rcases kE_inv hk2 with ⟨hE9, hk9⟩ | ⟨-, hk2⟩
      · obtain rfl : E = 1 := hE9
        obtain rfl : k = 2 := hk9
        exact wr_exc (E := 1) (k := 2) (j := 6) (n := 2) hC hK hP1 hL1 (Nat.le_of_ble_eq_true rfl) hce hcv hcl [⟨0, 14, 17, 13⟩] ⟨0, 14, 21, 15⟩ [⟨0, 14, 25, 17⟩] (htab.trans rfl) (fun z hz => by rcases List.mem_cons.mp hz with rfl | hz; exact ⟨by decide, exN 0, clw0, hK.2.2 1 0 (by decide) (by decide) (by decide)⟩; cases hz) (by decide) (by decide) clw1 rfl (Or.inl ⟨rfl, dw_run_21⟩) dw_run_23 dw_run_24 (by unfold inR; decide) B.returns
      rcases kE_inv hk2 with ⟨hE9, hk9⟩ | ⟨-, hk2⟩
      · obtain rfl : E = 2 := hE9
        obtain rfl : k = 3 := hk9
        exact wr_exc (E := 2) (k := 3) (j := 6) (n := 2) hC hK hP1 hL1 (Nat.le_of_ble_eq_true rfl) hce hcv hcl [⟨0, 14, 17, 13⟩, ⟨0, 14, 21, 15⟩] ⟨0, 14, 25, 17⟩ [] (htab.trans rfl) (fun z hz => by rcases List.mem_cons.mp hz with rfl | hz; exact ⟨by decide, exN 0, clw0, hK.2.2 2 0 (by decide) (by decide) (by decide)⟩; rcases List.mem_cons.mp hz with rfl | hz; exact ⟨by decide, exN 1, clw1, hK.2.2 2 1 (by decide) (by decide) (by decide)⟩; cases hz) (by decide) (by decide) clw2 rfl (Or.inl ⟨rfl, dw_run_25⟩) dw_run_27 dw_run_28 (by unfold inR; decide) B.returns
      cases hk2
  have hw := body (ax ++ [ao]) s.heap [] _ [] ⟨rfl, hP, wo_A hax hDd, va_S.rf, hax, hσ⟩ (ent_lrs hv (Nat.le_of_ble_eq_true rfl)) trivial
  rw [lg_entry_eq]
  exact hw
def hh_viewAt : List (Nat × Nat × Nat × Nat) := [(0, 9, 12, 13)]
theorem cw_viewAt : Cond.codeWith yL_viewAt cL_viewAt 4 (some .int) hh_viewAt ∈ TB := tb_at 1293 (by decide +kernel) (by decide +kernel)
theorem sw_viewAt : Cond.static yL_viewAt ∈ TB := tb_at 1292 (by decide +kernel) (by decide +kernel)
theorem dw_viewAt_4 : decode cL_viewAt 4 = .ok (.invokevirtual 74, 3) := by decide +kernel
theorem dw_viewAt_7 : decode cL_viewAt 7 = .ok (.i2l, 1) := by decide +kernel
theorem dw_viewAt_8 : decode cL_viewAt 8 = .ok (.lastore, 1) := by decide +kernel
theorem dw_viewAt_9 : decode cL_viewAt 9 = .ok (.goto 6, 3) := by decide +kernel
theorem dw_viewAt_12 : decode cL_viewAt 12 = .ok (.astore_n 3, 1) := by decide +kernel
theorem dw_viewAt_13 : decode cL_viewAt 13 = .ok (.iconst 1, 1) := by decide +kernel
theorem dw_viewAt_14 : decode cL_viewAt 14 = .ok (.ireturn, 1) := by decide +kernel
theorem dw_viewAt_15 : decode cL_viewAt 15 = .ok (.iconst 0, 1) := by decide +kernel
theorem dw_viewAt_16 : decode cL_viewAt 16 = .ok (.ireturn, 1) := by decide +kernel
theorem ow_viewAt : oks 12 cL_viewAt 0 [(.aload_n 2, 1, (0, 0, 0)), (.iconst 0, 1, (0, 0, 0)), (.aload_n 0, 1, (0, 0, 0)), (.iload_n 1, 1, (0, 0, 0))] = true ∧ plen 0 [(.aload_n 2, 1, (0, 0, 0)), (.iconst 0, 1, (0, 0, 0)), (.aload_n 0, 1, (0, 0, 0)), (.iload_n 1, 1, (0, 0, 0))] = 4 := by decide +kernel
theorem wc_viewAt (l : Launch) (hl : l.stackTraces = false) (d : Nat) (hd : 8 ≤ d) (a1 : Int) (σ : Sg) (ov k ov' : Int) (q : ((Int ⊕ Nat) × Sg)) (h : F_X10_viewAt a1 σ = some q) (hk : kW [(0, 1)] q.1 ov = some (k, ov')) : WC l d yL_viewAt cL_viewAt 4 hh_viewAt [.inr 0, .inl a1, .inr 55] σ ov k q.2 ov' := by
  obtain ⟨d, rfl⟩ : ∃ e, d = e + 1 := ⟨d - 1, by omega⟩
  intro D cI cZ cJ ax ao sz cvs hv hax hσ
  refine va_MetW (cc := cL_viewAt) (maxL := 4) (ret := some .int) (hh := hh_viewAt) (by decide +kernel) rfl ?_
  intro p e s m args below meth c s₁ B hml hp
  obtain ⟨rfl, hsz, hP, hK, hDd, hT⟩ := hp
  subst hsz
  have hts := atoms_spec (ws := wsH yL_viewAt cL_viewAt 4 hh_viewAt) B.pre
  have htab := vx_table (x := yL_viewAt) B (hts _ List.mem_cons_self)
  have hC : Cx 12 cL_viewAt 4 false p s m cvs.toArray meth c (Ao ax ao s.heap.size) D cI cZ := ⟨B.exec, B.bytes, hml, findClass_of_methodNamed B.named, fun w hw => hts w (List.mem_cons_of_mem _ hw), B.notSynchronized, (fun h => by cases h), hK.kn, fun q h => Or.inr (Or.inr h)⟩
  have hct := lk_X10_viewAt l hl d (by omega) a1 σ q h
  have body : Rg p l e (headSpec (wsH yL_viewAt cL_viewAt 4 hh_viewAt) (rmD (d + 1) 1 6)).room s m cvs.toArray below meth c (PwO D cI cZ cJ ax ao s σ ov) 0 0 (MQ below (va_Qi (fun (r : Int32) (_ : Unit) => r = Int32.ofInt k) (fun _ t => va_P D vwCl (Wo cI cZ cJ ax ao q.2 ov') t.heap ∧ ∀ k i : Nat, inR (q.2 k i)) (Ao ax ao s.heap.size)) cvs.toArray s 1 6 (Ao ax ao s.heap.size)) 4 0 [some (.inr 0), some (.inl a1), some (.inr 55), none] [] := by
    refine rg_ops (S := ([], σ)) (S' := ([], σ)) (on := 12) ⟨B.exec, B.bytes⟩ ow_viewAt (by decide) (L' := [some (.inr 0), some (.inl a1), some (.inr 55), none]) (st' := [.inl a1, .inr 0, .inl 0, .inr 55]) rfl ?_
    obtain ⟨r, σ'⟩ := q
    cases r with
    | inl v =>
      obtain ⟨h91, h92⟩ : (0 : Int) = k ∧ v = ov' := Prod.mk.inj (Option.some.inj hk)
      subst h91 h92
      refine wr_call (M1 := m_X10_viewAt) (as := [.inl a1]) (st := [.inl 0, .inr 55]) (z := ozI (.inl v)) (σ' := σ') (d := d + 1) hC rfl rfl (Nat.le_refl 1) (Nat.le_refl 6) dw_viewAt_4 ln_12_74 im_X10_viewAt mk_X10_viewAt rfl rfl (Nat.le_of_ble_eq_true rfl) (Nat.le_refl _) (fun k hk => by simp at hk) hT hct (fun w hw => by cases hw; exact ⟨_, rfl⟩) (fun w hw => ?_) (fun E hE => by cases hE) _ rfl
      cases hw
      refine wr_put hC hK dw_viewAt_7 dw_viewAt_8 dw_viewAt_9 (by rfl) ?_
      exact wr_ret hC (by decide) (by decide) dw_viewAt_15 in0 dw_viewAt_16 B.returns
    | inr E =>
      obtain ⟨hk2, rfl⟩ := kW_inr hk
      refine wr_call (M1 := m_X10_viewAt) (as := [.inl a1]) (st := [.inl 0, .inr 55]) (z := ozI (.inr E)) (σ' := σ') (d := d + 1) hC rfl rfl (Nat.le_refl 1) (Nat.le_refl 6) dw_viewAt_4 ln_12_74 im_X10_viewAt mk_X10_viewAt rfl rfl (Nat.le_of_ble_eq_true rfl) (Nat.le_refl _) (fun k hk => by simp at hk) hT hct (fun w hw => by cases hw) (fun w hw => by cases hw) (fun E2 hE2 ads H1 locs1 ls crest ce q9 hP1 hL1 hce hcv hcl => ?_) _ rfl
      cases hE2
      rcases kE_inv hk2 with ⟨hE9, hk9⟩ | ⟨-, hk2⟩
      · obtain rfl : E = 0 := hE9
        obtain rfl : k = 1 := hk9
        exact wr_exc (E := 0) (k := 1) (j := 3) (n := 1) hC hK hP1 hL1 (Nat.le_of_ble_eq_true rfl) hce hcv hcl [] ⟨0, 9, 12, 13⟩ [] (htab.trans rfl) (fun z hz => by cases hz) (by decide) (by decide) clw0 rfl (Or.inr ⟨rfl, 3, rfl, dw_viewAt_12⟩) dw_viewAt_13 dw_viewAt_14 (by unfold inR; decide) B.returns
      cases hk2
  have hw := body (ax ++ [ao]) s.heap [] _ [] ⟨rfl, hP, wo_A hax hDd, va_S.rf, hax, hσ⟩ (ent_lrs hv (Nat.le_of_ble_eq_true rfl)) trivial
  rw [lg_entry_eq]
  exact hw
def hh_bound : List (Nat × Nat × Nat × Nat) := [(0, 9, 12, 13)]
theorem cw_bound : Cond.codeWith yL_bound cL_bound 4 (some .int) hh_bound ∈ TB := tb_at 1304 (by decide +kernel) (by decide +kernel)
theorem sw_bound : Cond.static yL_bound ∈ TB := tb_at 1303 (by decide +kernel) (by decide +kernel)
theorem dw_bound_4 : decode cL_bound 4 = .ok (.invokevirtual 77, 3) := by decide +kernel
theorem dw_bound_7 : decode cL_bound 7 = .ok (.i2l, 1) := by decide +kernel
theorem dw_bound_8 : decode cL_bound 8 = .ok (.lastore, 1) := by decide +kernel
theorem dw_bound_9 : decode cL_bound 9 = .ok (.goto 6, 3) := by decide +kernel
theorem dw_bound_12 : decode cL_bound 12 = .ok (.astore_n 3, 1) := by decide +kernel
theorem dw_bound_13 : decode cL_bound 13 = .ok (.iconst 1, 1) := by decide +kernel
theorem dw_bound_14 : decode cL_bound 14 = .ok (.ireturn, 1) := by decide +kernel
theorem dw_bound_15 : decode cL_bound 15 = .ok (.iconst 0, 1) := by decide +kernel
theorem dw_bound_16 : decode cL_bound 16 = .ok (.ireturn, 1) := by decide +kernel
theorem ow_bound : oks 12 cL_bound 0 [(.aload_n 2, 1, (0, 0, 0)), (.iconst 0, 1, (0, 0, 0)), (.aload_n 0, 1, (0, 0, 0)), (.iload_n 1, 1, (0, 0, 0))] = true ∧ plen 0 [(.aload_n 2, 1, (0, 0, 0)), (.iconst 0, 1, (0, 0, 0)), (.aload_n 0, 1, (0, 0, 0)), (.iload_n 1, 1, (0, 0, 0))] = 4 := by decide +kernel
theorem wc_bound (l : Launch) (hl : l.stackTraces = false) (d : Nat) (hd : 8 ≤ d) (a1 : Int) (σ : Sg) (ov k ov' : Int) (q : ((Int ⊕ Nat) × Sg)) (h : F_X10_bound a1 σ = some q) (hk : kW [(0, 1)] q.1 ov = some (k, ov')) : WC l d yL_bound cL_bound 4 hh_bound [.inr 0, .inl a1, .inr 55] σ ov k q.2 ov' := by
  obtain ⟨d, rfl⟩ : ∃ e, d = e + 1 := ⟨d - 1, by omega⟩
  intro D cI cZ cJ ax ao sz cvs hv hax hσ
  refine va_MetW (cc := cL_bound) (maxL := 4) (ret := some .int) (hh := hh_bound) (by decide +kernel) rfl ?_
  intro p e s m args below meth c s₁ B hml hp
  obtain ⟨rfl, hsz, hP, hK, hDd, hT⟩ := hp
  subst hsz
  have hts := atoms_spec (ws := wsH yL_bound cL_bound 4 hh_bound) B.pre
  have htab := vx_table (x := yL_bound) B (hts _ List.mem_cons_self)
  have hC : Cx 12 cL_bound 4 false p s m cvs.toArray meth c (Ao ax ao s.heap.size) D cI cZ := ⟨B.exec, B.bytes, hml, findClass_of_methodNamed B.named, fun w hw => hts w (List.mem_cons_of_mem _ hw), B.notSynchronized, (fun h => by cases h), hK.kn, fun q h => Or.inr (Or.inr h)⟩
  have hct := lk_X10_bound l hl d (by omega) a1 σ q h
  have body : Rg p l e (headSpec (wsH yL_bound cL_bound 4 hh_bound) (rmD (d + 1) 1 6)).room s m cvs.toArray below meth c (PwO D cI cZ cJ ax ao s σ ov) 0 0 (MQ below (va_Qi (fun (r : Int32) (_ : Unit) => r = Int32.ofInt k) (fun _ t => va_P D vwCl (Wo cI cZ cJ ax ao q.2 ov') t.heap ∧ ∀ k i : Nat, inR (q.2 k i)) (Ao ax ao s.heap.size)) cvs.toArray s 1 6 (Ao ax ao s.heap.size)) 4 0 [some (.inr 0), some (.inl a1), some (.inr 55), none] [] := by
    refine rg_ops (S := ([], σ)) (S' := ([], σ)) (on := 12) ⟨B.exec, B.bytes⟩ ow_bound (by decide) (L' := [some (.inr 0), some (.inl a1), some (.inr 55), none]) (st' := [.inl a1, .inr 0, .inl 0, .inr 55]) rfl ?_
    obtain ⟨r, σ'⟩ := q
    cases r with
    | inl v =>
      obtain ⟨h91, h92⟩ : (0 : Int) = k ∧ v = ov' := Prod.mk.inj (Option.some.inj hk)
      subst h91 h92
      refine wr_call (M1 := m_X10_bound) (as := [.inl a1]) (st := [.inl 0, .inr 55]) (z := ozI (.inl v)) (σ' := σ') (d := d + 1) hC rfl rfl (Nat.le_refl 1) (Nat.le_refl 6) dw_bound_4 ln_12_77 im_X10_bound mk_X10_bound rfl rfl (Nat.le_of_ble_eq_true rfl) (Nat.le_refl _) (fun k hk => by simp at hk) hT hct (fun w hw => by cases hw; exact ⟨_, rfl⟩) (fun w hw => ?_) (fun E hE => by cases hE) _ rfl
      cases hw
      refine wr_put hC hK dw_bound_7 dw_bound_8 dw_bound_9 (by rfl) ?_
      exact wr_ret hC (by decide) (by decide) dw_bound_15 in0 dw_bound_16 B.returns
    | inr E =>
      obtain ⟨hk2, rfl⟩ := kW_inr hk
      refine wr_call (M1 := m_X10_bound) (as := [.inl a1]) (st := [.inl 0, .inr 55]) (z := ozI (.inr E)) (σ' := σ') (d := d + 1) hC rfl rfl (Nat.le_refl 1) (Nat.le_refl 6) dw_bound_4 ln_12_77 im_X10_bound mk_X10_bound rfl rfl (Nat.le_of_ble_eq_true rfl) (Nat.le_refl _) (fun k hk => by simp at hk) hT hct (fun w hw => by cases hw) (fun w hw => by cases hw) (fun E2 hE2 ads H1 locs1 ls crest ce q9 hP1 hL1 hce hcv hcl => ?_) _ rfl
      cases hE2
      rcases kE_inv hk2 with ⟨hE9, hk9⟩ | ⟨-, hk2⟩
      · obtain rfl : E = 0 := hE9
        obtain rfl : k = 1 := hk9
        exact wr_exc (E := 0) (k := 1) (j := 3) (n := 1) hC hK hP1 hL1 (Nat.le_of_ble_eq_true rfl) hce hcv hcl [] ⟨0, 9, 12, 13⟩ [] (htab.trans rfl) (fun z hz => by cases hz) (by decide) (by decide) clw0 rfl (Or.inr ⟨rfl, 3, rfl, dw_bound_12⟩) dw_bound_13 dw_bound_14 (by unfold inR; decide) B.returns
      cases hk2
  have hw := body (ax ++ [ao]) s.heap [] _ [] ⟨rfl, hP, wo_A hax hDd, va_S.rf, hax, hσ⟩ (ent_lrs hv (Nat.le_of_ble_eq_true rfl)) trivial
  rw [lg_entry_eq]
  exact hw
def hh_taken : List (Nat × Nat × Nat × Nat) := [(0, 9, 12, 13)]
theorem cw_taken : Cond.codeWith yL_taken cL_taken 4 (some .int) hh_taken ∈ TB := tb_at 1312 (by decide +kernel) (by decide +kernel)
theorem sw_taken : Cond.static yL_taken ∈ TB := tb_at 1311 (by decide +kernel) (by decide +kernel)
theorem dw_taken_4 : decode cL_taken 4 = .ok (.invokevirtual 80, 3) := by decide +kernel
theorem dw_taken_7 : decode cL_taken 7 = .ok (.i2l, 1) := by decide +kernel
theorem dw_taken_8 : decode cL_taken 8 = .ok (.lastore, 1) := by decide +kernel
theorem dw_taken_9 : decode cL_taken 9 = .ok (.goto 6, 3) := by decide +kernel
theorem dw_taken_12 : decode cL_taken 12 = .ok (.astore_n 3, 1) := by decide +kernel
theorem dw_taken_13 : decode cL_taken 13 = .ok (.iconst 1, 1) := by decide +kernel
theorem dw_taken_14 : decode cL_taken 14 = .ok (.ireturn, 1) := by decide +kernel
theorem dw_taken_15 : decode cL_taken 15 = .ok (.iconst 0, 1) := by decide +kernel
theorem dw_taken_16 : decode cL_taken 16 = .ok (.ireturn, 1) := by decide +kernel
theorem ow_taken : oks 12 cL_taken 0 [(.aload_n 2, 1, (0, 0, 0)), (.iconst 0, 1, (0, 0, 0)), (.aload_n 0, 1, (0, 0, 0)), (.iload_n 1, 1, (0, 0, 0))] = true ∧ plen 0 [(.aload_n 2, 1, (0, 0, 0)), (.iconst 0, 1, (0, 0, 0)), (.aload_n 0, 1, (0, 0, 0)), (.iload_n 1, 1, (0, 0, 0))] = 4 := by decide +kernel
theorem wc_taken (l : Launch) (hl : l.stackTraces = false) (d : Nat) (hd : 8 ≤ d) (a1 : Int) (σ : Sg) (ov k ov' : Int) (q : ((Int ⊕ Nat) × Sg)) (h : F_X10_taken a1 σ = some q) (hk : kW [(0, 1)] q.1 ov = some (k, ov')) : WC l d yL_taken cL_taken 4 hh_taken [.inr 0, .inl a1, .inr 55] σ ov k q.2 ov' := by
  obtain ⟨d, rfl⟩ : ∃ e, d = e + 1 := ⟨d - 1, by omega⟩
  intro D cI cZ cJ ax ao sz cvs hv hax hσ
  refine va_MetW (cc := cL_taken) (maxL := 4) (ret := some .int) (hh := hh_taken) (by decide +kernel) rfl ?_
  intro p e s m args below meth c s₁ B hml hp
  obtain ⟨rfl, hsz, hP, hK, hDd, hT⟩ := hp
  subst hsz
  have hts := atoms_spec (ws := wsH yL_taken cL_taken 4 hh_taken) B.pre
  have htab := vx_table (x := yL_taken) B (hts _ List.mem_cons_self)
  have hC : Cx 12 cL_taken 4 false p s m cvs.toArray meth c (Ao ax ao s.heap.size) D cI cZ := ⟨B.exec, B.bytes, hml, findClass_of_methodNamed B.named, fun w hw => hts w (List.mem_cons_of_mem _ hw), B.notSynchronized, (fun h => by cases h), hK.kn, fun q h => Or.inr (Or.inr h)⟩
  have hct := lk_X10_taken l hl d (by omega) a1 σ q h
  have body : Rg p l e (headSpec (wsH yL_taken cL_taken 4 hh_taken) (rmD (d + 1) 1 6)).room s m cvs.toArray below meth c (PwO D cI cZ cJ ax ao s σ ov) 0 0 (MQ below (va_Qi (fun (r : Int32) (_ : Unit) => r = Int32.ofInt k) (fun _ t => va_P D vwCl (Wo cI cZ cJ ax ao q.2 ov') t.heap ∧ ∀ k i : Nat, inR (q.2 k i)) (Ao ax ao s.heap.size)) cvs.toArray s 1 6 (Ao ax ao s.heap.size)) 4 0 [some (.inr 0), some (.inl a1), some (.inr 55), none] [] := by
    refine rg_ops (S := ([], σ)) (S' := ([], σ)) (on := 12) ⟨B.exec, B.bytes⟩ ow_taken (by decide) (L' := [some (.inr 0), some (.inl a1), some (.inr 55), none]) (st' := [.inl a1, .inr 0, .inl 0, .inr 55]) rfl ?_
    obtain ⟨r, σ'⟩ := q
    cases r with
    | inl v =>
      obtain ⟨h91, h92⟩ : (0 : Int) = k ∧ v = ov' := Prod.mk.inj (Option.some.inj hk)
      subst h91 h92
      refine wr_call (M1 := m_X10_taken) (as := [.inl a1]) (st := [.inl 0, .inr 55]) (z := ozI (.inl v)) (σ' := σ') (d := d + 1) hC rfl rfl (Nat.le_refl 1) (Nat.le_refl 6) dw_taken_4 ln_12_80 im_X10_taken mk_X10_taken rfl rfl (Nat.le_of_ble_eq_true rfl) (Nat.le_refl _) (fun k hk => by simp at hk) hT hct (fun w hw => by cases hw; exact ⟨_, rfl⟩) (fun w hw => ?_) (fun E hE => by cases hE) _ rfl
      cases hw
      refine wr_put hC hK dw_taken_7 dw_taken_8 dw_taken_9 (by rfl) ?_
      exact wr_ret hC (by decide) (by decide) dw_taken_15 in0 dw_taken_16 B.returns
    | inr E =>
      obtain ⟨hk2, rfl⟩ := kW_inr hk
      refine wr_call (M1 := m_X10_taken) (as := [.inl a1]) (st := [.inl 0, .inr 55]) (z := ozI (.inr E)) (σ' := σ') (d := d + 1) hC rfl rfl (Nat.le_refl 1) (Nat.le_refl 6) dw_taken_4 ln_12_80 im_X10_taken mk_X10_taken rfl rfl (Nat.le_of_ble_eq_true rfl) (Nat.le_refl _) (fun k hk => by simp at hk) hT hct (fun w hw => by cases hw) (fun w hw => by cases hw) (fun E2 hE2 ads H1 locs1 ls crest ce q9 hP1 hL1 hce hcv hcl => ?_) _ rfl
      cases hE2
      rcases kE_inv hk2 with ⟨hE9, hk9⟩ | ⟨-, hk2⟩
      · obtain rfl : E = 0 := hE9
        obtain rfl : k = 1 := hk9
        exact wr_exc (E := 0) (k := 1) (j := 3) (n := 1) hC hK hP1 hL1 (Nat.le_of_ble_eq_true rfl) hce hcv hcl [] ⟨0, 9, 12, 13⟩ [] (htab.trans rfl) (fun z hz => by cases hz) (by decide) (by decide) clw0 rfl (Or.inr ⟨rfl, 3, rfl, dw_taken_12⟩) dw_taken_13 dw_taken_14 (by unfold inR; decide) B.returns
      cases hk2
  have hw := body (ax ++ [ao]) s.heap [] _ [] ⟨rfl, hP, wo_A hax hDd, va_S.rf, hax, hσ⟩ (ent_lrs hv (Nat.le_of_ble_eq_true rfl)) trivial
  rw [lg_entry_eq]
  exact hw
def hh_size : List (Nat × Nat × Nat × Nat) := [(0, 10, 13, 13), (0, 10, 17, 17)]
theorem cw_size : Cond.codeWith yL_size cL_size 5 (some .int) hh_size ∈ TB := tb_at 1319 (by decide +kernel) (by decide +kernel)
theorem sw_size : Cond.static yL_size ∈ TB := tb_at 1318 (by decide +kernel) (by decide +kernel)
theorem dw_size_5 : decode cL_size 5 = .ok (.invokevirtual 83, 3) := by decide +kernel
theorem dw_size_8 : decode cL_size 8 = .ok (.i2l, 1) := by decide +kernel
theorem dw_size_9 : decode cL_size 9 = .ok (.lastore, 1) := by decide +kernel
theorem dw_size_10 : decode cL_size 10 = .ok (.goto 11, 3) := by decide +kernel
theorem dw_size_13 : decode cL_size 13 = .ok (.astore 4, 2) := by decide +kernel
theorem dw_size_15 : decode cL_size 15 = .ok (.iconst 1, 1) := by decide +kernel
theorem dw_size_16 : decode cL_size 16 = .ok (.ireturn, 1) := by decide +kernel
theorem dw_size_17 : decode cL_size 17 = .ok (.astore 4, 2) := by decide +kernel
theorem dw_size_19 : decode cL_size 19 = .ok (.iconst 2, 1) := by decide +kernel
theorem dw_size_20 : decode cL_size 20 = .ok (.ireturn, 1) := by decide +kernel
theorem dw_size_21 : decode cL_size 21 = .ok (.iconst 0, 1) := by decide +kernel
theorem dw_size_22 : decode cL_size 22 = .ok (.ireturn, 1) := by decide +kernel
theorem ow_size : oks 12 cL_size 0 [(.aload_n 3, 1, (0, 0, 0)), (.iconst 0, 1, (0, 0, 0)), (.aload_n 0, 1, (0, 0, 0)), (.iload_n 1, 1, (0, 0, 0)), (.iload_n 2, 1, (0, 0, 0))] = true ∧ plen 0 [(.aload_n 3, 1, (0, 0, 0)), (.iconst 0, 1, (0, 0, 0)), (.aload_n 0, 1, (0, 0, 0)), (.iload_n 1, 1, (0, 0, 0)), (.iload_n 2, 1, (0, 0, 0))] = 5 := by decide +kernel
theorem wc_size (l : Launch) (hl : l.stackTraces = false) (d : Nat) (hd : 110 ≤ d) (a1 : Int) (a2 : Bool) (σ : Sg) (ov k ov' : Int) (q : ((Int ⊕ Nat) × Sg)) (h : F_X10_size a1 a2 σ = some q) (hk : kW [(0, 1), (2, 2)] q.1 ov = some (k, ov')) : WC l d yL_size cL_size 5 hh_size [.inr 0, .inl a1, .inl (b2i a2), .inr 55] σ ov k q.2 ov' := by
  obtain ⟨d, rfl⟩ : ∃ e, d = e + 1 := ⟨d - 1, by omega⟩
  intro D cI cZ cJ ax ao sz cvs hv hax hσ
  refine va_MetW (cc := cL_size) (maxL := 5) (ret := some .int) (hh := hh_size) (by decide +kernel) rfl ?_
  intro p e s m args below meth c s₁ B hml hp
  obtain ⟨rfl, hsz, hP, hK, hDd, hT⟩ := hp
  subst hsz
  have hts := atoms_spec (ws := wsH yL_size cL_size 5 hh_size) B.pre
  have htab := vx_table (x := yL_size) B (hts _ List.mem_cons_self)
  have hC : Cx 12 cL_size 5 false p s m cvs.toArray meth c (Ao ax ao s.heap.size) D cI cZ := ⟨B.exec, B.bytes, hml, findClass_of_methodNamed B.named, fun w hw => hts w (List.mem_cons_of_mem _ hw), B.notSynchronized, (fun h => by cases h), hK.kn, fun q h => Or.inr (Or.inr h)⟩
  have hct := lk_X10_size l hl d (by omega) a1 a2 σ q h
  have body : Rg p l e (headSpec (wsH yL_size cL_size 5 hh_size) (rmD (d + 1) 1 6)).room s m cvs.toArray below meth c (PwO D cI cZ cJ ax ao s σ ov) 0 0 (MQ below (va_Qi (fun (r : Int32) (_ : Unit) => r = Int32.ofInt k) (fun _ t => va_P D vwCl (Wo cI cZ cJ ax ao q.2 ov') t.heap ∧ ∀ k i : Nat, inR (q.2 k i)) (Ao ax ao s.heap.size)) cvs.toArray s 1 6 (Ao ax ao s.heap.size)) 5 0 [some (.inr 0), some (.inl a1), some (.inl (b2i a2)), some (.inr 55), none] [] := by
    refine rg_ops (S := ([], σ)) (S' := ([], σ)) (on := 12) ⟨B.exec, B.bytes⟩ ow_size (by decide) (L' := [some (.inr 0), some (.inl a1), some (.inl (b2i a2)), some (.inr 55), none]) (st' := [.inl (b2i a2), .inl a1, .inr 0, .inl 0, .inr 55]) rfl ?_
    obtain ⟨r, σ'⟩ := q
    cases r with
    | inl v =>
      obtain ⟨h91, h92⟩ : (0 : Int) = k ∧ v = ov' := Prod.mk.inj (Option.some.inj hk)
      subst h91 h92
      refine wr_call (M1 := m_X10_size) (as := [.inl a1, .inl (b2i a2)]) (st := [.inl 0, .inr 55]) (z := ozI (.inl v)) (σ' := σ') (d := d + 1) hC rfl rfl (Nat.le_refl 1) (Nat.le_refl 6) dw_size_5 ln_12_83 im_X10_size mk_X10_size rfl rfl (Nat.le_of_ble_eq_true rfl) (Nat.le_refl _) (fun k hk => by simp at hk) hT hct (fun w hw => by cases hw; exact ⟨_, rfl⟩) (fun w hw => ?_) (fun E hE => by cases hE) _ rfl
      cases hw
      refine wr_put hC hK dw_size_8 dw_size_9 dw_size_10 (by rfl) ?_
      exact wr_ret hC (by decide) (by decide) dw_size_21 in0 dw_size_22 B.returns
    | inr E =>
      obtain ⟨hk2, rfl⟩ := kW_inr hk
      refine wr_call (M1 := m_X10_size) (as := [.inl a1, .inl (b2i a2)]) (st := [.inl 0, .inr 55]) (z := ozI (.inr E)) (σ' := σ') (d := d + 1) hC rfl rfl (Nat.le_refl 1) (Nat.le_refl 6) dw_size_5 ln_12_83 im_X10_size mk_X10_size rfl rfl (Nat.le_of_ble_eq_true rfl) (Nat.le_refl _) (fun k hk => by simp at hk) hT hct (fun w hw => by cases hw) (fun w hw => by cases hw) (fun E2 hE2 ads H1 locs1 ls crest ce q9 hP1 hL1 hce hcv hcl => ?_) _ rfl
      cases hE2
      rcases kE_inv hk2 with ⟨hE9, hk9⟩ | ⟨-, hk2⟩
      · obtain rfl : E = 0 := hE9
        obtain rfl : k = 1 := hk9
        exact wr_exc (E := 0) (k := 1) (j := 4) (n := 2) hC hK hP1 hL1 (Nat.le_of_ble_eq_true rfl) hce hcv hcl [] ⟨0, 10, 13, 13⟩ [⟨0, 10, 17, 17⟩] (htab.trans rfl) (fun z hz => by cases hz) (by decide) (by decide) clw0 rfl (Or.inl ⟨rfl, dw_size_13⟩) dw_size_15 dw_size_16 (by unfold inR; decide) B.returns
      rcases kE_inv hk2 with ⟨hE9, hk9⟩ | ⟨-, hk2⟩
      · obtain rfl : E = 2 := hE9
        obtain rfl : k = 2 := hk9
        exact wr_exc (E := 2) (k := 2) (j := 4) (n := 2) hC hK hP1 hL1 (Nat.le_of_ble_eq_true rfl) hce hcv hcl [⟨0, 10, 13, 13⟩] ⟨0, 10, 17, 17⟩ [] (htab.trans rfl) (fun z hz => by rcases List.mem_cons.mp hz with rfl | hz; exact ⟨by decide, exN 0, clw0, hK.2.2 2 0 (by decide) (by decide) (by decide)⟩; cases hz) (by decide) (by decide) clw2 rfl (Or.inl ⟨rfl, dw_size_17⟩) dw_size_19 dw_size_20 (by unfold inR; decide) B.returns
      cases hk2
  have hw := body (ax ++ [ao]) s.heap [] _ [] ⟨rfl, hP, wo_A hax hDd, va_S.rf, hax, hσ⟩ (ent_lrs hv (Nat.le_of_ble_eq_true rfl)) trivial
  rw [lg_entry_eq]
  exact hw
def hh_missing : List (Nat × Nat × Nat × Nat) := [(0, 8, 11, 17)]
theorem cw_missing : Cond.codeWith yL_missing cL_missing 3 (some .int) hh_missing ∈ TB := tb_at 1346 (by decide +kernel) (by decide +kernel)
theorem sw_missing : Cond.static yL_missing ∈ TB := tb_at 1345 (by decide +kernel) (by decide +kernel)
theorem dw_missing_3 : decode cL_missing 3 = .ok (.invokevirtual 87, 3) := by decide +kernel
theorem dw_missing_6 : decode cL_missing 6 = .ok (.i2l, 1) := by decide +kernel
theorem dw_missing_7 : decode cL_missing 7 = .ok (.lastore, 1) := by decide +kernel
theorem dw_missing_8 : decode cL_missing 8 = .ok (.goto 6, 3) := by decide +kernel
theorem dw_missing_11 : decode cL_missing 11 = .ok (.astore_n 2, 1) := by decide +kernel
theorem dw_missing_12 : decode cL_missing 12 = .ok (.iconst 1, 1) := by decide +kernel
theorem dw_missing_13 : decode cL_missing 13 = .ok (.ireturn, 1) := by decide +kernel
theorem dw_missing_14 : decode cL_missing 14 = .ok (.iconst 0, 1) := by decide +kernel
theorem dw_missing_15 : decode cL_missing 15 = .ok (.ireturn, 1) := by decide +kernel
theorem ow_missing : oks 12 cL_missing 0 [(.aload_n 1, 1, (0, 0, 0)), (.iconst 0, 1, (0, 0, 0)), (.aload_n 0, 1, (0, 0, 0))] = true ∧ plen 0 [(.aload_n 1, 1, (0, 0, 0)), (.iconst 0, 1, (0, 0, 0)), (.aload_n 0, 1, (0, 0, 0))] = 3 := by decide +kernel
theorem wc_missing (l : Launch) (hl : l.stackTraces = false) (d : Nat) (hd : 110 ≤ d)  (σ : Sg) (ov k ov' : Int) (q : ((Int ⊕ Nat) × Sg)) (h : F_X10_missing σ = some q) (hk : kW [(2, 1)] q.1 ov = some (k, ov')) : WC l d yL_missing cL_missing 3 hh_missing [.inr 0, .inr 55] σ ov k q.2 ov' := by
  obtain ⟨d, rfl⟩ : ∃ e, d = e + 1 := ⟨d - 1, by omega⟩
  intro D cI cZ cJ ax ao sz cvs hv hax hσ
  refine va_MetW (cc := cL_missing) (maxL := 3) (ret := some .int) (hh := hh_missing) (by decide +kernel) rfl ?_
  intro p e s m args below meth c s₁ B hml hp
  obtain ⟨rfl, hsz, hP, hK, hDd, hT⟩ := hp
  subst hsz
  have hts := atoms_spec (ws := wsH yL_missing cL_missing 3 hh_missing) B.pre
  have htab := vx_table (x := yL_missing) B (hts _ List.mem_cons_self)
  have hC : Cx 12 cL_missing 3 false p s m cvs.toArray meth c (Ao ax ao s.heap.size) D cI cZ := ⟨B.exec, B.bytes, hml, findClass_of_methodNamed B.named, fun w hw => hts w (List.mem_cons_of_mem _ hw), B.notSynchronized, (fun h => by cases h), hK.kn, fun q h => Or.inr (Or.inr h)⟩
  have hct := lk_X10_missing l hl d (by omega) σ q h
  have body : Rg p l e (headSpec (wsH yL_missing cL_missing 3 hh_missing) (rmD (d + 1) 1 6)).room s m cvs.toArray below meth c (PwO D cI cZ cJ ax ao s σ ov) 0 0 (MQ below (va_Qi (fun (r : Int32) (_ : Unit) => r = Int32.ofInt k) (fun _ t => va_P D vwCl (Wo cI cZ cJ ax ao q.2 ov') t.heap ∧ ∀ k i : Nat, inR (q.2 k i)) (Ao ax ao s.heap.size)) cvs.toArray s 1 6 (Ao ax ao s.heap.size)) 3 0 [some (.inr 0), some (.inr 55), none] [] := by
    refine rg_ops (S := ([], σ)) (S' := ([], σ)) (on := 12) ⟨B.exec, B.bytes⟩ ow_missing (by decide) (L' := [some (.inr 0), some (.inr 55), none]) (st' := [.inr 0, .inl 0, .inr 55]) rfl ?_
    obtain ⟨r, σ'⟩ := q
    cases r with
    | inl v =>
      obtain ⟨h91, h92⟩ : (0 : Int) = k ∧ v = ov' := Prod.mk.inj (Option.some.inj hk)
      subst h91 h92
      refine wr_call (M1 := m_X10_missing) (as := []) (st := [.inl 0, .inr 55]) (z := ozI (.inl v)) (σ' := σ') (d := d + 1) hC rfl rfl (Nat.le_refl 1) (Nat.le_refl 6) dw_missing_3 ln_12_87 im_X10_missing mk_X10_missing rfl rfl (Nat.le_of_ble_eq_true rfl) (Nat.le_refl _) (fun k hk => by simp at hk) hT hct (fun w hw => by cases hw; exact ⟨_, rfl⟩) (fun w hw => ?_) (fun E hE => by cases hE) _ rfl
      cases hw
      refine wr_put hC hK dw_missing_6 dw_missing_7 dw_missing_8 (by rfl) ?_
      exact wr_ret hC (by decide) (by decide) dw_missing_14 in0 dw_missing_15 B.returns
    | inr E =>
      obtain ⟨hk2, rfl⟩ := kW_inr hk
      refine wr_call (M1 := m_X10_missing) (as := []) (st := [.inl 0, .inr 55]) (z := ozI (.inr E)) (σ' := σ') (d := d + 1) hC rfl rfl (Nat.le_refl 1) (Nat.le_refl 6) dw_missing_3 ln_12_87 im_X10_missing mk_X10_missing rfl rfl (Nat.le_of_ble_eq_true rfl) (Nat.le_refl _) (fun k hk => by simp at hk) hT hct (fun w hw => by cases hw) (fun w hw => by cases hw) (fun E2 hE2 ads H1 locs1 ls crest ce q9 hP1 hL1 hce hcv hcl => ?_) _ rfl
      cases hE2
      rcases kE_inv hk2 with ⟨hE9, hk9⟩ | ⟨-, hk2⟩
      · obtain rfl : E = 2 := hE9
        obtain rfl : k = 1 := hk9
        exact wr_exc (E := 2) (k := 1) (j := 2) (n := 1) hC hK hP1 hL1 (Nat.le_of_ble_eq_true rfl) hce hcv hcl [] ⟨0, 8, 11, 17⟩ [] (htab.trans rfl) (fun z hz => by cases hz) (by decide) (by decide) clw2 rfl (Or.inr ⟨rfl, 2, rfl, dw_missing_11⟩) dw_missing_12 dw_missing_13 (by unfold inR; decide) B.returns
      cases hk2
  have hw := body (ax ++ [ao]) s.heap [] _ [] ⟨rfl, hP, wo_A hax hDd, va_S.rf, hax, hσ⟩ (ent_lrs hv (Nat.le_of_ble_eq_true rfl)) trivial
  rw [lg_entry_eq]
  exact hw
def hh_example : List (Nat × Nat × Nat × Nat) := [(0, 9, 12, 17)]
theorem cw_example : Cond.codeWith yL_example cL_example 4 (some .int) hh_example ∈ TB := tb_at 1357 (by decide +kernel) (by decide +kernel)
theorem sw_example : Cond.static yL_example ∈ TB := tb_at 1356 (by decide +kernel) (by decide +kernel)
theorem dw_example_4 : decode cL_example 4 = .ok (.invokevirtual 90, 3) := by decide +kernel
theorem dw_example_7 : decode cL_example 7 = .ok (.i2l, 1) := by decide +kernel
theorem dw_example_8 : decode cL_example 8 = .ok (.lastore, 1) := by decide +kernel
theorem dw_example_9 : decode cL_example 9 = .ok (.goto 6, 3) := by decide +kernel
theorem dw_example_12 : decode cL_example 12 = .ok (.astore_n 3, 1) := by decide +kernel
theorem dw_example_13 : decode cL_example 13 = .ok (.iconst 1, 1) := by decide +kernel
theorem dw_example_14 : decode cL_example 14 = .ok (.ireturn, 1) := by decide +kernel
theorem dw_example_15 : decode cL_example 15 = .ok (.iconst 0, 1) := by decide +kernel
theorem dw_example_16 : decode cL_example 16 = .ok (.ireturn, 1) := by decide +kernel
theorem ow_example : oks 12 cL_example 0 [(.aload_n 2, 1, (0, 0, 0)), (.iconst 0, 1, (0, 0, 0)), (.aload_n 0, 1, (0, 0, 0)), (.iload_n 1, 1, (0, 0, 0))] = true ∧ plen 0 [(.aload_n 2, 1, (0, 0, 0)), (.iconst 0, 1, (0, 0, 0)), (.aload_n 0, 1, (0, 0, 0)), (.iload_n 1, 1, (0, 0, 0))] = 4 := by decide +kernel
theorem wc_example (l : Launch) (hl : l.stackTraces = false) (d : Nat) (hd : 110 ≤ d) (a1 : Int) (σ : Sg) (ov k ov' : Int) (q : ((Int ⊕ Nat) × Sg)) (h : F_X10_example a1 σ = some q) (hk : kW [(2, 1)] q.1 ov = some (k, ov')) : WC l d yL_example cL_example 4 hh_example [.inr 0, .inl a1, .inr 55] σ ov k q.2 ov' := by
  obtain ⟨d, rfl⟩ : ∃ e, d = e + 1 := ⟨d - 1, by omega⟩
  intro D cI cZ cJ ax ao sz cvs hv hax hσ
  refine va_MetW (cc := cL_example) (maxL := 4) (ret := some .int) (hh := hh_example) (by decide +kernel) rfl ?_
  intro p e s m args below meth c s₁ B hml hp
  obtain ⟨rfl, hsz, hP, hK, hDd, hT⟩ := hp
  subst hsz
  have hts := atoms_spec (ws := wsH yL_example cL_example 4 hh_example) B.pre
  have htab := vx_table (x := yL_example) B (hts _ List.mem_cons_self)
  have hC : Cx 12 cL_example 4 false p s m cvs.toArray meth c (Ao ax ao s.heap.size) D cI cZ := ⟨B.exec, B.bytes, hml, findClass_of_methodNamed B.named, fun w hw => hts w (List.mem_cons_of_mem _ hw), B.notSynchronized, (fun h => by cases h), hK.kn, fun q h => Or.inr (Or.inr h)⟩
  have hct := lk_X10_example l hl d (by omega) a1 σ q h
  have body : Rg p l e (headSpec (wsH yL_example cL_example 4 hh_example) (rmD (d + 1) 1 6)).room s m cvs.toArray below meth c (PwO D cI cZ cJ ax ao s σ ov) 0 0 (MQ below (va_Qi (fun (r : Int32) (_ : Unit) => r = Int32.ofInt k) (fun _ t => va_P D vwCl (Wo cI cZ cJ ax ao q.2 ov') t.heap ∧ ∀ k i : Nat, inR (q.2 k i)) (Ao ax ao s.heap.size)) cvs.toArray s 1 6 (Ao ax ao s.heap.size)) 4 0 [some (.inr 0), some (.inl a1), some (.inr 55), none] [] := by
    refine rg_ops (S := ([], σ)) (S' := ([], σ)) (on := 12) ⟨B.exec, B.bytes⟩ ow_example (by decide) (L' := [some (.inr 0), some (.inl a1), some (.inr 55), none]) (st' := [.inl a1, .inr 0, .inl 0, .inr 55]) rfl ?_
    obtain ⟨r, σ'⟩ := q
    cases r with
    | inl v =>
      obtain ⟨h91, h92⟩ : (0 : Int) = k ∧ v = ov' := Prod.mk.inj (Option.some.inj hk)
      subst h91 h92
      refine wr_call (M1 := m_X10_example) (as := [.inl a1]) (st := [.inl 0, .inr 55]) (z := ozI (.inl v)) (σ' := σ') (d := d + 1) hC rfl rfl (Nat.le_refl 1) (Nat.le_refl 6) dw_example_4 ln_12_90 im_X10_example mk_X10_example rfl rfl (Nat.le_of_ble_eq_true rfl) (Nat.le_refl _) (fun k hk => by simp at hk) hT hct (fun w hw => by cases hw; exact ⟨_, rfl⟩) (fun w hw => ?_) (fun E hE => by cases hE) _ rfl
      cases hw
      refine wr_put hC hK dw_example_7 dw_example_8 dw_example_9 (by rfl) ?_
      exact wr_ret hC (by decide) (by decide) dw_example_15 in0 dw_example_16 B.returns
    | inr E =>
      obtain ⟨hk2, rfl⟩ := kW_inr hk
      refine wr_call (M1 := m_X10_example) (as := [.inl a1]) (st := [.inl 0, .inr 55]) (z := ozI (.inr E)) (σ' := σ') (d := d + 1) hC rfl rfl (Nat.le_refl 1) (Nat.le_refl 6) dw_example_4 ln_12_90 im_X10_example mk_X10_example rfl rfl (Nat.le_of_ble_eq_true rfl) (Nat.le_refl _) (fun k hk => by simp at hk) hT hct (fun w hw => by cases hw) (fun w hw => by cases hw) (fun E2 hE2 ads H1 locs1 ls crest ce q9 hP1 hL1 hce hcv hcl => ?_) _ rfl
      cases hE2
      rcases kE_inv hk2 with ⟨hE9, hk9⟩ | ⟨-, hk2⟩
      · obtain rfl : E = 2 := hE9
        obtain rfl : k = 1 := hk9
        exact wr_exc (E := 2) (k := 1) (j := 3) (n := 1) hC hK hP1 hL1 (Nat.le_of_ble_eq_true rfl) hce hcv hcl [] ⟨0, 9, 12, 17⟩ [] (htab.trans rfl) (fun z hz => by cases hz) (by decide) (by decide) clw2 rfl (Or.inr ⟨rfl, 3, rfl, dw_example_12⟩) dw_example_13 dw_example_14 (by unfold inR; decide) B.returns
      cases hk2
  have hw := body (ax ++ [ao]) s.heap [] _ [] ⟨rfl, hP, wo_A hax hDd, va_S.rf, hax, hσ⟩ (ent_lrs hv (Nat.le_of_ble_eq_true rfl)) trivial
  rw [lg_entry_eq]
  exact hw
def hh_isUsed : List (Nat × Nat × Nat × Nat) := [(0, 16, 19, 13), (0, 16, 22, 17)]
theorem cw_isUsed : Cond.codeWith yL_isUsed cL_isUsed 4 (some .int) hh_isUsed ∈ TB := tb_at 1372 (by decide +kernel) (by decide +kernel)
theorem sw_isUsed : Cond.static yL_isUsed ∈ TB := tb_at 1371 (by decide +kernel) (by decide +kernel)
theorem dw_isUsed_4 : decode cL_isUsed 4 = .ok (.invokevirtual 93, 3) := by decide +kernel
theorem dw_isUsed_7 : decode cL_isUsed 7 = .ok (.ifCond .eq 7, 3) := by decide +kernel
theorem dw_isUsed_10 : decode cL_isUsed 10 = .ok (.lconst 1, 1) := by decide +kernel
theorem dw_isUsed_11 : decode cL_isUsed 11 = .ok (.goto 4, 3) := by decide +kernel
theorem dw_isUsed_14 : decode cL_isUsed 14 = .ok (.lconst 0, 1) := by decide +kernel
theorem dw_isUsed_15 : decode cL_isUsed 15 = .ok (.lastore, 1) := by decide +kernel
theorem dw_isUsed_16 : decode cL_isUsed 16 = .ok (.goto 9, 3) := by decide +kernel
theorem dw_isUsed_19 : decode cL_isUsed 19 = .ok (.astore_n 3, 1) := by decide +kernel
theorem dw_isUsed_20 : decode cL_isUsed 20 = .ok (.iconst 1, 1) := by decide +kernel
theorem dw_isUsed_21 : decode cL_isUsed 21 = .ok (.ireturn, 1) := by decide +kernel
theorem dw_isUsed_22 : decode cL_isUsed 22 = .ok (.astore_n 3, 1) := by decide +kernel
theorem dw_isUsed_23 : decode cL_isUsed 23 = .ok (.iconst 2, 1) := by decide +kernel
theorem dw_isUsed_24 : decode cL_isUsed 24 = .ok (.ireturn, 1) := by decide +kernel
theorem dw_isUsed_25 : decode cL_isUsed 25 = .ok (.iconst 0, 1) := by decide +kernel
theorem dw_isUsed_26 : decode cL_isUsed 26 = .ok (.ireturn, 1) := by decide +kernel
theorem ow_isUsed : oks 12 cL_isUsed 0 [(.aload_n 2, 1, (0, 0, 0)), (.iconst 0, 1, (0, 0, 0)), (.aload_n 0, 1, (0, 0, 0)), (.iload_n 1, 1, (0, 0, 0))] = true ∧ plen 0 [(.aload_n 2, 1, (0, 0, 0)), (.iconst 0, 1, (0, 0, 0)), (.aload_n 0, 1, (0, 0, 0)), (.iload_n 1, 1, (0, 0, 0))] = 4 := by decide +kernel
theorem wc_isUsed (l : Launch) (hl : l.stackTraces = false) (d : Nat) (hd : 110 ≤ d) (a1 : Int) (σ : Sg) (ov k ov' : Int) (q : ((Bool ⊕ Nat) × Sg)) (h : F_X10_isUsed a1 σ = some q) (hk : kWB [(0, 1), (2, 2)] q.1 ov = some (k, ov')) : WC l d yL_isUsed cL_isUsed 4 hh_isUsed [.inr 0, .inl a1, .inr 55] σ ov k q.2 ov' := by
  obtain ⟨d, rfl⟩ : ∃ e, d = e + 1 := ⟨d - 1, by omega⟩
  intro D cI cZ cJ ax ao sz cvs hv hax hσ
  refine va_MetW (cc := cL_isUsed) (maxL := 4) (ret := some .int) (hh := hh_isUsed) (by decide +kernel) rfl ?_
  intro p e s m args below meth c s₁ B hml hp
  obtain ⟨rfl, hsz, hP, hK, hDd, hT⟩ := hp
  subst hsz
  have hts := atoms_spec (ws := wsH yL_isUsed cL_isUsed 4 hh_isUsed) B.pre
  have htab := vx_table (x := yL_isUsed) B (hts _ List.mem_cons_self)
  have hC : Cx 12 cL_isUsed 4 false p s m cvs.toArray meth c (Ao ax ao s.heap.size) D cI cZ := ⟨B.exec, B.bytes, hml, findClass_of_methodNamed B.named, fun w hw => hts w (List.mem_cons_of_mem _ hw), B.notSynchronized, (fun h => by cases h), hK.kn, fun q h => Or.inr (Or.inr h)⟩
  have hct := lk_X10_isUsed l hl d (by omega) a1 σ q h
  have body : Rg p l e (headSpec (wsH yL_isUsed cL_isUsed 4 hh_isUsed) (rmD (d + 1) 1 6)).room s m cvs.toArray below meth c (PwO D cI cZ cJ ax ao s σ ov) 0 0 (MQ below (va_Qi (fun (r : Int32) (_ : Unit) => r = Int32.ofInt k) (fun _ t => va_P D vwCl (Wo cI cZ cJ ax ao q.2 ov') t.heap ∧ ∀ k i : Nat, inR (q.2 k i)) (Ao ax ao s.heap.size)) cvs.toArray s 1 6 (Ao ax ao s.heap.size)) 4 0 [some (.inr 0), some (.inl a1), some (.inr 55), none] [] := by
    refine rg_ops (S := ([], σ)) (S' := ([], σ)) (on := 12) ⟨B.exec, B.bytes⟩ ow_isUsed (by decide) (L' := [some (.inr 0), some (.inl a1), some (.inr 55), none]) (st' := [.inl a1, .inr 0, .inl 0, .inr 55]) rfl ?_
    obtain ⟨r, σ'⟩ := q
    cases r with
    | inl v =>
      obtain ⟨h91, h92⟩ : (0 : Int) = k ∧ b2i v = ov' := Prod.mk.inj (Option.some.inj hk)
      subst h91 h92
      refine wr_call (M1 := m_X10_isUsed) (as := [.inl a1]) (st := [.inl 0, .inr 55]) (z := ozB (.inl v)) (σ' := σ') (d := d + 1) hC rfl rfl (Nat.le_refl 1) (Nat.le_refl 6) dw_isUsed_4 ln_12_93 im_X10_isUsed mk_X10_isUsed rfl rfl (Nat.le_of_ble_eq_true rfl) (Nat.le_refl _) (fun k hk => by simp at hk) hT hct (fun w hw => by cases hw; exact ⟨_, rfl⟩) (fun w hw => ?_) (fun E hE => by cases hE) _ rfl
      cases hw
      refine wr_putB hC hK dw_isUsed_7 (by rfl) dw_isUsed_10 dw_isUsed_11 (by rfl) dw_isUsed_14 rfl dw_isUsed_15 dw_isUsed_16 (by rfl) ?_
      exact wr_ret hC (by decide) (by decide) dw_isUsed_25 in0 dw_isUsed_26 B.returns
    | inr E =>
      obtain ⟨hk2, rfl⟩ := kWB_inr hk
      refine wr_call (M1 := m_X10_isUsed) (as := [.inl a1]) (st := [.inl 0, .inr 55]) (z := ozB (.inr E)) (σ' := σ') (d := d + 1) hC rfl rfl (Nat.le_refl 1) (Nat.le_refl 6) dw_isUsed_4 ln_12_93 im_X10_isUsed mk_X10_isUsed rfl rfl (Nat.le_of_ble_eq_true rfl) (Nat.le_refl _) (fun k hk => by simp at hk) hT hct (fun w hw => by cases hw) (fun w hw => by cases hw) (fun E2 hE2 ads H1 locs1 ls crest ce q9 hP1 hL1 hce hcv hcl => ?_) _ rfl
      cases hE2
      rcases kE_inv hk2 with ⟨hE9, hk9⟩ | ⟨-, hk2⟩
      · obtain rfl : E = 0 := hE9
        obtain rfl : k = 1 := hk9
        exact wr_exc (E := 0) (k := 1) (j := 3) (n := 1) hC hK hP1 hL1 (Nat.le_of_ble_eq_true rfl) hce hcv hcl [] ⟨0, 16, 19, 13⟩ [⟨0, 16, 22, 17⟩] (htab.trans rfl) (fun z hz => by cases hz) (by decide) (by decide) clw0 rfl (Or.inr ⟨rfl, 3, rfl, dw_isUsed_19⟩) dw_isUsed_20 dw_isUsed_21 (by unfold inR; decide) B.returns
      rcases kE_inv hk2 with ⟨hE9, hk9⟩ | ⟨-, hk2⟩
      · obtain rfl : E = 2 := hE9
        obtain rfl : k = 2 := hk9
        exact wr_exc (E := 2) (k := 2) (j := 3) (n := 1) hC hK hP1 hL1 (Nat.le_of_ble_eq_true rfl) hce hcv hcl [⟨0, 16, 19, 13⟩] ⟨0, 16, 22, 17⟩ [] (htab.trans rfl) (fun z hz => by rcases List.mem_cons.mp hz with rfl | hz; exact ⟨by decide, exN 0, clw0, hK.2.2 2 0 (by decide) (by decide) (by decide)⟩; cases hz) (by decide) (by decide) clw2 rfl (Or.inr ⟨rfl, 3, rfl, dw_isUsed_22⟩) dw_isUsed_23 dw_isUsed_24 (by unfold inR; decide) B.returns
      cases hk2
  have hw := body (ax ++ [ao]) s.heap [] _ [] ⟨rfl, hP, wo_A hax hDd, va_S.rf, hax, hσ⟩ (ent_lrs hv (Nat.le_of_ble_eq_true rfl)) trivial
  rw [lg_entry_eq]
  exact hw
