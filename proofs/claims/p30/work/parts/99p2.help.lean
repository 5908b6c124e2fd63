/-! the law's helpers, one by one -/
def hh_constructor : List (Nat × Nat × Nat × Nat) := [(0, 11, 12, 13), (0, 11, 17, 16), (0, 11, 22, 19)]
theorem cw_constructor : Cond.codeWith yL_constructor cL_constructor 7 (some .int) hh_constructor ∈ TB := tb_at 374 (by decide +kernel) (by decide +kernel)
theorem sw_constructor : Cond.static yL_constructor ∈ TB := tb_at 373 (by decide +kernel) (by decide +kernel)
theorem dw_constructor_8 : decode cL_constructor 8 = .ok (.invokevirtual 7, 3) := by decide +kernel
theorem dw_constructor_11 : decode cL_constructor 11 = .ok (.ireturn, 1) := by decide +kernel
theorem dw_constructor_12 : decode cL_constructor 12 = .ok (.astore 6, 2) := by decide +kernel
theorem dw_constructor_14 : decode cL_constructor 14 = .ok (.ldc 15, 2) := by decide +kernel
theorem dw_constructor_16 : decode cL_constructor 16 = .ok (.ireturn, 1) := by decide +kernel
theorem dw_constructor_17 : decode cL_constructor 17 = .ok (.astore 6, 2) := by decide +kernel
theorem dw_constructor_19 : decode cL_constructor 19 = .ok (.ldc 18, 2) := by decide +kernel
theorem dw_constructor_21 : decode cL_constructor 21 = .ok (.ireturn, 1) := by decide +kernel
theorem dw_constructor_22 : decode cL_constructor 22 = .ok (.astore 6, 2) := by decide +kernel
theorem dw_constructor_24 : decode cL_constructor 24 = .ok (.ldc 21, 2) := by decide +kernel
theorem dw_constructor_26 : decode cL_constructor 26 = .ok (.ireturn, 1) := by decide +kernel
theorem ow_constructor : oks 12 cL_constructor 0 [(.aload_n 0, 1, (0, 0, 0)), (.iload_n 1, 1, (0, 0, 0)), (.iload_n 2, 1, (0, 0, 0)), (.iload_n 3, 1, (0, 0, 0)), (.iload 4, 2, (0, 0, 0)), (.iload 5, 2, (0, 0, 0))] = true ∧ plen 0 [(.aload_n 0, 1, (0, 0, 0)), (.iload_n 1, 1, (0, 0, 0)), (.iload_n 2, 1, (0, 0, 0)), (.iload_n 3, 1, (0, 0, 0)), (.iload 4, 2, (0, 0, 0)), (.iload 5, 2, (0, 0, 0))] = 8 := by decide +kernel
theorem wc_constructor (l : Launch) (hl : l.stackTraces = false) (d : Nat) (hd : 8 ≤ d) (a1 : Int) (a2 : Int) (a3 : Int) (a4 : Int) (a5 : Int) (σ : Sg) (k : Int) (q : ((Int ⊕ Nat) × Sg)) (h : F_X10_constructor a1 a2 a3 a4 a5 σ = some q) (hk : kL [0, 1, 2] q.1 = some k) : CTW l d 1 yL_constructor (wsH yL_constructor cL_constructor 7 hh_constructor) [.inr 0, .inl a1, .inl a2, .inl a3, .inl a4, .inl a5] σ k q.2 := by
  obtain ⟨d, rfl⟩ : ∃ e, d = e + 1 := ⟨d - 1, by omega⟩
  intro D cI cZ ax sz cvs hv hax hσ
  refine va_MetW (cc := cL_constructor) (maxL := 7) (ret := some .int) (hh := hh_constructor) (by decide +kernel) rfl ?_
  intro p e s m args below meth c s₁ B hml hp
  obtain ⟨rfl, ⟨hsz, hP, hK, hDd⟩, hN, hT⟩ := hp
  subst hsz
  have hts := atoms_spec (ws := wsH yL_constructor cL_constructor 7 hh_constructor) B.pre
  have htab := vx_table (x := yL_constructor) B (hts _ List.mem_cons_self)
  have hC : Cx 12 cL_constructor 7 false p s m cvs.toArray meth c (AA ax s.heap.size) D cI cZ := ⟨B.exec, B.bytes, hml, findClass_of_methodNamed B.named, fun w hw => hts w (List.mem_cons_of_mem _ hw), B.notSynchronized, (fun h => by cases h), hK, fun q h => Or.inr h⟩
  have hct := lk_X10_constructor l hl d (by omega) a1 a2 a3 a4 a5 σ q h
  have body : Rg p l e (headSpec (wsH yL_constructor cL_constructor 7 hh_constructor) (rmD (d + 1) 1 6)).room s m cvs.toArray below meth c (PwN D cI cZ ax s σ) 0 0 (MQ below (QR D cI cZ (AA ax s.heap.size) ax (some (.inl k)) (LAYC, q.2)) cvs.toArray s 1 6 (AA ax s.heap.size)) 7 0 [some (.inr 0), some (.inl a1), some (.inl a2), some (.inl a3), some (.inl a4), some (.inl a5), none] [] := by
    refine rg_ops (S := ([], σ)) (S' := ([], σ)) (on := 12) ⟨B.exec, B.bytes⟩ ow_constructor (by decide) (L' := [some (.inr 0), some (.inl a1), some (.inl a2), some (.inl a3), some (.inl a4), some (.inl a5), none]) (st' := [.inl a5, .inl a4, .inl a3, .inl a2, .inl a1, .inr 0]) rfl ?_
    obtain ⟨r, σ'⟩ := q
    cases r with
    | inl v =>
      obtain rfl : v = k := Option.some.inj hk
      refine wr_call (M1 := m_X10_constructor) (as := [.inl a1, .inl a2, .inl a3, .inl a4, .inl a5]) (st := []) (z := ozI (.inl v)) (σ' := σ') (d := d + 1) hC hax rfl rfl (Nat.le_refl 1) (Nat.le_refl 6) dw_constructor_8 ln_12_7 im_X10_constructor mk_X10_constructor rfl rfl (Nat.le_of_ble_eq_true rfl) (Nat.le_refl _) hT hct (fun w hw => by cases hw; exact ⟨_, rfl⟩) (fun w hw => ?_) (fun E hE => by cases hE) _ rfl
      cases hw
      exact wr_iret hC (by decide) (by decide) dw_constructor_11 B.returns
    | inr E =>
      have hk2 : (if E ∈ ([0, 1, 2] : List Nat) then some (cdE E) else none) = some k := hk
      have hE : E ∈ ([0, 1, 2] : List Nat) := by
        by_cases z : E ∈ ([0, 1, 2] : List Nat)
        · exact z
        · rw [if_neg z] at hk2; cases hk2
      rw [if_pos hE] at hk2
      obtain rfl : cdE E = k := Option.some.inj hk2
      refine wr_call (M1 := m_X10_constructor) (as := [.inl a1, .inl a2, .inl a3, .inl a4, .inl a5]) (st := []) (z := ozI (.inr E)) (σ' := σ') (d := d + 1) hC hax rfl rfl (Nat.le_refl 1) (Nat.le_refl 6) dw_constructor_8 ln_12_7 im_X10_constructor mk_X10_constructor rfl rfl (Nat.le_of_ble_eq_true rfl) (Nat.le_refl _) hT hct (fun w hw => by cases hw) (fun w hw => by cases hw) (fun E2 hE2 H1 locs1 ls crest ce q9 hP1 hL1 hce hcv hcl => ?_) _ rfl
      cases hE2
      rcases List.mem_cons.mp hE with hE9 | hE
      · obtain rfl : E = 0 := hE9
        exact wr_exc (E := 0) (k := cdE 0) (j := 6) (n := 2) (ix := 15) hC hN hP1 hL1 (Nat.le_of_ble_eq_true rfl) hce hcv hcl [] ⟨0, 11, 12, 13⟩ [⟨0, 11, 17, 16⟩, ⟨0, 11, 22, 19⟩] (htab.trans rfl) (fun z hz => by cases hz) (by decide) (by decide) clw0 rfl (Or.inl ⟨rfl, dw_constructor_12⟩) dw_constructor_14 (by decide +kernel) dw_constructor_16 (cdE_in _) B.returns
      rcases List.mem_cons.mp hE with hE9 | hE
      · obtain rfl : E = 1 := hE9
        exact wr_exc (E := 1) (k := cdE 1) (j := 6) (n := 2) (ix := 18) hC hN hP1 hL1 (Nat.le_of_ble_eq_true rfl) hce hcv hcl [⟨0, 11, 12, 13⟩] ⟨0, 11, 17, 16⟩ [⟨0, 11, 22, 19⟩] (htab.trans rfl) (fun z hz => by rcases List.mem_cons.mp hz with rfl | hz; exact ⟨by decide, exN 0, clw0, hN 1 0 (by decide) (by decide) (by decide)⟩; cases hz) (by decide) (by decide) clw1 rfl (Or.inl ⟨rfl, dw_constructor_17⟩) dw_constructor_19 (by decide +kernel) dw_constructor_21 (cdE_in _) B.returns
      rcases List.mem_cons.mp hE with hE9 | hE
      · obtain rfl : E = 2 := hE9
        exact wr_exc (E := 2) (k := cdE 2) (j := 6) (n := 2) (ix := 21) hC hN hP1 hL1 (Nat.le_of_ble_eq_true rfl) hce hcv hcl [⟨0, 11, 12, 13⟩, ⟨0, 11, 17, 16⟩] ⟨0, 11, 22, 19⟩ [] (htab.trans rfl) (fun z hz => by rcases List.mem_cons.mp hz with rfl | hz; exact ⟨by decide, exN 0, clw0, hN 2 0 (by decide) (by decide) (by decide)⟩; rcases List.mem_cons.mp hz with rfl | hz; exact ⟨by decide, exN 1, clw1, hN 2 1 (by decide) (by decide) (by decide)⟩; cases hz) (by decide) (by decide) clw2 rfl (Or.inl ⟨rfl, dw_constructor_22⟩) dw_constructor_24 (by decide +kernel) dw_constructor_26 (cdE_in _) B.returns
      cases hE
  have hw := body ax s.heap [] _ [] ⟨rfl, hP, ⟨hDd.1, fun k q hk => Or.inl (List.mem_of_getElem? (mkW_adr hax hk))⟩, va_S.rf, hax, hσ, List.prefix_rfl⟩ (ent_lrs hv (Nat.le_of_ble_eq_true rfl)) trivial
  rw [lg_entry_eq]
  exact hw
def hh_num : List (Nat × Nat × Nat × Nat) := [(0, 5, 6, 16), (0, 5, 10, 19)]
theorem cw_num : Cond.codeWith yL_num cL_num 3 (some .int) hh_num ∈ TB := tb_at 536 (by decide +kernel) (by decide +kernel)
theorem sw_num : Cond.static yL_num ∈ TB := tb_at 535 (by decide +kernel) (by decide +kernel)
theorem dw_num_2 : decode cL_num 2 = .ok (.invokevirtual 22, 3) := by decide +kernel
theorem dw_num_5 : decode cL_num 5 = .ok (.ireturn, 1) := by decide +kernel
theorem dw_num_6 : decode cL_num 6 = .ok (.astore_n 2, 1) := by decide +kernel
theorem dw_num_7 : decode cL_num 7 = .ok (.ldc 18, 2) := by decide +kernel
theorem dw_num_9 : decode cL_num 9 = .ok (.ireturn, 1) := by decide +kernel
theorem dw_num_10 : decode cL_num 10 = .ok (.astore_n 2, 1) := by decide +kernel
theorem dw_num_11 : decode cL_num 11 = .ok (.ldc 21, 2) := by decide +kernel
theorem dw_num_13 : decode cL_num 13 = .ok (.ireturn, 1) := by decide +kernel
theorem ow_num : oks 12 cL_num 0 [(.aload_n 0, 1, (0, 0, 0)), (.iload_n 1, 1, (0, 0, 0))] = true ∧ plen 0 [(.aload_n 0, 1, (0, 0, 0)), (.iload_n 1, 1, (0, 0, 0))] = 2 := by decide +kernel
theorem wc_num (l : Launch) (hl : l.stackTraces = false) (d : Nat) (hd : 8 ≤ d) (a1 : Int) (σ : Sg) (k : Int) (q : ((Int ⊕ Nat) × Sg)) (h : F_X10_num a1 σ = some q) (hk : kL [1, 2] q.1 = some k) : CTW l d 1 yL_num (wsH yL_num cL_num 3 hh_num) [.inr 0, .inl a1] σ k q.2 := by
  obtain ⟨d, rfl⟩ : ∃ e, d = e + 1 := ⟨d - 1, by omega⟩
  intro D cI cZ ax sz cvs hv hax hσ
  refine va_MetW (cc := cL_num) (maxL := 3) (ret := some .int) (hh := hh_num) (by decide +kernel) rfl ?_
  intro p e s m args below meth c s₁ B hml hp
  obtain ⟨rfl, ⟨hsz, hP, hK, hDd⟩, hN, hT⟩ := hp
  subst hsz
  have hts := atoms_spec (ws := wsH yL_num cL_num 3 hh_num) B.pre
  have htab := vx_table (x := yL_num) B (hts _ List.mem_cons_self)
  have hC : Cx 12 cL_num 3 false p s m cvs.toArray meth c (AA ax s.heap.size) D cI cZ := ⟨B.exec, B.bytes, hml, findClass_of_methodNamed B.named, fun w hw => hts w (List.mem_cons_of_mem _ hw), B.notSynchronized, (fun h => by cases h), hK, fun q h => Or.inr h⟩
  have hct := lk_X10_num l hl d (by omega) a1 σ q h
  have body : Rg p l e (headSpec (wsH yL_num cL_num 3 hh_num) (rmD (d + 1) 1 6)).room s m cvs.toArray below meth c (PwN D cI cZ ax s σ) 0 0 (MQ below (QR D cI cZ (AA ax s.heap.size) ax (some (.inl k)) (LAYC, q.2)) cvs.toArray s 1 6 (AA ax s.heap.size)) 3 0 [some (.inr 0), some (.inl a1), none] [] := by
    refine rg_ops (S := ([], σ)) (S' := ([], σ)) (on := 12) ⟨B.exec, B.bytes⟩ ow_num (by decide) (L' := [some (.inr 0), some (.inl a1), none]) (st' := [.inl a1, .inr 0]) rfl ?_
    obtain ⟨r, σ'⟩ := q
    cases r with
    | inl v =>
      obtain rfl : v = k := Option.some.inj hk
      refine wr_call (M1 := m_X10_num) (as := [.inl a1]) (st := []) (z := ozI (.inl v)) (σ' := σ') (d := d + 1) hC hax rfl rfl (Nat.le_refl 1) (Nat.le_refl 6) dw_num_2 ln_12_22 im_X10_num mk_X10_num rfl rfl (Nat.le_of_ble_eq_true rfl) (Nat.le_refl _) hT hct (fun w hw => by cases hw; exact ⟨_, rfl⟩) (fun w hw => ?_) (fun E hE => by cases hE) _ rfl
      cases hw
      exact wr_iret hC (by decide) (by decide) dw_num_5 B.returns
    | inr E =>
      have hk2 : (if E ∈ ([1, 2] : List Nat) then some (cdE E) else none) = some k := hk
      have hE : E ∈ ([1, 2] : List Nat) := by
        by_cases z : E ∈ ([1, 2] : List Nat)
        · exact z
        · rw [if_neg z] at hk2; cases hk2
      rw [if_pos hE] at hk2
      obtain rfl : cdE E = k := Option.some.inj hk2
      refine wr_call (M1 := m_X10_num) (as := [.inl a1]) (st := []) (z := ozI (.inr E)) (σ' := σ') (d := d + 1) hC hax rfl rfl (Nat.le_refl 1) (Nat.le_refl 6) dw_num_2 ln_12_22 im_X10_num mk_X10_num rfl rfl (Nat.le_of_ble_eq_true rfl) (Nat.le_refl _) hT hct (fun w hw => by cases hw) (fun w hw => by cases hw) (fun E2 hE2 H1 locs1 ls crest ce q9 hP1 hL1 hce hcv hcl => ?_) _ rfl
      cases hE2
      rcases List.mem_cons.mp hE with hE9 | hE
      · obtain rfl : E = 1 := hE9
        exact wr_exc (E := 1) (k := cdE 1) (j := 2) (n := 1) (ix := 18) hC hN hP1 hL1 (Nat.le_of_ble_eq_true rfl) hce hcv hcl [] ⟨0, 5, 6, 16⟩ [⟨0, 5, 10, 19⟩] (htab.trans rfl) (fun z hz => by cases hz) (by decide) (by decide) clw1 rfl (Or.inr ⟨rfl, 2, rfl, dw_num_6⟩) dw_num_7 (by decide +kernel) dw_num_9 (cdE_in _) B.returns
      rcases List.mem_cons.mp hE with hE9 | hE
      · obtain rfl : E = 2 := hE9
        exact wr_exc (E := 2) (k := cdE 2) (j := 2) (n := 1) (ix := 21) hC hN hP1 hL1 (Nat.le_of_ble_eq_true rfl) hce hcv hcl [⟨0, 5, 6, 16⟩] ⟨0, 5, 10, 19⟩ [] (htab.trans rfl) (fun z hz => by rcases List.mem_cons.mp hz with rfl | hz; exact ⟨by decide, exN 1, clw1, hN 2 1 (by decide) (by decide) (by decide)⟩; cases hz) (by decide) (by decide) clw2 rfl (Or.inr ⟨rfl, 2, rfl, dw_num_10⟩) dw_num_11 (by decide +kernel) dw_num_13 (cdE_in _) B.returns
      cases hE
  have hw := body ax s.heap [] _ [] ⟨rfl, hP, ⟨hDd.1, fun k q hk => Or.inl (List.mem_of_getElem? (mkW_adr hax hk))⟩, va_S.rf, hax, hσ, List.prefix_rfl⟩ (ent_lrs hv (Nat.le_of_ble_eq_true rfl)) trivial
  rw [lg_entry_eq]
  exact hw
def hh_seq : List (Nat × Nat × Nat × Nat) := [(0, 9, 10, 16), (0, 9, 15, 19)]
theorem cw_seq : Cond.codeWith yL_seq cL_seq 6 (some .int) hh_seq ∈ TB := tb_at 579 (by decide +kernel) (by decide +kernel)
theorem sw_seq : Cond.static yL_seq ∈ TB := tb_at 578 (by decide +kernel) (by decide +kernel)
theorem dw_seq_6 : decode cL_seq 6 = .ok (.invokevirtual 26, 3) := by decide +kernel
theorem dw_seq_9 : decode cL_seq 9 = .ok (.ireturn, 1) := by decide +kernel
theorem dw_seq_10 : decode cL_seq 10 = .ok (.astore 5, 2) := by decide +kernel
theorem dw_seq_12 : decode cL_seq 12 = .ok (.ldc 18, 2) := by decide +kernel
theorem dw_seq_14 : decode cL_seq 14 = .ok (.ireturn, 1) := by decide +kernel
theorem dw_seq_15 : decode cL_seq 15 = .ok (.astore 5, 2) := by decide +kernel
theorem dw_seq_17 : decode cL_seq 17 = .ok (.ldc 21, 2) := by decide +kernel
theorem dw_seq_19 : decode cL_seq 19 = .ok (.ireturn, 1) := by decide +kernel
theorem ow_seq : oks 12 cL_seq 0 [(.aload_n 0, 1, (0, 0, 0)), (.iload_n 1, 1, (0, 0, 0)), (.iload_n 2, 1, (0, 0, 0)), (.iload_n 3, 1, (0, 0, 0)), (.iload 4, 2, (0, 0, 0))] = true ∧ plen 0 [(.aload_n 0, 1, (0, 0, 0)), (.iload_n 1, 1, (0, 0, 0)), (.iload_n 2, 1, (0, 0, 0)), (.iload_n 3, 1, (0, 0, 0)), (.iload 4, 2, (0, 0, 0))] = 6 := by decide +kernel
theorem wc_seq (l : Launch) (hl : l.stackTraces = false) (d : Nat) (hd : 8 ≤ d) (a1 : Int) (a2 : Int) (a3 : Int) (a4 : Int) (σ : Sg) (k : Int) (q : ((Int ⊕ Nat) × Sg)) (h : F_X10_seq a1 a2 a3 a4 σ = some q) (hk : kL [1, 2] q.1 = some k) : CTW l d 1 yL_seq (wsH yL_seq cL_seq 6 hh_seq) [.inr 0, .inl a1, .inl a2, .inl a3, .inl a4] σ k q.2 := by
  obtain ⟨d, rfl⟩ : ∃ e, d = e + 1 := ⟨d - 1, by omega⟩
  intro D cI cZ ax sz cvs hv hax hσ
  refine va_MetW (cc := cL_seq) (maxL := 6) (ret := some .int) (hh := hh_seq) (by decide +kernel) rfl ?_
  intro p e s m args below meth c s₁ B hml hp
  obtain ⟨rfl, ⟨hsz, hP, hK, hDd⟩, hN, hT⟩ := hp
  subst hsz
  have hts := atoms_spec (ws := wsH yL_seq cL_seq 6 hh_seq) B.pre
  have htab := vx_table (x := yL_seq) B (hts _ List.mem_cons_self)
  have hC : Cx 12 cL_seq 6 false p s m cvs.toArray meth c (AA ax s.heap.size) D cI cZ := ⟨B.exec, B.bytes, hml, findClass_of_methodNamed B.named, fun w hw => hts w (List.mem_cons_of_mem _ hw), B.notSynchronized, (fun h => by cases h), hK, fun q h => Or.inr h⟩
  have hct := lk_X10_seq l hl d (by omega) a1 a2 a3 a4 σ q h
  have body : Rg p l e (headSpec (wsH yL_seq cL_seq 6 hh_seq) (rmD (d + 1) 1 6)).room s m cvs.toArray below meth c (PwN D cI cZ ax s σ) 0 0 (MQ below (QR D cI cZ (AA ax s.heap.size) ax (some (.inl k)) (LAYC, q.2)) cvs.toArray s 1 6 (AA ax s.heap.size)) 6 0 [some (.inr 0), some (.inl a1), some (.inl a2), some (.inl a3), some (.inl a4), none] [] := by
    refine rg_ops (S := ([], σ)) (S' := ([], σ)) (on := 12) ⟨B.exec, B.bytes⟩ ow_seq (by decide) (L' := [some (.inr 0), some (.inl a1), some (.inl a2), some (.inl a3), some (.inl a4), none]) (st' := [.inl a4, .inl a3, .inl a2, .inl a1, .inr 0]) rfl ?_
    obtain ⟨r, σ'⟩ := q
    cases r with
    | inl v =>
      obtain rfl : v = k := Option.some.inj hk
      refine wr_call (M1 := m_X10_seq) (as := [.inl a1, .inl a2, .inl a3, .inl a4]) (st := []) (z := ozI (.inl v)) (σ' := σ') (d := d + 1) hC hax rfl rfl (Nat.le_refl 1) (Nat.le_refl 6) dw_seq_6 ln_12_26 im_X10_seq mk_X10_seq rfl rfl (Nat.le_of_ble_eq_true rfl) (Nat.le_refl _) hT hct (fun w hw => by cases hw; exact ⟨_, rfl⟩) (fun w hw => ?_) (fun E hE => by cases hE) _ rfl
      cases hw
      exact wr_iret hC (by decide) (by decide) dw_seq_9 B.returns
    | inr E =>
      have hk2 : (if E ∈ ([1, 2] : List Nat) then some (cdE E) else none) = some k := hk
      have hE : E ∈ ([1, 2] : List Nat) := by
        by_cases z : E ∈ ([1, 2] : List Nat)
        · exact z
        · rw [if_neg z] at hk2; cases hk2
      rw [if_pos hE] at hk2
      obtain rfl : cdE E = k := Option.some.inj hk2
      refine wr_call (M1 := m_X10_seq) (as := [.inl a1, .inl a2, .inl a3, .inl a4]) (st := []) (z := ozI (.inr E)) (σ' := σ') (d := d + 1) hC hax rfl rfl (Nat.le_refl 1) (Nat.le_refl 6) dw_seq_6 ln_12_26 im_X10_seq mk_X10_seq rfl rfl (Nat.le_of_ble_eq_true rfl) (Nat.le_refl _) hT hct (fun w hw => by cases hw) (fun w hw => by cases hw) (fun E2 hE2 H1 locs1 ls crest ce q9 hP1 hL1 hce hcv hcl => ?_) _ rfl
      cases hE2
      rcases List.mem_cons.mp hE with hE9 | hE
      · obtain rfl : E = 1 := hE9
        exact wr_exc (E := 1) (k := cdE 1) (j := 5) (n := 2) (ix := 18) hC hN hP1 hL1 (Nat.le_of_ble_eq_true rfl) hce hcv hcl [] ⟨0, 9, 10, 16⟩ [⟨0, 9, 15, 19⟩] (htab.trans rfl) (fun z hz => by cases hz) (by decide) (by decide) clw1 rfl (Or.inl ⟨rfl, dw_seq_10⟩) dw_seq_12 (by decide +kernel) dw_seq_14 (cdE_in _) B.returns
      rcases List.mem_cons.mp hE with hE9 | hE
      · obtain rfl : E = 2 := hE9
        exact wr_exc (E := 2) (k := cdE 2) (j := 5) (n := 2) (ix := 21) hC hN hP1 hL1 (Nat.le_of_ble_eq_true rfl) hce hcv hcl [⟨0, 9, 10, 16⟩] ⟨0, 9, 15, 19⟩ [] (htab.trans rfl) (fun z hz => by rcases List.mem_cons.mp hz with rfl | hz; exact ⟨by decide, exN 1, clw1, hN 2 1 (by decide) (by decide) (by decide)⟩; cases hz) (by decide) (by decide) clw2 rfl (Or.inl ⟨rfl, dw_seq_15⟩) dw_seq_17 (by decide +kernel) dw_seq_19 (cdE_in _) B.returns
      cases hE
  have hw := body ax s.heap [] _ [] ⟨rfl, hP, ⟨hDd.1, fun k q hk => Or.inl (List.mem_of_getElem? (mkW_adr hax hk))⟩, va_S.rf, hax, hσ, List.prefix_rfl⟩ (ent_lrs hv (Nat.le_of_ble_eq_true rfl)) trivial
  rw [lg_entry_eq]
  exact hw
def hh_data : List (Nat × Nat × Nat × Nat) := [(0, 11, 12, 13), (0, 11, 17, 16), (0, 11, 22, 19)]
theorem cw_data : Cond.codeWith yL_data cL_data 7 (some .int) hh_data ∈ TB := tb_at 589 (by decide +kernel) (by decide +kernel)
theorem sw_data : Cond.static yL_data ∈ TB := tb_at 588 (by decide +kernel) (by decide +kernel)
theorem dw_data_8 : decode cL_data 8 = .ok (.invokevirtual 30, 3) := by decide +kernel
theorem dw_data_11 : decode cL_data 11 = .ok (.ireturn, 1) := by decide +kernel
theorem dw_data_12 : decode cL_data 12 = .ok (.astore 6, 2) := by decide +kernel
theorem dw_data_14 : decode cL_data 14 = .ok (.ldc 15, 2) := by decide +kernel
theorem dw_data_16 : decode cL_data 16 = .ok (.ireturn, 1) := by decide +kernel
theorem dw_data_17 : decode cL_data 17 = .ok (.astore 6, 2) := by decide +kernel
theorem dw_data_19 : decode cL_data 19 = .ok (.ldc 18, 2) := by decide +kernel
theorem dw_data_21 : decode cL_data 21 = .ok (.ireturn, 1) := by decide +kernel
theorem dw_data_22 : decode cL_data 22 = .ok (.astore 6, 2) := by decide +kernel
theorem dw_data_24 : decode cL_data 24 = .ok (.ldc 21, 2) := by decide +kernel
theorem dw_data_26 : decode cL_data 26 = .ok (.ireturn, 1) := by decide +kernel
theorem ow_data : oks 12 cL_data 0 [(.aload_n 0, 1, (0, 0, 0)), (.iload_n 1, 1, (0, 0, 0)), (.iload_n 2, 1, (0, 0, 0)), (.iload_n 3, 1, (0, 0, 0)), (.iload 4, 2, (0, 0, 0)), (.iload 5, 2, (0, 0, 0))] = true ∧ plen 0 [(.aload_n 0, 1, (0, 0, 0)), (.iload_n 1, 1, (0, 0, 0)), (.iload_n 2, 1, (0, 0, 0)), (.iload_n 3, 1, (0, 0, 0)), (.iload 4, 2, (0, 0, 0)), (.iload 5, 2, (0, 0, 0))] = 8 := by decide +kernel
theorem wc_data (l : Launch) (hl : l.stackTraces = false) (d : Nat) (hd : 9 ≤ d) (a1 : Int) (a2 : Int) (a3 : Int) (a4 : Int) (a5 : Int) (σ : Sg) (k : Int) (q : ((Int ⊕ Nat) × Sg)) (h : F_X10_data a1 a2 a3 a4 a5 σ = some q) (hk : kL [0, 1, 2] q.1 = some k) : CTW l d 1 yL_data (wsH yL_data cL_data 7 hh_data) [.inr 0, .inl a1, .inl a2, .inl a3, .inl a4, .inl a5] σ k q.2 := by
  obtain ⟨d, rfl⟩ : ∃ e, d = e + 1 := ⟨d - 1, by omega⟩
  intro D cI cZ ax sz cvs hv hax hσ
  refine va_MetW (cc := cL_data) (maxL := 7) (ret := some .int) (hh := hh_data) (by decide +kernel) rfl ?_
  intro p e s m args below meth c s₁ B hml hp
  obtain ⟨rfl, ⟨hsz, hP, hK, hDd⟩, hN, hT⟩ := hp
  subst hsz
  have hts := atoms_spec (ws := wsH yL_data cL_data 7 hh_data) B.pre
  have htab := vx_table (x := yL_data) B (hts _ List.mem_cons_self)
  have hC : Cx 12 cL_data 7 false p s m cvs.toArray meth c (AA ax s.heap.size) D cI cZ := ⟨B.exec, B.bytes, hml, findClass_of_methodNamed B.named, fun w hw => hts w (List.mem_cons_of_mem _ hw), B.notSynchronized, (fun h => by cases h), hK, fun q h => Or.inr h⟩
  have hct := lk_X10_data l hl d (by omega) a1 a2 a3 a4 a5 σ q h
  have body : Rg p l e (headSpec (wsH yL_data cL_data 7 hh_data) (rmD (d + 1) 1 6)).room s m cvs.toArray below meth c (PwN D cI cZ ax s σ) 0 0 (MQ below (QR D cI cZ (AA ax s.heap.size) ax (some (.inl k)) (LAYC, q.2)) cvs.toArray s 1 6 (AA ax s.heap.size)) 7 0 [some (.inr 0), some (.inl a1), some (.inl a2), some (.inl a3), some (.inl a4), some (.inl a5), none] [] := by
    refine rg_ops (S := ([], σ)) (S' := ([], σ)) (on := 12) ⟨B.exec, B.bytes⟩ ow_data (by decide) (L' := [some (.inr 0), some (.inl a1), some (.inl a2), some (.inl a3), some (.inl a4), some (.inl a5), none]) (st' := [.inl a5, .inl a4, .inl a3, .inl a2, .inl a1, .inr 0]) rfl ?_
    obtain ⟨r, σ'⟩ := q
    cases r with
    | inl v =>
      obtain rfl : v = k := Option.some.inj hk
      refine wr_call (M1 := m_X10_data) (as := [.inl a1, .inl a2, .inl a3, .inl a4, .inl a5]) (st := []) (z := ozI (.inl v)) (σ' := σ') (d := d + 1) hC hax rfl rfl (Nat.le_refl 1) (Nat.le_refl 6) dw_data_8 ln_12_30 im_X10_data mk_X10_data rfl rfl (Nat.le_of_ble_eq_true rfl) (Nat.le_refl _) hT hct (fun w hw => by cases hw; exact ⟨_, rfl⟩) (fun w hw => ?_) (fun E hE => by cases hE) _ rfl
      cases hw
      exact wr_iret hC (by decide) (by decide) dw_data_11 B.returns
    | inr E =>
      have hk2 : (if E ∈ ([0, 1, 2] : List Nat) then some (cdE E) else none) = some k := hk
      have hE : E ∈ ([0, 1, 2] : List Nat) := by
        by_cases z : E ∈ ([0, 1, 2] : List Nat)
        · exact z
        · rw [if_neg z] at hk2; cases hk2
      rw [if_pos hE] at hk2
      obtain rfl : cdE E = k := Option.some.inj hk2
      refine wr_call (M1 := m_X10_data) (as := [.inl a1, .inl a2, .inl a3, .inl a4, .inl a5]) (st := []) (z := ozI (.inr E)) (σ' := σ') (d := d + 1) hC hax rfl rfl (Nat.le_refl 1) (Nat.le_refl 6) dw_data_8 ln_12_30 im_X10_data mk_X10_data rfl rfl (Nat.le_of_ble_eq_true rfl) (Nat.le_refl _) hT hct (fun w hw => by cases hw) (fun w hw => by cases hw) (fun E2 hE2 H1 locs1 ls crest ce q9 hP1 hL1 hce hcv hcl => ?_) _ rfl
      cases hE2
      rcases List.mem_cons.mp hE with hE9 | hE
      · obtain rfl : E = 0 := hE9
        exact wr_exc (E := 0) (k := cdE 0) (j := 6) (n := 2) (ix := 15) hC hN hP1 hL1 (Nat.le_of_ble_eq_true rfl) hce hcv hcl [] ⟨0, 11, 12, 13⟩ [⟨0, 11, 17, 16⟩, ⟨0, 11, 22, 19⟩] (htab.trans rfl) (fun z hz => by cases hz) (by decide) (by decide) clw0 rfl (Or.inl ⟨rfl, dw_data_12⟩) dw_data_14 (by decide +kernel) dw_data_16 (cdE_in _) B.returns
      rcases List.mem_cons.mp hE with hE9 | hE
      · obtain rfl : E = 1 := hE9
        exact wr_exc (E := 1) (k := cdE 1) (j := 6) (n := 2) (ix := 18) hC hN hP1 hL1 (Nat.le_of_ble_eq_true rfl) hce hcv hcl [⟨0, 11, 12, 13⟩] ⟨0, 11, 17, 16⟩ [⟨0, 11, 22, 19⟩] (htab.trans rfl) (fun z hz => by rcases List.mem_cons.mp hz with rfl | hz; exact ⟨by decide, exN 0, clw0, hN 1 0 (by decide) (by decide) (by decide)⟩; cases hz) (by decide) (by decide) clw1 rfl (Or.inl ⟨rfl, dw_data_17⟩) dw_data_19 (by decide +kernel) dw_data_21 (cdE_in _) B.returns
      rcases List.mem_cons.mp hE with hE9 | hE
      · obtain rfl : E = 2 := hE9
        exact wr_exc (E := 2) (k := cdE 2) (j := 6) (n := 2) (ix := 21) hC hN hP1 hL1 (Nat.le_of_ble_eq_true rfl) hce hcv hcl [⟨0, 11, 12, 13⟩, ⟨0, 11, 17, 16⟩] ⟨0, 11, 22, 19⟩ [] (htab.trans rfl) (fun z hz => by rcases List.mem_cons.mp hz with rfl | hz; exact ⟨by decide, exN 0, clw0, hN 2 0 (by decide) (by decide) (by decide)⟩; rcases List.mem_cons.mp hz with rfl | hz; exact ⟨by decide, exN 1, clw1, hN 2 1 (by decide) (by decide) (by decide)⟩; cases hz) (by decide) (by decide) clw2 rfl (Or.inl ⟨rfl, dw_data_22⟩) dw_data_24 (by decide +kernel) dw_data_26 (cdE_in _) B.returns
      cases hE
  have hw := body ax s.heap [] _ [] ⟨rfl, hP, ⟨hDd.1, fun k q hk => Or.inl (List.mem_of_getElem? (mkW_adr hax hk))⟩, va_S.rf, hax, hσ, List.prefix_rfl⟩ (ent_lrs hv (Nat.le_of_ble_eq_true rfl)) trivial
  rw [lg_entry_eq]
  exact hw
def hh_any : List (Nat × Nat × Nat × Nat) := [(0, 4, 5, 19)]
theorem cw_any : Cond.codeWith yL_any cL_any 2 (some .int) hh_any ∈ TB := tb_at 1381 (by decide +kernel) (by decide +kernel)
theorem sw_any : Cond.static yL_any ∈ TB := tb_at 1380 (by decide +kernel) (by decide +kernel)
theorem dw_any_1 : decode cL_any 1 = .ok (.invokevirtual 33, 3) := by decide +kernel
theorem dw_any_4 : decode cL_any 4 = .ok (.ireturn, 1) := by decide +kernel
theorem dw_any_5 : decode cL_any 5 = .ok (.astore_n 1, 1) := by decide +kernel
theorem dw_any_6 : decode cL_any 6 = .ok (.ldc 21, 2) := by decide +kernel
theorem dw_any_8 : decode cL_any 8 = .ok (.ireturn, 1) := by decide +kernel
theorem ow_any : oks 12 cL_any 0 [(.aload_n 0, 1, (0, 0, 0))] = true ∧ plen 0 [(.aload_n 0, 1, (0, 0, 0))] = 1 := by decide +kernel
theorem wc_any (l : Launch) (hl : l.stackTraces = false) (d : Nat) (hd : 9 ≤ d)  (σ : Sg) (k : Int) (q : ((Int ⊕ Nat) × Sg)) (h : F_X10_any σ = some q) (hk : kL [2] q.1 = some k) : CTW l d 1 yL_any (wsH yL_any cL_any 2 hh_any) [.inr 0] σ k q.2 := by
  obtain ⟨d, rfl⟩ : ∃ e, d = e + 1 := ⟨d - 1, by omega⟩
  intro D cI cZ ax sz cvs hv hax hσ
  refine va_MetW (cc := cL_any) (maxL := 2) (ret := some .int) (hh := hh_any) (by decide +kernel) rfl ?_
  intro p e s m args below meth c s₁ B hml hp
  obtain ⟨rfl, ⟨hsz, hP, hK, hDd⟩, hN, hT⟩ := hp
  subst hsz
  have hts := atoms_spec (ws := wsH yL_any cL_any 2 hh_any) B.pre
  have htab := vx_table (x := yL_any) B (hts _ List.mem_cons_self)
  have hC : Cx 12 cL_any 2 false p s m cvs.toArray meth c (AA ax s.heap.size) D cI cZ := ⟨B.exec, B.bytes, hml, findClass_of_methodNamed B.named, fun w hw => hts w (List.mem_cons_of_mem _ hw), B.notSynchronized, (fun h => by cases h), hK, fun q h => Or.inr h⟩
  have hct := lk_X10_any l hl d (by omega) σ q h
  have body : Rg p l e (headSpec (wsH yL_any cL_any 2 hh_any) (rmD (d + 1) 1 6)).room s m cvs.toArray below meth c (PwN D cI cZ ax s σ) 0 0 (MQ below (QR D cI cZ (AA ax s.heap.size) ax (some (.inl k)) (LAYC, q.2)) cvs.toArray s 1 6 (AA ax s.heap.size)) 2 0 [some (.inr 0), none] [] := by
    refine rg_ops (S := ([], σ)) (S' := ([], σ)) (on := 12) ⟨B.exec, B.bytes⟩ ow_any (by decide) (L' := [some (.inr 0), none]) (st' := [.inr 0]) rfl ?_
    obtain ⟨r, σ'⟩ := q
    cases r with
    | inl v =>
      obtain rfl : v = k := Option.some.inj hk
      refine wr_call (M1 := m_X10_any) (as := []) (st := []) (z := ozI (.inl v)) (σ' := σ') (d := d + 1) hC hax rfl rfl (Nat.le_refl 1) (Nat.le_refl 6) dw_any_1 ln_12_33 im_X10_any mk_X10_any rfl rfl (Nat.le_of_ble_eq_true rfl) (Nat.le_refl _) hT hct (fun w hw => by cases hw; exact ⟨_, rfl⟩) (fun w hw => ?_) (fun E hE => by cases hE) _ rfl
      cases hw
      exact wr_iret hC (by decide) (by decide) dw_any_4 B.returns
    | inr E =>
      have hk2 : (if E ∈ ([2] : List Nat) then some (cdE E) else none) = some k := hk
      have hE : E ∈ ([2] : List Nat) := by
        by_cases z : E ∈ ([2] : List Nat)
        · exact z
        · rw [if_neg z] at hk2; cases hk2
      rw [if_pos hE] at hk2
      obtain rfl : cdE E = k := Option.some.inj hk2
      refine wr_call (M1 := m_X10_any) (as := []) (st := []) (z := ozI (.inr E)) (σ' := σ') (d := d + 1) hC hax rfl rfl (Nat.le_refl 1) (Nat.le_refl 6) dw_any_1 ln_12_33 im_X10_any mk_X10_any rfl rfl (Nat.le_of_ble_eq_true rfl) (Nat.le_refl _) hT hct (fun w hw => by cases hw) (fun w hw => by cases hw) (fun E2 hE2 H1 locs1 ls crest ce q9 hP1 hL1 hce hcv hcl => ?_) _ rfl
      cases hE2
      rcases List.mem_cons.mp hE with hE9 | hE
      · obtain rfl : E = 2 := hE9
        exact wr_exc (E := 2) (k := cdE 2) (j := 1) (n := 1) (ix := 21) hC hN hP1 hL1 (Nat.le_of_ble_eq_true rfl) hce hcv hcl [] ⟨0, 4, 5, 19⟩ [] (htab.trans rfl) (fun z hz => by cases hz) (by decide) (by decide) clw2 rfl (Or.inr ⟨rfl, 1, rfl, dw_any_5⟩) dw_any_6 (by decide +kernel) dw_any_8 (cdE_in _) B.returns
      cases hE
  have hw := body ax s.heap [] _ [] ⟨rfl, hP, ⟨hDd.1, fun k q hk => Or.inl (List.mem_of_getElem? (mkW_adr hax hk))⟩, va_S.rf, hax, hσ, List.prefix_rfl⟩ (ent_lrs hv (Nat.le_of_ble_eq_true rfl)) trivial
  rw [lg_entry_eq]
  exact hw
def hh_name : List (Nat × Nat × Nat × Nat) := [(0, 6, 7, 13), (0, 6, 11, 16), (0, 6, 15, 19)]
theorem cw_name : Cond.codeWith yL_name cL_name 4 (some .int) hh_name ∈ TB := tb_at 619 (by decide +kernel) (by decide +kernel)
theorem sw_name : Cond.static yL_name ∈ TB := tb_at 618 (by decide +kernel) (by decide +kernel)
theorem dw_name_3 : decode cL_name 3 = .ok (.invokevirtual 37, 3) := by decide +kernel
theorem dw_name_6 : decode cL_name 6 = .ok (.ireturn, 1) := by decide +kernel
theorem dw_name_7 : decode cL_name 7 = .ok (.astore_n 3, 1) := by decide +kernel
theorem dw_name_8 : decode cL_name 8 = .ok (.ldc 15, 2) := by decide +kernel
theorem dw_name_10 : decode cL_name 10 = .ok (.ireturn, 1) := by decide +kernel
theorem dw_name_11 : decode cL_name 11 = .ok (.astore_n 3, 1) := by decide +kernel
theorem dw_name_12 : decode cL_name 12 = .ok (.ldc 18, 2) := by decide +kernel
theorem dw_name_14 : decode cL_name 14 = .ok (.ireturn, 1) := by decide +kernel
theorem dw_name_15 : decode cL_name 15 = .ok (.astore_n 3, 1) := by decide +kernel
theorem dw_name_16 : decode cL_name 16 = .ok (.ldc 21, 2) := by decide +kernel
theorem dw_name_18 : decode cL_name 18 = .ok (.ireturn, 1) := by decide +kernel
theorem ow_name : oks 12 cL_name 0 [(.aload_n 0, 1, (0, 0, 0)), (.iload_n 1, 1, (0, 0, 0)), (.iload_n 2, 1, (0, 0, 0))] = true ∧ plen 0 [(.aload_n 0, 1, (0, 0, 0)), (.iload_n 1, 1, (0, 0, 0)), (.iload_n 2, 1, (0, 0, 0))] = 3 := by decide +kernel
theorem wc_name (l : Launch) (hl : l.stackTraces = false) (d : Nat) (hd : 9 ≤ d) (a1 : Int) (a2 : Int) (σ : Sg) (k : Int) (q : ((Int ⊕ Nat) × Sg)) (h : F_X10_name a1 a2 σ = some q) (hk : kL [0, 1, 2] q.1 = some k) : CTW l d 1 yL_name (wsH yL_name cL_name 4 hh_name) [.inr 0, .inl a1, .inl a2] σ k q.2 := by
  obtain ⟨d, rfl⟩ : ∃ e, d = e + 1 := ⟨d - 1, by omega⟩
  intro D cI cZ ax sz cvs hv hax hσ
  refine va_MetW (cc := cL_name) (maxL := 4) (ret := some .int) (hh := hh_name) (by decide +kernel) rfl ?_
  intro p e s m args below meth c s₁ B hml hp
  obtain ⟨rfl, ⟨hsz, hP, hK, hDd⟩, hN, hT⟩ := hp
  subst hsz
  have hts := atoms_spec (ws := wsH yL_name cL_name 4 hh_name) B.pre
  have htab := vx_table (x := yL_name) B (hts _ List.mem_cons_self)
  have hC : Cx 12 cL_name 4 false p s m cvs.toArray meth c (AA ax s.heap.size) D cI cZ := ⟨B.exec, B.bytes, hml, findClass_of_methodNamed B.named, fun w hw => hts w (List.mem_cons_of_mem _ hw), B.notSynchronized, (fun h => by cases h), hK, fun q h => Or.inr h⟩
  have hct := lk_X10_name l hl d (by omega) a1 a2 σ q h
  have body : Rg p l e (headSpec (wsH yL_name cL_name 4 hh_name) (rmD (d + 1) 1 6)).room s m cvs.toArray below meth c (PwN D cI cZ ax s σ) 0 0 (MQ below (QR D cI cZ (AA ax s.heap.size) ax (some (.inl k)) (LAYC, q.2)) cvs.toArray s 1 6 (AA ax s.heap.size)) 4 0 [some (.inr 0), some (.inl a1), some (.inl a2), none] [] := by
    refine rg_ops (S := ([], σ)) (S' := ([], σ)) (on := 12) ⟨B.exec, B.bytes⟩ ow_name (by decide) (L' := [some (.inr 0), some (.inl a1), some (.inl a2), none]) (st' := [.inl a2, .inl a1, .inr 0]) rfl ?_
    obtain ⟨r, σ'⟩ := q
    cases r with
    | inl v =>
      obtain rfl : v = k := Option.some.inj hk
      refine wr_call (M1 := m_X10_name) (as := [.inl a1, .inl a2]) (st := []) (z := ozI (.inl v)) (σ' := σ') (d := d + 1) hC hax rfl rfl (Nat.le_refl 1) (Nat.le_refl 6) dw_name_3 ln_12_37 im_X10_name mk_X10_name rfl rfl (Nat.le_of_ble_eq_true rfl) (Nat.le_refl _) hT hct (fun w hw => by cases hw; exact ⟨_, rfl⟩) (fun w hw => ?_) (fun E hE => by cases hE) _ rfl
      cases hw
      exact wr_iret hC (by decide) (by decide) dw_name_6 B.returns
    | inr E =>
      have hk2 : (if E ∈ ([0, 1, 2] : List Nat) then some (cdE E) else none) = some k := hk
      have hE : E ∈ ([0, 1, 2] : List Nat) := by
        by_cases z : E ∈ ([0, 1, 2] : List Nat)
        · exact z
        · rw [if_neg z] at hk2; cases hk2
      rw [if_pos hE] at hk2
      obtain rfl : cdE E = k := Option.some.inj hk2
      refine wr_call (M1 := m_X10_name) (as := [.inl a1, .inl a2]) (st := []) (z := ozI (.inr E)) (σ' := σ') (d := d + 1) hC hax rfl rfl (Nat.le_refl 1) (Nat.le_refl 6) dw_name_3 ln_12_37 im_X10_name mk_X10_name rfl rfl (Nat.le_of_ble_eq_true rfl) (Nat.le_refl _) hT hct (fun w hw => by cases hw) (fun w hw => by cases hw) (fun E2 hE2 H1 locs1 ls crest ce q9 hP1 hL1 hce hcv hcl => ?_) _ rfl
      cases hE2
      rcases List.mem_cons.mp hE with hE9 | hE
      · obtain rfl : E = 0 := hE9
        exact wr_exc (E := 0) (k := cdE 0) (j := 3) (n := 1) (ix := 15) hC hN hP1 hL1 (Nat.le_of_ble_eq_true rfl) hce hcv hcl [] ⟨0, 6, 7, 13⟩ [⟨0, 6, 11, 16⟩, ⟨0, 6, 15, 19⟩] (htab.trans rfl) (fun z hz => by cases hz) (by decide) (by decide) clw0 rfl (Or.inr ⟨rfl, 3, rfl, dw_name_7⟩) dw_name_8 (by decide +kernel) dw_name_10 (cdE_in _) B.returns
      rcases List.mem_cons.mp hE with hE9 | hE
      · obtain rfl : E = 1 := hE9
        exact wr_exc (E := 1) (k := cdE 1) (j := 3) (n := 1) (ix := 18) hC hN hP1 hL1 (Nat.le_of_ble_eq_true rfl) hce hcv hcl [⟨0, 6, 7, 13⟩] ⟨0, 6, 11, 16⟩ [⟨0, 6, 15, 19⟩] (htab.trans rfl) (fun z hz => by rcases List.mem_cons.mp hz with rfl | hz; exact ⟨by decide, exN 0, clw0, hN 1 0 (by decide) (by decide) (by decide)⟩; cases hz) (by decide) (by decide) clw1 rfl (Or.inr ⟨rfl, 3, rfl, dw_name_11⟩) dw_name_12 (by decide +kernel) dw_name_14 (cdE_in _) B.returns
      rcases List.mem_cons.mp hE with hE9 | hE
      · obtain rfl : E = 2 := hE9
        exact wr_exc (E := 2) (k := cdE 2) (j := 3) (n := 1) (ix := 21) hC hN hP1 hL1 (Nat.le_of_ble_eq_true rfl) hce hcv hcl [⟨0, 6, 7, 13⟩, ⟨0, 6, 11, 16⟩] ⟨0, 6, 15, 19⟩ [] (htab.trans rfl) (fun z hz => by rcases List.mem_cons.mp hz with rfl | hz; exact ⟨by decide, exN 0, clw0, hN 2 0 (by decide) (by decide) (by decide)⟩; rcases List.mem_cons.mp hz with rfl | hz; exact ⟨by decide, exN 1, clw1, hN 2 1 (by decide) (by decide) (by decide)⟩; cases hz) (by decide) (by decide) clw2 rfl (Or.inr ⟨rfl, 3, rfl, dw_name_15⟩) dw_name_16 (by decide +kernel) dw_name_18 (cdE_in _) B.returns
      cases hE
  have hw := body ax s.heap [] _ [] ⟨rfl, hP, ⟨hDd.1, fun k q hk => Or.inl (List.mem_of_getElem? (mkW_adr hax hk))⟩, va_S.rf, hax, hσ, List.prefix_rfl⟩ (ent_lrs hv (Nat.le_of_ble_eq_true rfl)) trivial
  rw [lg_entry_eq]
  exact hw
def hh_range : List (Nat × Nat × Nat × Nat) := [(0, 6, 7, 16), (0, 6, 11, 19)]
theorem cw_range : Cond.codeWith yL_range cL_range 4 (some .int) hh_range ∈ TB := tb_at 714 (by decide +kernel) (by decide +kernel)
theorem sw_range : Cond.static yL_range ∈ TB := tb_at 713 (by decide +kernel) (by decide +kernel)
theorem dw_range_3 : decode cL_range 3 = .ok (.invokevirtual 41, 3) := by decide +kernel
theorem dw_range_6 : decode cL_range 6 = .ok (.ireturn, 1) := by decide +kernel
theorem dw_range_7 : decode cL_range 7 = .ok (.astore_n 3, 1) := by decide +kernel
theorem dw_range_8 : decode cL_range 8 = .ok (.ldc 18, 2) := by decide +kernel
theorem dw_range_10 : decode cL_range 10 = .ok (.ireturn, 1) := by decide +kernel
theorem dw_range_11 : decode cL_range 11 = .ok (.astore_n 3, 1) := by decide +kernel
theorem dw_range_12 : decode cL_range 12 = .ok (.ldc 21, 2) := by decide +kernel
theorem dw_range_14 : decode cL_range 14 = .ok (.ireturn, 1) := by decide +kernel
theorem ow_range : oks 12 cL_range 0 [(.aload_n 0, 1, (0, 0, 0)), (.iload_n 1, 1, (0, 0, 0)), (.iload_n 2, 1, (0, 0, 0))] = true ∧ plen 0 [(.aload_n 0, 1, (0, 0, 0)), (.iload_n 1, 1, (0, 0, 0)), (.iload_n 2, 1, (0, 0, 0))] = 3 := by decide +kernel
theorem wc_range (l : Launch) (hl : l.stackTraces = false) (d : Nat) (hd : 9 ≤ d) (a1 : Int) (a2 : Int) (σ : Sg) (k : Int) (q : ((Int ⊕ Nat) × Sg)) (h : F_X10_range a1 a2 σ = some q) (hk : kL [1, 2] q.1 = some k) : CTW l d 1 yL_range (wsH yL_range cL_range 4 hh_range) [.inr 0, .inl a1, .inl a2] σ k q.2 := by
  obtain ⟨d, rfl⟩ : ∃ e, d = e + 1 := ⟨d - 1, by omega⟩
  intro D cI cZ ax sz cvs hv hax hσ
  refine va_MetW (cc := cL_range) (maxL := 4) (ret := some .int) (hh := hh_range) (by decide +kernel) rfl ?_
  intro p e s m args below meth c s₁ B hml hp
  obtain ⟨rfl, ⟨hsz, hP, hK, hDd⟩, hN, hT⟩ := hp
  subst hsz
  have hts := atoms_spec (ws := wsH yL_range cL_range 4 hh_range) B.pre
  have htab := vx_table (x := yL_range) B (hts _ List.mem_cons_self)
  have hC : Cx 12 cL_range 4 false p s m cvs.toArray meth c (AA ax s.heap.size) D cI cZ := ⟨B.exec, B.bytes, hml, findClass_of_methodNamed B.named, fun w hw => hts w (List.mem_cons_of_mem _ hw), B.notSynchronized, (fun h => by cases h), hK, fun q h => Or.inr h⟩
  have hct := lk_X10_range l hl d (by omega) a1 a2 σ q h
  have body : Rg p l e (headSpec (wsH yL_range cL_range 4 hh_range) (rmD (d + 1) 1 6)).room s m cvs.toArray below meth c (PwN D cI cZ ax s σ) 0 0 (MQ below (QR D cI cZ (AA ax s.heap.size) ax (some (.inl k)) (LAYC, q.2)) cvs.toArray s 1 6 (AA ax s.heap.size)) 4 0 [some (.inr 0), some (.inl a1), some (.inl a2), none] [] := by
    refine rg_ops (S := ([], σ)) (S' := ([], σ)) (on := 12) ⟨B.exec, B.bytes⟩ ow_range (by decide) (L' := [some (.inr 0), some (.inl a1), some (.inl a2), none]) (st' := [.inl a2, .inl a1, .inr 0]) rfl ?_
    obtain ⟨r, σ'⟩ := q
    cases r with
    | inl v =>
      obtain rfl : v = k := Option.some.inj hk
      refine wr_call (M1 := m_X10_range) (as := [.inl a1, .inl a2]) (st := []) (z := ozI (.inl v)) (σ' := σ') (d := d + 1) hC hax rfl rfl (Nat.le_refl 1) (Nat.le_refl 6) dw_range_3 ln_12_41 im_X10_range mk_X10_range rfl rfl (Nat.le_of_ble_eq_true rfl) (Nat.le_refl _) hT hct (fun w hw => by cases hw; exact ⟨_, rfl⟩) (fun w hw => ?_) (fun E hE => by cases hE) _ rfl
      cases hw
      exact wr_iret hC (by decide) (by decide) dw_range_6 B.returns
    | inr E =>
      have hk2 : (if E ∈ ([1, 2] : List Nat) then some (cdE E) else none) = some k := hk
      have hE : E ∈ ([1, 2] : List Nat) := by
        by_cases z : E ∈ ([1, 2] : List Nat)
        · exact z
        · rw [if_neg z] at hk2; cases hk2
      rw [if_pos hE] at hk2
      obtain rfl : cdE E = k := Option.some.inj hk2
      refine wr_call (M1 := m_X10_range) (as := [.inl a1, .inl a2]) (st := []) (z := ozI (.inr E)) (σ' := σ') (d := d + 1) hC hax rfl rfl (Nat.le_refl 1) (Nat.le_refl 6) dw_range_3 ln_12_41 im_X10_range mk_X10_range rfl rfl (Nat.le_of_ble_eq_true rfl) (Nat.le_refl _) hT hct (fun w hw => by cases hw) (fun w hw => by cases hw) (fun E2 hE2 H1 locs1 ls crest ce q9 hP1 hL1 hce hcv hcl => ?_) _ rfl
      cases hE2
      rcases List.mem_cons.mp hE with hE9 | hE
      · obtain rfl : E = 1 := hE9
        exact wr_exc (E := 1) (k := cdE 1) (j := 3) (n := 1) (ix := 18) hC hN hP1 hL1 (Nat.le_of_ble_eq_true rfl) hce hcv hcl [] ⟨0, 6, 7, 16⟩ [⟨0, 6, 11, 19⟩] (htab.trans rfl) (fun z hz => by cases hz) (by decide) (by decide) clw1 rfl (Or.inr ⟨rfl, 3, rfl, dw_range_7⟩) dw_range_8 (by decide +kernel) dw_range_10 (cdE_in _) B.returns
      rcases List.mem_cons.mp hE with hE9 | hE
      · obtain rfl : E = 2 := hE9
        exact wr_exc (E := 2) (k := cdE 2) (j := 3) (n := 1) (ix := 21) hC hN hP1 hL1 (Nat.le_of_ble_eq_true rfl) hce hcv hcl [⟨0, 6, 7, 16⟩] ⟨0, 6, 11, 19⟩ [] (htab.trans rfl) (fun z hz => by rcases List.mem_cons.mp hz with rfl | hz; exact ⟨by decide, exN 1, clw1, hN 2 1 (by decide) (by decide) (by decide)⟩; cases hz) (by decide) (by decide) clw2 rfl (Or.inr ⟨rfl, 3, rfl, dw_range_11⟩) dw_range_12 (by decide +kernel) dw_range_14 (cdE_in _) B.returns
      cases hE
  have hw := body ax s.heap [] _ [] ⟨rfl, hP, ⟨hDd.1, fun k q hk => Or.inl (List.mem_of_getElem? (mkW_adr hax hk))⟩, va_S.rf, hax, hσ, List.prefix_rfl⟩ (ent_lrs hv (Nat.le_of_ble_eq_true rfl)) trivial
  rw [lg_entry_eq]
  exact hw
def hh_make : List (Nat × Nat × Nat × Nat) := [(0, 11, 12, 13), (0, 11, 17, 16), (0, 11, 22, 19)]
theorem cw_make : Cond.codeWith yL_make cL_make 7 (some .int) hh_make ∈ TB := tb_at 721 (by decide +kernel) (by decide +kernel)
theorem sw_make : Cond.static yL_make ∈ TB := tb_at 720 (by decide +kernel) (by decide +kernel)
theorem dw_make_8 : decode cL_make 8 = .ok (.invokevirtual 44, 3) := by decide +kernel
theorem dw_make_11 : decode cL_make 11 = .ok (.ireturn, 1) := by decide +kernel
theorem dw_make_12 : decode cL_make 12 = .ok (.astore 6, 2) := by decide +kernel
theorem dw_make_14 : decode cL_make 14 = .ok (.ldc 15, 2) := by decide +kernel
theorem dw_make_16 : decode cL_make 16 = .ok (.ireturn, 1) := by decide +kernel
theorem dw_make_17 : decode cL_make 17 = .ok (.astore 6, 2) := by decide +kernel
theorem dw_make_19 : decode cL_make 19 = .ok (.ldc 18, 2) := by decide +kernel
theorem dw_make_21 : decode cL_make 21 = .ok (.ireturn, 1) := by decide +kernel
theorem dw_make_22 : decode cL_make 22 = .ok (.astore 6, 2) := by decide +kernel
theorem dw_make_24 : decode cL_make 24 = .ok (.ldc 21, 2) := by decide +kernel
theorem dw_make_26 : decode cL_make 26 = .ok (.ireturn, 1) := by decide +kernel
theorem ow_make : oks 12 cL_make 0 [(.aload_n 0, 1, (0, 0, 0)), (.iload_n 1, 1, (0, 0, 0)), (.iload_n 2, 1, (0, 0, 0)), (.iload_n 3, 1, (0, 0, 0)), (.iload 4, 2, (0, 0, 0)), (.iload 5, 2, (0, 0, 0))] = true ∧ plen 0 [(.aload_n 0, 1, (0, 0, 0)), (.iload_n 1, 1, (0, 0, 0)), (.iload_n 2, 1, (0, 0, 0)), (.iload_n 3, 1, (0, 0, 0)), (.iload 4, 2, (0, 0, 0)), (.iload 5, 2, (0, 0, 0))] = 8 := by decide +kernel
theorem wc_make (l : Launch) (hl : l.stackTraces = false) (d : Nat) (hd : 9 ≤ d) (a1 : Int) (a2 : Int) (a3 : Int) (a4 : Int) (a5 : Int) (σ : Sg) (k : Int) (q : ((Int ⊕ Nat) × Sg)) (h : F_X10_make a1 a2 a3 a4 a5 σ = some q) (hk : kL [0, 1, 2] q.1 = some k) : CTW l d 1 yL_make (wsH yL_make cL_make 7 hh_make) [.inr 0, .inl a1, .inl a2, .inl a3, .inl a4, .inl a5] σ k q.2 := by
  obtain ⟨d, rfl⟩ : ∃ e, d = e + 1 := ⟨d - 1, by omega⟩
  intro D cI cZ ax sz cvs hv hax hσ
  refine va_MetW (cc := cL_make) (maxL := 7) (ret := some .int) (hh := hh_make) (by decide +kernel) rfl ?_
  intro p e s m args below meth c s₁ B hml hp
  obtain ⟨rfl, ⟨hsz, hP, hK, hDd⟩, hN, hT⟩ := hp
  subst hsz
  have hts := atoms_spec (ws := wsH yL_make cL_make 7 hh_make) B.pre
  have htab := vx_table (x := yL_make) B (hts _ List.mem_cons_self)
  have hC : Cx 12 cL_make 7 false p s m cvs.toArray meth c (AA ax s.heap.size) D cI cZ := ⟨B.exec, B.bytes, hml, findClass_of_methodNamed B.named, fun w hw => hts w (List.mem_cons_of_mem _ hw), B.notSynchronized, (fun h => by cases h), hK, fun q h => Or.inr h⟩
  have hct := lk_X10_make l hl d (by omega) a1 a2 a3 a4 a5 σ q h
  have body : Rg p l e (headSpec (wsH yL_make cL_make 7 hh_make) (rmD (d + 1) 1 6)).room s m cvs.toArray below meth c (PwN D cI cZ ax s σ) 0 0 (MQ below (QR D cI cZ (AA ax s.heap.size) ax (some (.inl k)) (LAYC, q.2)) cvs.toArray s 1 6 (AA ax s.heap.size)) 7 0 [some (.inr 0), some (.inl a1), some (.inl a2), some (.inl a3), some (.inl a4), some (.inl a5), none] [] := by
    refine rg_ops (S := ([], σ)) (S' := ([], σ)) (on := 12) ⟨B.exec, B.bytes⟩ ow_make (by decide) (L' := [some (.inr 0), some (.inl a1), some (.inl a2), some (.inl a3), some (.inl a4), some (.inl a5), none]) (st' := [.inl a5, .inl a4, .inl a3, .inl a2, .inl a1, .inr 0]) rfl ?_
    obtain ⟨r, σ'⟩ := q
    cases r with
    | inl v =>
      obtain rfl : v = k := Option.some.inj hk
      refine wr_call (M1 := m_X10_make) (as := [.inl a1, .inl a2, .inl a3, .inl a4, .inl a5]) (st := []) (z := ozI (.inl v)) (σ' := σ') (d := d + 1) hC hax rfl rfl (Nat.le_refl 1) (Nat.le_refl 6) dw_make_8 ln_12_44 im_X10_make mk_X10_make rfl rfl (Nat.le_of_ble_eq_true rfl) (Nat.le_refl _) hT hct (fun w hw => by cases hw; exact ⟨_, rfl⟩) (fun w hw => ?_) (fun E hE => by cases hE) _ rfl
      cases hw
      exact wr_iret hC (by decide) (by decide) dw_make_11 B.returns
    | inr E =>
      have hk2 : (if E ∈ ([0, 1, 2] : List Nat) then some (cdE E) else none) = some k := hk
      have hE : E ∈ ([0, 1, 2] : List Nat) := by
        by_cases z : E ∈ ([0, 1, 2] : List Nat)
        · exact z
        · rw [if_neg z] at hk2; cases hk2
      rw [if_pos hE] at hk2
      obtain rfl : cdE E = k := Option.some.inj hk2
      refine wr_call (M1 := m_X10_make) (as := [.inl a1, .inl a2, .inl a3, .inl a4, .inl a5]) (st := []) (z := ozI (.inr E)) (σ' := σ') (d := d + 1) hC hax rfl rfl (Nat.le_refl 1) (Nat.le_refl 6) dw_make_8 ln_12_44 im_X10_make mk_X10_make rfl rfl (Nat.le_of_ble_eq_true rfl) (Nat.le_refl _) hT hct (fun w hw => by cases hw) (fun w hw => by cases hw) (fun E2 hE2 H1 locs1 ls crest ce q9 hP1 hL1 hce hcv hcl => ?_) _ rfl
      cases hE2
      rcases List.mem_cons.mp hE with hE9 | hE
      · obtain rfl : E = 0 := hE9
        exact wr_exc (E := 0) (k := cdE 0) (j := 6) (n := 2) (ix := 15) hC hN hP1 hL1 (Nat.le_of_ble_eq_true rfl) hce hcv hcl [] ⟨0, 11, 12, 13⟩ [⟨0, 11, 17, 16⟩, ⟨0, 11, 22, 19⟩] (htab.trans rfl) (fun z hz => by cases hz) (by decide) (by decide) clw0 rfl (Or.inl ⟨rfl, dw_make_12⟩) dw_make_14 (by decide +kernel) dw_make_16 (cdE_in _) B.returns
      rcases List.mem_cons.mp hE with hE9 | hE
      · obtain rfl : E = 1 := hE9
        exact wr_exc (E := 1) (k := cdE 1) (j := 6) (n := 2) (ix := 18) hC hN hP1 hL1 (Nat.le_of_ble_eq_true rfl) hce hcv hcl [⟨0, 11, 12, 13⟩] ⟨0, 11, 17, 16⟩ [⟨0, 11, 22, 19⟩] (htab.trans rfl) (fun z hz => by rcases List.mem_cons.mp hz with rfl | hz; exact ⟨by decide, exN 0, clw0, hN 1 0 (by decide) (by decide) (by decide)⟩; cases hz) (by decide) (by decide) clw1 rfl (Or.inl ⟨rfl, dw_make_17⟩) dw_make_19 (by decide +kernel) dw_make_21 (cdE_in _) B.returns
      rcases List.mem_cons.mp hE with hE9 | hE
      · obtain rfl : E = 2 := hE9
        exact wr_exc (E := 2) (k := cdE 2) (j := 6) (n := 2) (ix := 21) hC hN hP1 hL1 (Nat.le_of_ble_eq_true rfl) hce hcv hcl [⟨0, 11, 12, 13⟩, ⟨0, 11, 17, 16⟩] ⟨0, 11, 22, 19⟩ [] (htab.trans rfl) (fun z hz => by rcases List.mem_cons.mp hz with rfl | hz; exact ⟨by decide, exN 0, clw0, hN 2 0 (by decide) (by decide) (by decide)⟩; rcases List.mem_cons.mp hz with rfl | hz; exact ⟨by decide, exN 1, clw1, hN 2 1 (by decide) (by decide) (by decide)⟩; cases hz) (by decide) (by decide) clw2 rfl (Or.inl ⟨rfl, dw_make_22⟩) dw_make_24 (by decide +kernel) dw_make_26 (cdE_in _) B.returns
      cases hE
  have hw := body ax s.heap [] _ [] ⟨rfl, hP, ⟨hDd.1, fun k q hk => Or.inl (List.mem_of_getElem? (mkW_adr hax hk))⟩, va_S.rf, hax, hσ, List.prefix_rfl⟩ (ent_lrs hv (Nat.le_of_ble_eq_true rfl)) trivial
  rw [lg_entry_eq]
  exact hw
def hh_either : List (Nat × Nat × Nat × Nat) := [(0, 6, 7, 13), (0, 6, 11, 16), (0, 6, 15, 19)]
theorem cw_either : Cond.codeWith yL_either cL_either 4 (some .int) hh_either ∈ TB := tb_at 746 (by decide +kernel) (by decide +kernel)
theorem sw_either : Cond.static yL_either ∈ TB := tb_at 745 (by decide +kernel) (by decide +kernel)
theorem dw_either_3 : decode cL_either 3 = .ok (.invokevirtual 47, 3) := by decide +kernel
theorem dw_either_6 : decode cL_either 6 = .ok (.ireturn, 1) := by decide +kernel
theorem dw_either_7 : decode cL_either 7 = .ok (.astore_n 3, 1) := by decide +kernel
theorem dw_either_8 : decode cL_either 8 = .ok (.ldc 15, 2) := by decide +kernel
theorem dw_either_10 : decode cL_either 10 = .ok (.ireturn, 1) := by decide +kernel
theorem dw_either_11 : decode cL_either 11 = .ok (.astore_n 3, 1) := by decide +kernel
theorem dw_either_12 : decode cL_either 12 = .ok (.ldc 18, 2) := by decide +kernel
theorem dw_either_14 : decode cL_either 14 = .ok (.ireturn, 1) := by decide +kernel
theorem dw_either_15 : decode cL_either 15 = .ok (.astore_n 3, 1) := by decide +kernel
theorem dw_either_16 : decode cL_either 16 = .ok (.ldc 21, 2) := by decide +kernel
theorem dw_either_18 : decode cL_either 18 = .ok (.ireturn, 1) := by decide +kernel
theorem ow_either : oks 12 cL_either 0 [(.aload_n 0, 1, (0, 0, 0)), (.iload_n 1, 1, (0, 0, 0)), (.iload_n 2, 1, (0, 0, 0))] = true ∧ plen 0 [(.aload_n 0, 1, (0, 0, 0)), (.iload_n 1, 1, (0, 0, 0)), (.iload_n 2, 1, (0, 0, 0))] = 3 := by decide +kernel
theorem wc_either (l : Launch) (hl : l.stackTraces = false) (d : Nat) (hd : 9 ≤ d) (a1 : Int) (a2 : Int) (σ : Sg) (k : Int) (q : ((Int ⊕ Nat) × Sg)) (h : F_X10_either a1 a2 σ = some q) (hk : kL [0, 1, 2] q.1 = some k) : CTW l d 1 yL_either (wsH yL_either cL_either 4 hh_either) [.inr 0, .inl a1, .inl a2] σ k q.2 := by
  obtain ⟨d, rfl⟩ : ∃ e, d = e + 1 := ⟨d - 1, by omega⟩
  intro D cI cZ ax sz cvs hv hax hσ
  refine va_MetW (cc := cL_either) (maxL := 4) (ret := some .int) (hh := hh_either) (by decide +kernel) rfl ?_
  intro p e s m args below meth c s₁ B hml hp
  obtain ⟨rfl, ⟨hsz, hP, hK, hDd⟩, hN, hT⟩ := hp
  subst hsz
  have hts := atoms_spec (ws := wsH yL_either cL_either 4 hh_either) B.pre
  have htab := vx_table (x := yL_either) B (hts _ List.mem_cons_self)
  have hC : Cx 12 cL_either 4 false p s m cvs.toArray meth c (AA ax s.heap.size) D cI cZ := ⟨B.exec, B.bytes, hml, findClass_of_methodNamed B.named, fun w hw => hts w (List.mem_cons_of_mem _ hw), B.notSynchronized, (fun h => by cases h), hK, fun q h => Or.inr h⟩
  have hct := lk_X10_either l hl d (by omega) a1 a2 σ q h
  have body : Rg p l e (headSpec (wsH yL_either cL_either 4 hh_either) (rmD (d + 1) 1 6)).room s m cvs.toArray below meth c (PwN D cI cZ ax s σ) 0 0 (MQ below (QR D cI cZ (AA ax s.heap.size) ax (some (.inl k)) (LAYC, q.2)) cvs.toArray s 1 6 (AA ax s.heap.size)) 4 0 [some (.inr 0), some (.inl a1), some (.inl a2), none] [] := by
    refine rg_ops (S := ([], σ)) (S' := ([], σ)) (on := 12) ⟨B.exec, B.bytes⟩ ow_either (by decide) (L' := [some (.inr 0), some (.inl a1), some (.inl a2), none]) (st' := [.inl a2, .inl a1, .inr 0]) rfl ?_
    obtain ⟨r, σ'⟩ := q
    cases r with
    | inl v =>
      obtain rfl : v = k := Option.some.inj hk
      refine wr_call (M1 := m_X10_either) (as := [.inl a1, .inl a2]) (st := []) (z := ozI (.inl v)) (σ' := σ') (d := d + 1) hC hax rfl rfl (Nat.le_refl 1) (Nat.le_refl 6) dw_either_3 ln_12_47 im_X10_either mk_X10_either rfl rfl (Nat.le_of_ble_eq_true rfl) (Nat.le_refl _) hT hct (fun w hw => by cases hw; exact ⟨_, rfl⟩) (fun w hw => ?_) (fun E hE => by cases hE) _ rfl
      cases hw
      exact wr_iret hC (by decide) (by decide) dw_either_6 B.returns
    | inr E =>
      have hk2 : (if E ∈ ([0, 1, 2] : List Nat) then some (cdE E) else none) = some k := hk
      have hE : E ∈ ([0, 1, 2] : List Nat) := by
        by_cases z : E ∈ ([0, 1, 2] : List Nat)
        · exact z
        · rw [if_neg z] at hk2; cases hk2
      rw [if_pos hE] at hk2
      obtain rfl : cdE E = k := Option.some.inj hk2
      refine wr_call (M1 := m_X10_either) (as := [.inl a1, .inl a2]) (st := []) (z := ozI (.inr E)) (σ' := σ') (d := d + 1) hC hax rfl rfl (Nat.le_refl 1) (Nat.le_refl 6) dw_either_3 ln_12_47 im_X10_either mk_X10_either rfl rfl (Nat.le_of_ble_eq_true rfl) (Nat.le_refl _) hT hct (fun w hw => by cases hw) (fun w hw => by cases hw) (fun E2 hE2 H1 locs1 ls crest ce q9 hP1 hL1 hce hcv hcl => ?_) _ rfl
      cases hE2
      rcases List.mem_cons.mp hE with hE9 | hE
      · obtain rfl : E = 0 := hE9
        exact wr_exc (E := 0) (k := cdE 0) (j := 3) (n := 1) (ix := 15) hC hN hP1 hL1 (Nat.le_of_ble_eq_true rfl) hce hcv hcl [] ⟨0, 6, 7, 13⟩ [⟨0, 6, 11, 16⟩, ⟨0, 6, 15, 19⟩] (htab.trans rfl) (fun z hz => by cases hz) (by decide) (by decide) clw0 rfl (Or.inr ⟨rfl, 3, rfl, dw_either_7⟩) dw_either_8 (by decide +kernel) dw_either_10 (cdE_in _) B.returns
      rcases List.mem_cons.mp hE with hE9 | hE
      · obtain rfl : E = 1 := hE9
        exact wr_exc (E := 1) (k := cdE 1) (j := 3) (n := 1) (ix := 18) hC hN hP1 hL1 (Nat.le_of_ble_eq_true rfl) hce hcv hcl [⟨0, 6, 7, 13⟩] ⟨0, 6, 11, 16⟩ [⟨0, 6, 15, 19⟩] (htab.trans rfl) (fun z hz => by rcases List.mem_cons.mp hz with rfl | hz; exact ⟨by decide, exN 0, clw0, hN 1 0 (by decide) (by decide) (by decide)⟩; cases hz) (by decide) (by decide) clw1 rfl (Or.inr ⟨rfl, 3, rfl, dw_either_11⟩) dw_either_12 (by decide +kernel) dw_either_14 (cdE_in _) B.returns
      rcases List.mem_cons.mp hE with hE9 | hE
      · obtain rfl : E = 2 := hE9
        exact wr_exc (E := 2) (k := cdE 2) (j := 3) (n := 1) (ix := 21) hC hN hP1 hL1 (Nat.le_of_ble_eq_true rfl) hce hcv hcl [⟨0, 6, 7, 13⟩, ⟨0, 6, 11, 16⟩] ⟨0, 6, 15, 19⟩ [] (htab.trans rfl) (fun z hz => by rcases List.mem_cons.mp hz with rfl | hz; exact ⟨by decide, exN 0, clw0, hN 2 0 (by decide) (by decide) (by decide)⟩; rcases List.mem_cons.mp hz with rfl | hz; exact ⟨by decide, exN 1, clw1, hN 2 1 (by decide) (by decide) (by decide)⟩; cases hz) (by decide) (by decide) clw2 rfl (Or.inr ⟨rfl, 3, rfl, dw_either_15⟩) dw_either_16 (by decide +kernel) dw_either_18 (cdE_in _) B.returns
      cases hE
  have hw := body ax s.heap [] _ [] ⟨rfl, hP, ⟨hDd.1, fun k q hk => Or.inl (List.mem_of_getElem? (mkW_adr hax hk))⟩, va_S.rf, hax, hσ, List.prefix_rfl⟩ (ent_lrs hv (Nat.le_of_ble_eq_true rfl)) trivial
  rw [lg_entry_eq]
  exact hw
def hh_view : List (Nat × Nat × Nat × Nat) := [(0, 6, 7, 13), (0, 6, 11, 16), (0, 6, 15, 19)]
theorem cw_view : Cond.codeWith yL_view cL_view 4 (some .int) hh_view ∈ TB := tb_at 762 (by decide +kernel) (by decide +kernel)
theorem sw_view : Cond.static yL_view ∈ TB := tb_at 761 (by decide +kernel) (by decide +kernel)
theorem dw_view_3 : decode cL_view 3 = .ok (.invokevirtual 50, 3) := by decide +kernel
theorem dw_view_6 : decode cL_view 6 = .ok (.ireturn, 1) := by decide +kernel
theorem dw_view_7 : decode cL_view 7 = .ok (.astore_n 3, 1) := by decide +kernel
theorem dw_view_8 : decode cL_view 8 = .ok (.ldc 15, 2) := by decide +kernel
theorem dw_view_10 : decode cL_view 10 = .ok (.ireturn, 1) := by decide +kernel
theorem dw_view_11 : decode cL_view 11 = .ok (.astore_n 3, 1) := by decide +kernel
theorem dw_view_12 : decode cL_view 12 = .ok (.ldc 18, 2) := by decide +kernel
theorem dw_view_14 : decode cL_view 14 = .ok (.ireturn, 1) := by decide +kernel
theorem dw_view_15 : decode cL_view 15 = .ok (.astore_n 3, 1) := by decide +kernel
theorem dw_view_16 : decode cL_view 16 = .ok (.ldc 21, 2) := by decide +kernel
theorem dw_view_18 : decode cL_view 18 = .ok (.ireturn, 1) := by decide +kernel
theorem ow_view : oks 12 cL_view 0 [(.aload_n 0, 1, (0, 0, 0)), (.iload_n 1, 1, (0, 0, 0)), (.iload_n 2, 1, (0, 0, 0))] = true ∧ plen 0 [(.aload_n 0, 1, (0, 0, 0)), (.iload_n 1, 1, (0, 0, 0)), (.iload_n 2, 1, (0, 0, 0))] = 3 := by decide +kernel
theorem wc_view (l : Launch) (hl : l.stackTraces = false) (d : Nat) (hd : 9 ≤ d) (a1 : Int) (a2 : Int) (σ : Sg) (k : Int) (q : ((Int ⊕ Nat) × Sg)) (h : F_X10_view a1 a2 σ = some q) (hk : kL [0, 1, 2] q.1 = some k) : CTW l d 1 yL_view (wsH yL_view cL_view 4 hh_view) [.inr 0, .inl a1, .inl a2] σ k q.2 := by
  obtain ⟨d, rfl⟩ : ∃ e, d = e + 1 := ⟨d - 1, by omega⟩
  intro D cI cZ ax sz cvs hv hax hσ
  refine va_MetW (cc := cL_view) (maxL := 4) (ret := some .int) (hh := hh_view) (by decide +kernel) rfl ?_
  intro p e s m args below meth c s₁ B hml hp
  obtain ⟨rfl, ⟨hsz, hP, hK, hDd⟩, hN, hT⟩ := hp
  subst hsz
  have hts := atoms_spec (ws := wsH yL_view cL_view 4 hh_view) B.pre
  have htab := vx_table (x := yL_view) B (hts _ List.mem_cons_self)
  have hC : Cx 12 cL_view 4 false p s m cvs.toArray meth c (AA ax s.heap.size) D cI cZ := ⟨B.exec, B.bytes, hml, findClass_of_methodNamed B.named, fun w hw => hts w (List.mem_cons_of_mem _ hw), B.notSynchronized, (fun h => by cases h), hK, fun q h => Or.inr h⟩
  have hct := lk_X10_view l hl d (by omega) a1 a2 σ q h
  have body : Rg p l e (headSpec (wsH yL_view cL_view 4 hh_view) (rmD (d + 1) 1 6)).room s m cvs.toArray below meth c (PwN D cI cZ ax s σ) 0 0 (MQ below (QR D cI cZ (AA ax s.heap.size) ax (some (.inl k)) (LAYC, q.2)) cvs.toArray s 1 6 (AA ax s.heap.size)) 4 0 [some (.inr 0), some (.inl a1), some (.inl a2), none] [] := by
    refine rg_ops (S := ([], σ)) (S' := ([], σ)) (on := 12) ⟨B.exec, B.bytes⟩ ow_view (by decide) (L' := [some (.inr 0), some (.inl a1), some (.inl a2), none]) (st' := [.inl a2, .inl a1, .inr 0]) rfl ?_
    obtain ⟨r, σ'⟩ := q
    cases r with
    | inl v =>
      obtain rfl : v = k := Option.some.inj hk
      refine wr_call (M1 := m_X10_view) (as := [.inl a1, .inl a2]) (st := []) (z := ozI (.inl v)) (σ' := σ') (d := d + 1) hC hax rfl rfl (Nat.le_refl 1) (Nat.le_refl 6) dw_view_3 ln_12_50 im_X10_view mk_X10_view rfl rfl (Nat.le_of_ble_eq_true rfl) (Nat.le_refl _) hT hct (fun w hw => by cases hw; exact ⟨_, rfl⟩) (fun w hw => ?_) (fun E hE => by cases hE) _ rfl
      cases hw
      exact wr_iret hC (by decide) (by decide) dw_view_6 B.returns
    | inr E =>
      have hk2 : (if E ∈ ([0, 1, 2] : List Nat) then some (cdE E) else none) = some k := hk
      have hE : E ∈ ([0, 1, 2] : List Nat) := by
        by_cases z : E ∈ ([0, 1, 2] : List Nat)
        · exact z
        · rw [if_neg z] at hk2; cases hk2
      rw [if_pos hE] at hk2
      obtain rfl : cdE E = k := Option.some.inj hk2
      refine wr_call (M1 := m_X10_view) (as := [.inl a1, .inl a2]) (st := []) (z := ozI (.inr E)) (σ' := σ') (d := d + 1) hC hax rfl rfl (Nat.le_refl 1) (Nat.le_refl 6) dw_view_3 ln_12_50 im_X10_view mk_X10_view rfl rfl (Nat.le_of_ble_eq_true rfl) (Nat.le_refl _) hT hct (fun w hw => by cases hw) (fun w hw => by cases hw) (fun E2 hE2 H1 locs1 ls crest ce q9 hP1 hL1 hce hcv hcl => ?_) _ rfl
      cases hE2
      rcases List.mem_cons.mp hE with hE9 | hE
      · obtain rfl : E = 0 := hE9
        exact wr_exc (E := 0) (k := cdE 0) (j := 3) (n := 1) (ix := 15) hC hN hP1 hL1 (Nat.le_of_ble_eq_true rfl) hce hcv hcl [] ⟨0, 6, 7, 13⟩ [⟨0, 6, 11, 16⟩, ⟨0, 6, 15, 19⟩] (htab.trans rfl) (fun z hz => by cases hz) (by decide) (by decide) clw0 rfl (Or.inr ⟨rfl, 3, rfl, dw_view_7⟩) dw_view_8 (by decide +kernel) dw_view_10 (cdE_in _) B.returns
      rcases List.mem_cons.mp hE with hE9 | hE
      · obtain rfl : E = 1 := hE9
        exact wr_exc (E := 1) (k := cdE 1) (j := 3) (n := 1) (ix := 18) hC hN hP1 hL1 (Nat.le_of_ble_eq_true rfl) hce hcv hcl [⟨0, 6, 7, 13⟩] ⟨0, 6, 11, 16⟩ [⟨0, 6, 15, 19⟩] (htab.trans rfl) (fun z hz => by rcases List.mem_cons.mp hz with rfl | hz; exact ⟨by decide, exN 0, clw0, hN 1 0 (by decide) (by decide) (by decide)⟩; cases hz) (by decide) (by decide) clw1 rfl (Or.inr ⟨rfl, 3, rfl, dw_view_11⟩) dw_view_12 (by decide +kernel) dw_view_14 (cdE_in _) B.returns
      rcases List.mem_cons.mp hE with hE9 | hE
      · obtain rfl : E = 2 := hE9
        exact wr_exc (E := 2) (k := cdE 2) (j := 3) (n := 1) (ix := 21) hC hN hP1 hL1 (Nat.le_of_ble_eq_true rfl) hce hcv hcl [⟨0, 6, 7, 13⟩, ⟨0, 6, 11, 16⟩] ⟨0, 6, 15, 19⟩ [] (htab.trans rfl) (fun z hz => by rcases List.mem_cons.mp hz with rfl | hz; exact ⟨by decide, exN 0, clw0, hN 2 0 (by decide) (by decide) (by decide)⟩; rcases List.mem_cons.mp hz with rfl | hz; exact ⟨by decide, exN 1, clw1, hN 2 1 (by decide) (by decide) (by decide)⟩; cases hz) (by decide) (by decide) clw2 rfl (Or.inr ⟨rfl, 3, rfl, dw_view_15⟩) dw_view_16 (by decide +kernel) dw_view_18 (cdE_in _) B.returns
      cases hE
  have hw := body ax s.heap [] _ [] ⟨rfl, hP, ⟨hDd.1, fun k q hk => Or.inl (List.mem_of_getElem? (mkW_adr hax hk))⟩, va_S.rf, hax, hσ, List.prefix_rfl⟩ (ent_lrs hv (Nat.le_of_ble_eq_true rfl)) trivial
  rw [lg_entry_eq]
  exact hw
def hh_list : List (Nat × Nat × Nat × Nat) := [(0, 9, 10, 13), (0, 9, 15, 16), (0, 9, 20, 19)]
theorem cw_list : Cond.codeWith yL_list cL_list 6 (some .int) hh_list ∈ TB := tb_at 776 (by decide +kernel) (by decide +kernel)
theorem sw_list : Cond.static yL_list ∈ TB := tb_at 775 (by decide +kernel) (by decide +kernel)
theorem dw_list_6 : decode cL_list 6 = .ok (.invokevirtual 53, 3) := by decide +kernel
theorem dw_list_9 : decode cL_list 9 = .ok (.ireturn, 1) := by decide +kernel
theorem dw_list_10 : decode cL_list 10 = .ok (.astore 5, 2) := by decide +kernel
theorem dw_list_12 : decode cL_list 12 = .ok (.ldc 15, 2) := by decide +kernel
theorem dw_list_14 : decode cL_list 14 = .ok (.ireturn, 1) := by decide +kernel
theorem dw_list_15 : decode cL_list 15 = .ok (.astore 5, 2) := by decide +kernel
theorem dw_list_17 : decode cL_list 17 = .ok (.ldc 18, 2) := by decide +kernel
theorem dw_list_19 : decode cL_list 19 = .ok (.ireturn, 1) := by decide +kernel
theorem dw_list_20 : decode cL_list 20 = .ok (.astore 5, 2) := by decide +kernel
theorem dw_list_22 : decode cL_list 22 = .ok (.ldc 21, 2) := by decide +kernel
theorem dw_list_24 : decode cL_list 24 = .ok (.ireturn, 1) := by decide +kernel
theorem ow_list : oks 12 cL_list 0 [(.aload_n 0, 1, (0, 0, 0)), (.iload_n 1, 1, (0, 0, 0)), (.iload_n 2, 1, (0, 0, 0)), (.iload_n 3, 1, (0, 0, 0)), (.iload 4, 2, (0, 0, 0))] = true ∧ plen 0 [(.aload_n 0, 1, (0, 0, 0)), (.iload_n 1, 1, (0, 0, 0)), (.iload_n 2, 1, (0, 0, 0)), (.iload_n 3, 1, (0, 0, 0)), (.iload 4, 2, (0, 0, 0))] = 6 := by decide +kernel
theorem wc_list (l : Launch) (hl : l.stackTraces = false) (d : Nat) (hd : 9 ≤ d) (a1 : Int) (a2 : Int) (a3 : Int) (a4 : Int) (σ : Sg) (k : Int) (q : ((Int ⊕ Nat) × Sg)) (h : F_X10_list a1 a2 a3 a4 σ = some q) (hk : kL [0, 1, 2] q.1 = some k) : CTW l d 1 yL_list (wsH yL_list cL_list 6 hh_list) [.inr 0, .inl a1, .inl a2, .inl a3, .inl a4] σ k q.2 := by
  obtain ⟨d, rfl⟩ : ∃ e, d = e + 1 := ⟨d - 1, by omega⟩
  intro D cI cZ ax sz cvs hv hax hσ
  refine va_MetW (cc := cL_list) (maxL := 6) (ret := some .int) (hh := hh_list) (by decide +kernel) rfl ?_
  intro p e s m args below meth c s₁ B hml hp
  obtain ⟨rfl, ⟨hsz, hP, hK, hDd⟩, hN, hT⟩ := hp
  subst hsz
  have hts := atoms_spec (ws := wsH yL_list cL_list 6 hh_list) B.pre
  have htab := vx_table (x := yL_list) B (hts _ List.mem_cons_self)
  have hC : Cx 12 cL_list 6 false p s m cvs.toArray meth c (AA ax s.heap.size) D cI cZ := ⟨B.exec, B.bytes, hml, findClass_of_methodNamed B.named, fun w hw => hts w (List.mem_cons_of_mem _ hw), B.notSynchronized, (fun h => by cases h), hK, fun q h => Or.inr h⟩
  have hct := lk_X10_list l hl d (by omega) a1 a2 a3 a4 σ q h
  have body : Rg p l e (headSpec (wsH yL_list cL_list 6 hh_list) (rmD (d + 1) 1 6)).room s m cvs.toArray below meth c (PwN D cI cZ ax s σ) 0 0 (MQ below (QR D cI cZ (AA ax s.heap.size) ax (some (.inl k)) (LAYC, q.2)) cvs.toArray s 1 6 (AA ax s.heap.size)) 6 0 [some (.inr 0), some (.inl a1), some (.inl a2), some (.inl a3), some (.inl a4), none] [] := by
    refine rg_ops (S := ([], σ)) (S' := ([], σ)) (on := 12) ⟨B.exec, B.bytes⟩ ow_list (by decide) (L' := [some (.inr 0), some (.inl a1), some (.inl a2), some (.inl a3), some (.inl a4), none]) (st' := [.inl a4, .inl a3, .inl a2, .inl a1, .inr 0]) rfl ?_
    obtain ⟨r, σ'⟩ := q
    cases r with
    | inl v =>
      obtain rfl : v = k := Option.some.inj hk
      refine wr_call (M1 := m_X10_list) (as := [.inl a1, .inl a2, .inl a3, .inl a4]) (st := []) (z := ozI (.inl v)) (σ' := σ') (d := d + 1) hC hax rfl rfl (Nat.le_refl 1) (Nat.le_refl 6) dw_list_6 ln_12_53 im_X10_list mk_X10_list rfl rfl (Nat.le_of_ble_eq_true rfl) (Nat.le_refl _) hT hct (fun w hw => by cases hw; exact ⟨_, rfl⟩) (fun w hw => ?_) (fun E hE => by cases hE) _ rfl
      cases hw
      exact wr_iret hC (by decide) (by decide) dw_list_9 B.returns
    | inr E =>
      have hk2 : (if E ∈ ([0, 1, 2] : List Nat) then some (cdE E) else none) = some k := hk
      have hE : E ∈ ([0, 1, 2] : List Nat) := by
        by_cases z : E ∈ ([0, 1, 2] : List Nat)
        · exact z
        · rw [if_neg z] at hk2; cases hk2
      rw [if_pos hE] at hk2
      obtain rfl : cdE E = k := Option.some.inj hk2
      refine wr_call (M1 := m_X10_list) (as := [.inl a1, .inl a2, .inl a3, .inl a4]) (st := []) (z := ozI (.inr E)) (σ' := σ') (d := d + 1) hC hax rfl rfl (Nat.le_refl 1) (Nat.le_refl 6) dw_list_6 ln_12_53 im_X10_list mk_X10_list rfl rfl (Nat.le_of_ble_eq_true rfl) (Nat.le_refl _) hT hct (fun w hw => by cases hw) (fun w hw => by cases hw) (fun E2 hE2 H1 locs1 ls crest ce q9 hP1 hL1 hce hcv hcl => ?_) _ rfl
      cases hE2
      rcases List.mem_cons.mp hE with hE9 | hE
      · obtain rfl : E = 0 := hE9
        exact wr_exc (E := 0) (k := cdE 0) (j := 5) (n := 2) (ix := 15) hC hN hP1 hL1 (Nat.le_of_ble_eq_true rfl) hce hcv hcl [] ⟨0, 9, 10, 13⟩ [⟨0, 9, 15, 16⟩, ⟨0, 9, 20, 19⟩] (htab.trans rfl) (fun z hz => by cases hz) (by decide) (by decide) clw0 rfl (Or.inl ⟨rfl, dw_list_10⟩) dw_list_12 (by decide +kernel) dw_list_14 (cdE_in _) B.returns
      rcases List.mem_cons.mp hE with hE9 | hE
      · obtain rfl : E = 1 := hE9
        exact wr_exc (E := 1) (k := cdE 1) (j := 5) (n := 2) (ix := 18) hC hN hP1 hL1 (Nat.le_of_ble_eq_true rfl) hce hcv hcl [⟨0, 9, 10, 13⟩] ⟨0, 9, 15, 16⟩ [⟨0, 9, 20, 19⟩] (htab.trans rfl) (fun z hz => by rcases List.mem_cons.mp hz with rfl | hz; exact ⟨by decide, exN 0, clw0, hN 1 0 (by decide) (by decide) (by decide)⟩; cases hz) (by decide) (by decide) clw1 rfl (Or.inl ⟨rfl, dw_list_15⟩) dw_list_17 (by decide +kernel) dw_list_19 (cdE_in _) B.returns
      rcases List.mem_cons.mp hE with hE9 | hE
      · obtain rfl : E = 2 := hE9
        exact wr_exc (E := 2) (k := cdE 2) (j := 5) (n := 2) (ix := 21) hC hN hP1 hL1 (Nat.le_of_ble_eq_true rfl) hce hcv hcl [⟨0, 9, 10, 13⟩, ⟨0, 9, 15, 16⟩] ⟨0, 9, 20, 19⟩ [] (htab.trans rfl) (fun z hz => by rcases List.mem_cons.mp hz with rfl | hz; exact ⟨by decide, exN 0, clw0, hN 2 0 (by decide) (by decide) (by decide)⟩; rcases List.mem_cons.mp hz with rfl | hz; exact ⟨by decide, exN 1, clw1, hN 2 1 (by decide) (by decide) (by decide)⟩; cases hz) (by decide) (by decide) clw2 rfl (Or.inl ⟨rfl, dw_list_20⟩) dw_list_22 (by decide +kernel) dw_list_24 (cdE_in _) B.returns
      cases hE
  have hw := body ax s.heap [] _ [] ⟨rfl, hP, ⟨hDd.1, fun k q hk => Or.inl (List.mem_of_getElem? (mkW_adr hax hk))⟩, va_S.rf, hax, hσ, List.prefix_rfl⟩ (ent_lrs hv (Nat.le_of_ble_eq_true rfl)) trivial
  rw [lg_entry_eq]
  exact hw
def hh_setView : List (Nat × Nat × Nat × Nat) := [(0, 11, 12, 13), (0, 11, 17, 16)]
theorem cw_setView : Cond.codeWith yL_setView cL_setView 7 (some .int) hh_setView ∈ TB := tb_at 783 (by decide +kernel) (by decide +kernel)
theorem sw_setView : Cond.static yL_setView ∈ TB := tb_at 782 (by decide +kernel) (by decide +kernel)
theorem dw_setView_8 : decode cL_setView 8 = .ok (.invokevirtual 56, 3) := by decide +kernel
theorem dw_setView_11 : decode cL_setView 11 = .ok (.ireturn, 1) := by decide +kernel
theorem dw_setView_12 : decode cL_setView 12 = .ok (.astore 6, 2) := by decide +kernel
theorem dw_setView_14 : decode cL_setView 14 = .ok (.ldc 15, 2) := by decide +kernel
theorem dw_setView_16 : decode cL_setView 16 = .ok (.ireturn, 1) := by decide +kernel
theorem dw_setView_17 : decode cL_setView 17 = .ok (.astore 6, 2) := by decide +kernel
theorem dw_setView_19 : decode cL_setView 19 = .ok (.ldc 18, 2) := by decide +kernel
theorem dw_setView_21 : decode cL_setView 21 = .ok (.ireturn, 1) := by decide +kernel
theorem ow_setView : oks 12 cL_setView 0 [(.aload_n 0, 1, (0, 0, 0)), (.iload_n 1, 1, (0, 0, 0)), (.iload_n 2, 1, (0, 0, 0)), (.iload_n 3, 1, (0, 0, 0)), (.iload 4, 2, (0, 0, 0)), (.iload 5, 2, (0, 0, 0))] = true ∧ plen 0 [(.aload_n 0, 1, (0, 0, 0)), (.iload_n 1, 1, (0, 0, 0)), (.iload_n 2, 1, (0, 0, 0)), (.iload_n 3, 1, (0, 0, 0)), (.iload 4, 2, (0, 0, 0)), (.iload 5, 2, (0, 0, 0))] = 8 := by decide +kernel
theorem wc_setView (l : Launch) (hl : l.stackTraces = false) (d : Nat) (hd : 8 ≤ d) (a1 : Int) (a2 : Int) (a3 : Int) (a4 : Int) (a5 : Int) (σ : Sg) (k : Int) (q : ((Int ⊕ Nat) × Sg)) (h : F_X10_setView a1 a2 a3 a4 a5 σ = some q) (hk : kL [0, 1] q.1 = some k) : CTW l d 1 yL_setView (wsH yL_setView cL_setView 7 hh_setView) [.inr 0, .inl a1, .inl a2, .inl a3, .inl a4, .inl a5] σ k q.2 := by
  obtain ⟨d, rfl⟩ : ∃ e, d = e + 1 := ⟨d - 1, by omega⟩
  intro D cI cZ ax sz cvs hv hax hσ
  refine va_MetW (cc := cL_setView) (maxL := 7) (ret := some .int) (hh := hh_setView) (by decide +kernel) rfl ?_
  intro p e s m args below meth c s₁ B hml hp
  obtain ⟨rfl, ⟨hsz, hP, hK, hDd⟩, hN, hT⟩ := hp
  subst hsz
  have hts := atoms_spec (ws := wsH yL_setView cL_setView 7 hh_setView) B.pre
  have htab := vx_table (x := yL_setView) B (hts _ List.mem_cons_self)
  have hC : Cx 12 cL_setView 7 false p s m cvs.toArray meth c (AA ax s.heap.size) D cI cZ := ⟨B.exec, B.bytes, hml, findClass_of_methodNamed B.named, fun w hw => hts w (List.mem_cons_of_mem _ hw), B.notSynchronized, (fun h => by cases h), hK, fun q h => Or.inr h⟩
  have hct := lk_X10_setView l hl d (by omega) a1 a2 a3 a4 a5 σ q h
  have body : Rg p l e (headSpec (wsH yL_setView cL_setView 7 hh_setView) (rmD (d + 1) 1 6)).room s m cvs.toArray below meth c (PwN D cI cZ ax s σ) 0 0 (MQ below (QR D cI cZ (AA ax s.heap.size) ax (some (.inl k)) (LAYC, q.2)) cvs.toArray s 1 6 (AA ax s.heap.size)) 7 0 [some (.inr 0), some (.inl a1), some (.inl a2), some (.inl a3), some (.inl a4), some (.inl a5), none] [] := by
    refine rg_ops (S := ([], σ)) (S' := ([], σ)) (on := 12) ⟨B.exec, B.bytes⟩ ow_setView (by decide) (L' := [some (.inr 0), some (.inl a1), some (.inl a2), some (.inl a3), some (.inl a4), some (.inl a5), none]) (st' := [.inl a5, .inl a4, .inl a3, .inl a2, .inl a1, .inr 0]) rfl ?_
    obtain ⟨r, σ'⟩ := q
    cases r with
    | inl v =>
      obtain rfl : v = k := Option.some.inj hk
      refine wr_call (M1 := m_X10_setView) (as := [.inl a1, .inl a2, .inl a3, .inl a4, .inl a5]) (st := []) (z := ozI (.inl v)) (σ' := σ') (d := d + 1) hC hax rfl rfl (Nat.le_refl 1) (Nat.le_refl 6) dw_setView_8 ln_12_56 im_X10_setView mk_X10_setView rfl rfl (Nat.le_of_ble_eq_true rfl) (Nat.le_refl _) hT hct (fun w hw => by cases hw; exact ⟨_, rfl⟩) (fun w hw => ?_) (fun E hE => by cases hE) _ rfl
      cases hw
      exact wr_iret hC (by decide) (by decide) dw_setView_11 B.returns
    | inr E =>
      have hk2 : (if E ∈ ([0, 1] : List Nat) then some (cdE E) else none) = some k := hk
      have hE : E ∈ ([0, 1] : List Nat) := by
        by_cases z : E ∈ ([0, 1] : List Nat)
        · exact z
        · rw [if_neg z] at hk2; cases hk2
      rw [if_pos hE] at hk2
      obtain rfl : cdE E = k := Option.some.inj hk2
      refine wr_call (M1 := m_X10_setView) (as := [.inl a1, .inl a2, .inl a3, .inl a4, .inl a5]) (st := []) (z := ozI (.inr E)) (σ' := σ') (d := d + 1) hC hax rfl rfl (Nat.le_refl 1) (Nat.le_refl 6) dw_setView_8 ln_12_56 im_X10_setView mk_X10_setView rfl rfl (Nat.le_of_ble_eq_true rfl) (Nat.le_refl _) hT hct (fun w hw => by cases hw) (fun w hw => by cases hw) (fun E2 hE2 H1 locs1 ls crest ce q9 hP1 hL1 hce hcv hcl => ?_) _ rfl
      cases hE2
      rcases List.mem_cons.mp hE with hE9 | hE
      · obtain rfl : E = 0 := hE9
        exact wr_exc (E := 0) (k := cdE 0) (j := 6) (n := 2) (ix := 15) hC hN hP1 hL1 (Nat.le_of_ble_eq_true rfl) hce hcv hcl [] ⟨0, 11, 12, 13⟩ [⟨0, 11, 17, 16⟩] (htab.trans rfl) (fun z hz => by cases hz) (by decide) (by decide) clw0 rfl (Or.inl ⟨rfl, dw_setView_12⟩) dw_setView_14 (by decide +kernel) dw_setView_16 (cdE_in _) B.returns
      rcases List.mem_cons.mp hE with hE9 | hE
      · obtain rfl : E = 1 := hE9
        exact wr_exc (E := 1) (k := cdE 1) (j := 6) (n := 2) (ix := 18) hC hN hP1 hL1 (Nat.le_of_ble_eq_true rfl) hce hcv hcl [⟨0, 11, 12, 13⟩] ⟨0, 11, 17, 16⟩ [] (htab.trans rfl) (fun z hz => by rcases List.mem_cons.mp hz with rfl | hz; exact ⟨by decide, exN 0, clw0, hN 1 0 (by decide) (by decide) (by decide)⟩; cases hz) (by decide) (by decide) clw1 rfl (Or.inl ⟨rfl, dw_setView_17⟩) dw_setView_19 (by decide +kernel) dw_setView_21 (cdE_in _) B.returns
      cases hE
  have hw := body ax s.heap [] _ [] ⟨rfl, hP, ⟨hDd.1, fun k q hk => Or.inl (List.mem_of_getElem? (mkW_adr hax hk))⟩, va_S.rf, hax, hσ, List.prefix_rfl⟩ (ent_lrs hv (Nat.le_of_ble_eq_true rfl)) trivial
  rw [lg_entry_eq]
  exact hw
def hh_begin : List (Nat × Nat × Nat × Nat) := [(0, 9, 10, 16)]
theorem cw_begin : Cond.codeWith yL_begin cL_begin 6 (some .int) hh_begin ∈ TB := tb_at 799 (by decide +kernel) (by decide +kernel)
theorem sw_begin : Cond.static yL_begin ∈ TB := tb_at 798 (by decide +kernel) (by decide +kernel)
theorem dw_begin_6 : decode cL_begin 6 = .ok (.invokevirtual 59, 3) := by decide +kernel
theorem dw_begin_9 : decode cL_begin 9 = .ok (.ireturn, 1) := by decide +kernel
theorem dw_begin_10 : decode cL_begin 10 = .ok (.astore 5, 2) := by decide +kernel
theorem dw_begin_12 : decode cL_begin 12 = .ok (.ldc 18, 2) := by decide +kernel
theorem dw_begin_14 : decode cL_begin 14 = .ok (.ireturn, 1) := by decide +kernel
theorem ow_begin : oks 12 cL_begin 0 [(.aload_n 0, 1, (0, 0, 0)), (.iload_n 1, 1, (0, 0, 0)), (.iload_n 2, 1, (0, 0, 0)), (.iload_n 3, 1, (0, 0, 0)), (.iload 4, 2, (0, 0, 0))] = true ∧ plen 0 [(.aload_n 0, 1, (0, 0, 0)), (.iload_n 1, 1, (0, 0, 0)), (.iload_n 2, 1, (0, 0, 0)), (.iload_n 3, 1, (0, 0, 0)), (.iload 4, 2, (0, 0, 0))] = 6 := by decide +kernel
theorem wc_begin (l : Launch) (hl : l.stackTraces = false) (d : Nat) (hd : 8 ≤ d) (a1 : Int) (a2 : Int) (a3 : Int) (a4 : Int) (σ : Sg) (k : Int) (q : ((Int ⊕ Nat) × Sg)) (h : F_X10_begin a1 a2 a3 a4 σ = some q) (hk : kL [1] q.1 = some k) : CTW l d 1 yL_begin (wsH yL_begin cL_begin 6 hh_begin) [.inr 0, .inl a1, .inl a2, .inl a3, .inl a4] σ k q.2 := by
  obtain ⟨d, rfl⟩ : ∃ e, d = e + 1 := ⟨d - 1, by omega⟩
  intro D cI cZ ax sz cvs hv hax hσ
  refine va_MetW (cc := cL_begin) (maxL := 6) (ret := some .int) (hh := hh_begin) (by decide +kernel) rfl ?_
  intro p e s m args below meth c s₁ B hml hp
  obtain ⟨rfl, ⟨hsz, hP, hK, hDd⟩, hN, hT⟩ := hp
  subst hsz
  have hts := atoms_spec (ws := wsH yL_begin cL_begin 6 hh_begin) B.pre
  have htab := vx_table (x := yL_begin) B (hts _ List.mem_cons_self)
  have hC : Cx 12 cL_begin 6 false p s m cvs.toArray meth c (AA ax s.heap.size) D cI cZ := ⟨B.exec, B.bytes, hml, findClass_of_methodNamed B.named, fun w hw => hts w (List.mem_cons_of_mem _ hw), B.notSynchronized, (fun h => by cases h), hK, fun q h => Or.inr h⟩
  have hct := lk_X10_begin l hl d (by omega) a1 a2 a3 a4 σ q h
  have body : Rg p l e (headSpec (wsH yL_begin cL_begin 6 hh_begin) (rmD (d + 1) 1 6)).room s m cvs.toArray below meth c (PwN D cI cZ ax s σ) 0 0 (MQ below (QR D cI cZ (AA ax s.heap.size) ax (some (.inl k)) (LAYC, q.2)) cvs.toArray s 1 6 (AA ax s.heap.size)) 6 0 [some (.inr 0), some (.inl a1), some (.inl a2), some (.inl a3), some (.inl a4), none] [] := by
    refine rg_ops (S := ([], σ)) (S' := ([], σ)) (on := 12) ⟨B.exec, B.bytes⟩ ow_begin (by decide) (L' := [some (.inr 0), some (.inl a1), some (.inl a2), some (.inl a3), some (.inl a4), none]) (st' := [.inl a4, .inl a3, .inl a2, .inl a1, .inr 0]) rfl ?_
    obtain ⟨r, σ'⟩ := q
    cases r with
    | inl v =>
      obtain rfl : v = k := Option.some.inj hk
      refine wr_call (M1 := m_X10_begin) (as := [.inl a1, .inl a2, .inl a3, .inl a4]) (st := []) (z := ozI (.inl v)) (σ' := σ') (d := d + 1) hC hax rfl rfl (Nat.le_refl 1) (Nat.le_refl 6) dw_begin_6 ln_12_59 im_X10_begin mk_X10_begin rfl rfl (Nat.le_of_ble_eq_true rfl) (Nat.le_refl _) hT hct (fun w hw => by cases hw; exact ⟨_, rfl⟩) (fun w hw => ?_) (fun E hE => by cases hE) _ rfl
      cases hw
      exact wr_iret hC (by decide) (by decide) dw_begin_9 B.returns
    | inr E =>
      have hk2 : (if E ∈ ([1] : List Nat) then some (cdE E) else none) = some k := hk
      have hE : E ∈ ([1] : List Nat) := by
        by_cases z : E ∈ ([1] : List Nat)
        · exact z
        · rw [if_neg z] at hk2; cases hk2
      rw [if_pos hE] at hk2
      obtain rfl : cdE E = k := Option.some.inj hk2
      refine wr_call (M1 := m_X10_begin) (as := [.inl a1, .inl a2, .inl a3, .inl a4]) (st := []) (z := ozI (.inr E)) (σ' := σ') (d := d + 1) hC hax rfl rfl (Nat.le_refl 1) (Nat.le_refl 6) dw_begin_6 ln_12_59 im_X10_begin mk_X10_begin rfl rfl (Nat.le_of_ble_eq_true rfl) (Nat.le_refl _) hT hct (fun w hw => by cases hw) (fun w hw => by cases hw) (fun E2 hE2 H1 locs1 ls crest ce q9 hP1 hL1 hce hcv hcl => ?_) _ rfl
      cases hE2
      rcases List.mem_cons.mp hE with hE9 | hE
      · obtain rfl : E = 1 := hE9
        exact wr_exc (E := 1) (k := cdE 1) (j := 5) (n := 2) (ix := 18) hC hN hP1 hL1 (Nat.le_of_ble_eq_true rfl) hce hcv hcl [] ⟨0, 9, 10, 16⟩ [] (htab.trans rfl) (fun z hz => by cases hz) (by decide) (by decide) clw1 rfl (Or.inl ⟨rfl, dw_begin_10⟩) dw_begin_12 (by decide +kernel) dw_begin_14 (cdE_in _) B.returns
      cases hE
  have hw := body ax s.heap [] _ [] ⟨rfl, hP, ⟨hDd.1, fun k q hk => Or.inl (List.mem_of_getElem? (mkW_adr hax hk))⟩, va_S.rf, hax, hσ, List.prefix_rfl⟩ (ent_lrs hv (Nat.le_of_ble_eq_true rfl)) trivial
  rw [lg_entry_eq]
  exact hw
def hh_add : List (Nat × Nat × Nat × Nat) := [(0, 9, 10, 13), (0, 9, 15, 16), (0, 9, 20, 19)]
theorem cw_add : Cond.codeWith yL_add cL_add 6 (some .int) hh_add ∈ TB := tb_at 1340 (by decide +kernel) (by decide +kernel)
theorem sw_add : Cond.static yL_add ∈ TB := tb_at 1339 (by decide +kernel) (by decide +kernel)
theorem dw_add_6 : decode cL_add 6 = .ok (.invokevirtual 62, 3) := by decide +kernel
theorem dw_add_9 : decode cL_add 9 = .ok (.ireturn, 1) := by decide +kernel
theorem dw_add_10 : decode cL_add 10 = .ok (.astore 5, 2) := by decide +kernel
theorem dw_add_12 : decode cL_add 12 = .ok (.ldc 15, 2) := by decide +kernel
theorem dw_add_14 : decode cL_add 14 = .ok (.ireturn, 1) := by decide +kernel
theorem dw_add_15 : decode cL_add 15 = .ok (.astore 5, 2) := by decide +kernel
theorem dw_add_17 : decode cL_add 17 = .ok (.ldc 18, 2) := by decide +kernel
theorem dw_add_19 : decode cL_add 19 = .ok (.ireturn, 1) := by decide +kernel
theorem dw_add_20 : decode cL_add 20 = .ok (.astore 5, 2) := by decide +kernel
theorem dw_add_22 : decode cL_add 22 = .ok (.ldc 21, 2) := by decide +kernel
theorem dw_add_24 : decode cL_add 24 = .ok (.ireturn, 1) := by decide +kernel
theorem ow_add : oks 12 cL_add 0 [(.aload_n 0, 1, (0, 0, 0)), (.iload_n 1, 1, (0, 0, 0)), (.iload_n 2, 1, (0, 0, 0)), (.iload_n 3, 1, (0, 0, 0)), (.iload 4, 2, (0, 0, 0))] = true ∧ plen 0 [(.aload_n 0, 1, (0, 0, 0)), (.iload_n 1, 1, (0, 0, 0)), (.iload_n 2, 1, (0, 0, 0)), (.iload_n 3, 1, (0, 0, 0)), (.iload 4, 2, (0, 0, 0))] = 6 := by decide +kernel
theorem wc_add (l : Launch) (hl : l.stackTraces = false) (d : Nat) (hd : 9 ≤ d) (a1 : Int) (a2 : Int) (a3 : Int) (a4 : Int) (σ : Sg) (k : Int) (q : ((Int ⊕ Nat) × Sg)) (h : F_X10_add a1 a2 a3 a4 σ = some q) (hk : kL [0, 1, 2] q.1 = some k) : CTW l d 1 yL_add (wsH yL_add cL_add 6 hh_add) [.inr 0, .inl a1, .inl a2, .inl a3, .inl a4] σ k q.2 := by
  obtain ⟨d, rfl⟩ : ∃ e, d = e + 1 := ⟨d - 1, by omega⟩
  intro D cI cZ ax sz cvs hv hax hσ
  refine va_MetW (cc := cL_add) (maxL := 6) (ret := some .int) (hh := hh_add) (by decide +kernel) rfl ?_
  intro p e s m args below meth c s₁ B hml hp
  obtain ⟨rfl, ⟨hsz, hP, hK, hDd⟩, hN, hT⟩ := hp
  subst hsz
  have hts := atoms_spec (ws := wsH yL_add cL_add 6 hh_add) B.pre
  have htab := vx_table (x := yL_add) B (hts _ List.mem_cons_self)
  have hC : Cx 12 cL_add 6 false p s m cvs.toArray meth c (AA ax s.heap.size) D cI cZ := ⟨B.exec, B.bytes, hml, findClass_of_methodNamed B.named, fun w hw => hts w (List.mem_cons_of_mem _ hw), B.notSynchronized, (fun h => by cases h), hK, fun q h => Or.inr h⟩
  have hct := lk_X10_add l hl d (by omega) a1 a2 a3 a4 σ q h
  have body : Rg p l e (headSpec (wsH yL_add cL_add 6 hh_add) (rmD (d + 1) 1 6)).room s m cvs.toArray below meth c (PwN D cI cZ ax s σ) 0 0 (MQ below (QR D cI cZ (AA ax s.heap.size) ax (some (.inl k)) (LAYC, q.2)) cvs.toArray s 1 6 (AA ax s.heap.size)) 6 0 [some (.inr 0), some (.inl a1), some (.inl a2), some (.inl a3), some (.inl a4), none] [] := by
    refine rg_ops (S := ([], σ)) (S' := ([], σ)) (on := 12) ⟨B.exec, B.bytes⟩ ow_add (by decide) (L' := [some (.inr 0), some (.inl a1), some (.inl a2), some (.inl a3), some (.inl a4), none]) (st' := [.inl a4, .inl a3, .inl a2, .inl a1, .inr 0]) rfl ?_
    obtain ⟨r, σ'⟩ := q
    cases r with
    | inl v =>
      obtain rfl : v = k := Option.some.inj hk
      refine wr_call (M1 := m_X10_add) (as := [.inl a1, .inl a2, .inl a3, .inl a4]) (st := []) (z := ozI (.inl v)) (σ' := σ') (d := d + 1) hC hax rfl rfl (Nat.le_refl 1) (Nat.le_refl 6) dw_add_6 ln_12_62 im_X10_add mk_X10_add rfl rfl (Nat.le_of_ble_eq_true rfl) (Nat.le_refl _) hT hct (fun w hw => by cases hw; exact ⟨_, rfl⟩) (fun w hw => ?_) (fun E hE => by cases hE) _ rfl
      cases hw
      exact wr_iret hC (by decide) (by decide) dw_add_9 B.returns
    | inr E =>
      have hk2 : (if E ∈ ([0, 1, 2] : List Nat) then some (cdE E) else none) = some k := hk
      have hE : E ∈ ([0, 1, 2] : List Nat) := by
        by_cases z : E ∈ ([0, 1, 2] : List Nat)
        · exact z
        · rw [if_neg z] at hk2; cases hk2
      rw [if_pos hE] at hk2
      obtain rfl : cdE E = k := Option.some.inj hk2
      refine wr_call (M1 := m_X10_add) (as := [.inl a1, .inl a2, .inl a3, .inl a4]) (st := []) (z := ozI (.inr E)) (σ' := σ') (d := d + 1) hC hax rfl rfl (Nat.le_refl 1) (Nat.le_refl 6) dw_add_6 ln_12_62 im_X10_add mk_X10_add rfl rfl (Nat.le_of_ble_eq_true rfl) (Nat.le_refl _) hT hct (fun w hw => by cases hw) (fun w hw => by cases hw) (fun E2 hE2 H1 locs1 ls crest ce q9 hP1 hL1 hce hcv hcl => ?_) _ rfl
      cases hE2
      rcases List.mem_cons.mp hE with hE9 | hE
      · obtain rfl : E = 0 := hE9
        exact wr_exc (E := 0) (k := cdE 0) (j := 5) (n := 2) (ix := 15) hC hN hP1 hL1 (Nat.le_of_ble_eq_true rfl) hce hcv hcl [] ⟨0, 9, 10, 13⟩ [⟨0, 9, 15, 16⟩, ⟨0, 9, 20, 19⟩] (htab.trans rfl) (fun z hz => by cases hz) (by decide) (by decide) clw0 rfl (Or.inl ⟨rfl, dw_add_10⟩) dw_add_12 (by decide +kernel) dw_add_14 (cdE_in _) B.returns
      rcases List.mem_cons.mp hE with hE9 | hE
      · obtain rfl : E = 1 := hE9
        exact wr_exc (E := 1) (k := cdE 1) (j := 5) (n := 2) (ix := 18) hC hN hP1 hL1 (Nat.le_of_ble_eq_true rfl) hce hcv hcl [⟨0, 9, 10, 13⟩] ⟨0, 9, 15, 16⟩ [⟨0, 9, 20, 19⟩] (htab.trans rfl) (fun z hz => by rcases List.mem_cons.mp hz with rfl | hz; exact ⟨by decide, exN 0, clw0, hN 1 0 (by decide) (by decide) (by decide)⟩; cases hz) (by decide) (by decide) clw1 rfl (Or.inl ⟨rfl, dw_add_15⟩) dw_add_17 (by decide +kernel) dw_add_19 (cdE_in _) B.returns
      rcases List.mem_cons.mp hE with hE9 | hE
      · obtain rfl : E = 2 := hE9
        exact wr_exc (E := 2) (k := cdE 2) (j := 5) (n := 2) (ix := 21) hC hN hP1 hL1 (Nat.le_of_ble_eq_true rfl) hce hcv hcl [⟨0, 9, 10, 13⟩, ⟨0, 9, 15, 16⟩] ⟨0, 9, 20, 19⟩ [] (htab.trans rfl) (fun z hz => by rcases List.mem_cons.mp hz with rfl | hz; exact ⟨by decide, exN 0, clw0, hN 2 0 (by decide) (by decide) (by decide)⟩; rcases List.mem_cons.mp hz with rfl | hz; exact ⟨by decide, exN 1, clw1, hN 2 1 (by decide) (by decide) (by decide)⟩; cases hz) (by decide) (by decide) clw2 rfl (Or.inl ⟨rfl, dw_add_20⟩) dw_add_22 (by decide +kernel) dw_add_24 (cdE_in _) B.returns
      cases hE
  have hw := body ax s.heap [] _ [] ⟨rfl, hP, ⟨hDd.1, fun k q hk => Or.inl (List.mem_of_getElem? (mkW_adr hax hk))⟩, va_S.rf, hax, hσ, List.prefix_rfl⟩ (ent_lrs hv (Nat.le_of_ble_eq_true rfl)) trivial
  rw [lg_entry_eq]
  exact hw
def hh_guard : List (Nat × Nat × Nat × Nat) := [(0, 9, 10, 13), (0, 9, 15, 16)]
theorem cw_guard : Cond.codeWith yL_guard cL_guard 6 (some .int) hh_guard ∈ TB := tb_at 820 (by decide +kernel) (by decide +kernel)
theorem sw_guard : Cond.static yL_guard ∈ TB := tb_at 819 (by decide +kernel) (by decide +kernel)
theorem dw_guard_6 : decode cL_guard 6 = .ok (.invokevirtual 65, 3) := by decide +kernel
theorem dw_guard_9 : decode cL_guard 9 = .ok (.ireturn, 1) := by decide +kernel
theorem dw_guard_10 : decode cL_guard 10 = .ok (.astore 5, 2) := by decide +kernel
theorem dw_guard_12 : decode cL_guard 12 = .ok (.ldc 15, 2) := by decide +kernel
theorem dw_guard_14 : decode cL_guard 14 = .ok (.ireturn, 1) := by decide +kernel
theorem dw_guard_15 : decode cL_guard 15 = .ok (.astore 5, 2) := by decide +kernel
theorem dw_guard_17 : decode cL_guard 17 = .ok (.ldc 18, 2) := by decide +kernel
theorem dw_guard_19 : decode cL_guard 19 = .ok (.ireturn, 1) := by decide +kernel
theorem ow_guard : oks 12 cL_guard 0 [(.aload_n 0, 1, (0, 0, 0)), (.iload_n 1, 1, (0, 0, 0)), (.iload_n 2, 1, (0, 0, 0)), (.iload_n 3, 1, (0, 0, 0)), (.iload 4, 2, (0, 0, 0))] = true ∧ plen 0 [(.aload_n 0, 1, (0, 0, 0)), (.iload_n 1, 1, (0, 0, 0)), (.iload_n 2, 1, (0, 0, 0)), (.iload_n 3, 1, (0, 0, 0)), (.iload 4, 2, (0, 0, 0))] = 6 := by decide +kernel
theorem wc_guard (l : Launch) (hl : l.stackTraces = false) (d : Nat) (hd : 58 ≤ d) (a1 : Int) (a2 : Int) (a3 : Int) (a4 : Int) (σ : Sg) (k : Int) (q : ((Int ⊕ Nat) × Sg)) (h : F_X10_guard a1 a2 a3 a4 σ = some q) (hk : kL [0, 1] q.1 = some k) : CTW l d 1 yL_guard (wsH yL_guard cL_guard 6 hh_guard) [.inr 0, .inl a1, .inl a2, .inl a3, .inl a4] σ k q.2 := by
  obtain ⟨d, rfl⟩ : ∃ e, d = e + 1 := ⟨d - 1, by omega⟩
  intro D cI cZ ax sz cvs hv hax hσ
  refine va_MetW (cc := cL_guard) (maxL := 6) (ret := some .int) (hh := hh_guard) (by decide +kernel) rfl ?_
  intro p e s m args below meth c s₁ B hml hp
  obtain ⟨rfl, ⟨hsz, hP, hK, hDd⟩, hN, hT⟩ := hp
  subst hsz
  have hts := atoms_spec (ws := wsH yL_guard cL_guard 6 hh_guard) B.pre
  have htab := vx_table (x := yL_guard) B (hts _ List.mem_cons_self)
  have hC : Cx 12 cL_guard 6 false p s m cvs.toArray meth c (AA ax s.heap.size) D cI cZ := ⟨B.exec, B.bytes, hml, findClass_of_methodNamed B.named, fun w hw => hts w (List.mem_cons_of_mem _ hw), B.notSynchronized, (fun h => by cases h), hK, fun q h => Or.inr h⟩
  have hct := lk_X10_guard l hl d (by omega) a1 a2 a3 a4 σ q h
  have body : Rg p l e (headSpec (wsH yL_guard cL_guard 6 hh_guard) (rmD (d + 1) 1 6)).room s m cvs.toArray below meth c (PwN D cI cZ ax s σ) 0 0 (MQ below (QR D cI cZ (AA ax s.heap.size) ax (some (.inl k)) (LAYC, q.2)) cvs.toArray s 1 6 (AA ax s.heap.size)) 6 0 [some (.inr 0), some (.inl a1), some (.inl a2), some (.inl a3), some (.inl a4), none] [] := by
    refine rg_ops (S := ([], σ)) (S' := ([], σ)) (on := 12) ⟨B.exec, B.bytes⟩ ow_guard (by decide) (L' := [some (.inr 0), some (.inl a1), some (.inl a2), some (.inl a3), some (.inl a4), none]) (st' := [.inl a4, .inl a3, .inl a2, .inl a1, .inr 0]) rfl ?_
    obtain ⟨r, σ'⟩ := q
    cases r with
    | inl v =>
      obtain rfl : v = k := Option.some.inj hk
      refine wr_call (M1 := m_X10_guard) (as := [.inl a1, .inl a2, .inl a3, .inl a4]) (st := []) (z := ozI (.inl v)) (σ' := σ') (d := d + 1) hC hax rfl rfl (Nat.le_refl 1) (Nat.le_refl 6) dw_guard_6 ln_12_65 im_X10_guard mk_X10_guard rfl rfl (Nat.le_of_ble_eq_true rfl) (Nat.le_refl _) hT hct (fun w hw => by cases hw; exact ⟨_, rfl⟩) (fun w hw => ?_) (fun E hE => by cases hE) _ rfl
      cases hw
      exact wr_iret hC (by decide) (by decide) dw_guard_9 B.returns
    | inr E =>
      have hk2 : (if E ∈ ([0, 1] : List Nat) then some (cdE E) else none) = some k := hk
      have hE : E ∈ ([0, 1] : List Nat) := by
        by_cases z : E ∈ ([0, 1] : List Nat)
        · exact z
        · rw [if_neg z] at hk2; cases hk2
      rw [if_pos hE] at hk2
      obtain rfl : cdE E = k := Option.some.inj hk2
      refine wr_call (M1 := m_X10_guard) (as := [.inl a1, .inl a2, .inl a3, .inl a4]) (st := []) (z := ozI (.inr E)) (σ' := σ') (d := d + 1) hC hax rfl rfl (Nat.le_refl 1) (Nat.le_refl 6) dw_guard_6 ln_12_65 im_X10_guard mk_X10_guard rfl rfl (Nat.le_of_ble_eq_true rfl) (Nat.le_refl _) hT hct (fun w hw => by cases hw) (fun w hw => by cases hw) (fun E2 hE2 H1 locs1 ls crest ce q9 hP1 hL1 hce hcv hcl => ?_) _ rfl
      cases hE2
      rcases List.mem_cons.mp hE with hE9 | hE
      · obtain rfl : E = 0 := hE9
        exact wr_exc (E := 0) (k := cdE 0) (j := 5) (n := 2) (ix := 15) hC hN hP1 hL1 (Nat.le_of_ble_eq_true rfl) hce hcv hcl [] ⟨0, 9, 10, 13⟩ [⟨0, 9, 15, 16⟩] (htab.trans rfl) (fun z hz => by cases hz) (by decide) (by decide) clw0 rfl (Or.inl ⟨rfl, dw_guard_10⟩) dw_guard_12 (by decide +kernel) dw_guard_14 (cdE_in _) B.returns
      rcases List.mem_cons.mp hE with hE9 | hE
      · obtain rfl : E = 1 := hE9
        exact wr_exc (E := 1) (k := cdE 1) (j := 5) (n := 2) (ix := 18) hC hN hP1 hL1 (Nat.le_of_ble_eq_true rfl) hce hcv hcl [⟨0, 9, 10, 13⟩] ⟨0, 9, 15, 16⟩ [] (htab.trans rfl) (fun z hz => by rcases List.mem_cons.mp hz with rfl | hz; exact ⟨by decide, exN 0, clw0, hN 1 0 (by decide) (by decide) (by decide)⟩; cases hz) (by decide) (by decide) clw1 rfl (Or.inl ⟨rfl, dw_guard_15⟩) dw_guard_17 (by decide +kernel) dw_guard_19 (cdE_in _) B.returns
      cases hE
  have hw := body ax s.heap [] _ [] ⟨rfl, hP, ⟨hDd.1, fun k q hk => Or.inl (List.mem_of_getElem? (mkW_adr hax hk))⟩, va_S.rf, hax, hσ, List.prefix_rfl⟩ (ent_lrs hv (Nat.le_of_ble_eq_true rfl)) trivial
  rw [lg_entry_eq]
  exact hw
def hh_split : List (Nat × Nat × Nat × Nat) := [(0, 6, 7, 13), (0, 6, 11, 19)]
theorem cw_split : Cond.codeWith yL_split cL_split 4 (some .int) hh_split ∈ TB := tb_at 865 (by decide +kernel) (by decide +kernel)
theorem sw_split : Cond.static yL_split ∈ TB := tb_at 864 (by decide +kernel) (by decide +kernel)
theorem dw_split_3 : decode cL_split 3 = .ok (.invokevirtual 68, 3) := by decide +kernel
theorem dw_split_6 : decode cL_split 6 = .ok (.ireturn, 1) := by decide +kernel
theorem dw_split_7 : decode cL_split 7 = .ok (.astore_n 3, 1) := by decide +kernel
theorem dw_split_8 : decode cL_split 8 = .ok (.ldc 15, 2) := by decide +kernel
theorem dw_split_10 : decode cL_split 10 = .ok (.ireturn, 1) := by decide +kernel
theorem dw_split_11 : decode cL_split 11 = .ok (.astore_n 3, 1) := by decide +kernel
theorem dw_split_12 : decode cL_split 12 = .ok (.ldc 21, 2) := by decide +kernel
theorem dw_split_14 : decode cL_split 14 = .ok (.ireturn, 1) := by decide +kernel
theorem ow_split : oks 12 cL_split 0 [(.aload_n 0, 1, (0, 0, 0)), (.iload_n 1, 1, (0, 0, 0)), (.iload_n 2, 1, (0, 0, 0))] = true ∧ plen 0 [(.aload_n 0, 1, (0, 0, 0)), (.iload_n 1, 1, (0, 0, 0)), (.iload_n 2, 1, (0, 0, 0))] = 3 := by decide +kernel
theorem wc_split (l : Launch) (hl : l.stackTraces = false) (d : Nat) (hd : 8 ≤ d) (a1 : Int) (a2 : Int) (σ : Sg) (k : Int) (q : ((Int ⊕ Nat) × Sg)) (h : F_X10_split a1 a2 σ = some q) (hk : kL [0, 2] q.1 = some k) : CTW l d 1 yL_split (wsH yL_split cL_split 4 hh_split) [.inr 0, .inl a1, .inl a2] σ k q.2 := by
  obtain ⟨d, rfl⟩ : ∃ e, d = e + 1 := ⟨d - 1, by omega⟩
  intro D cI cZ ax sz cvs hv hax hσ
  refine va_MetW (cc := cL_split) (maxL := 4) (ret := some .int) (hh := hh_split) (by decide +kernel) rfl ?_
  intro p e s m args below meth c s₁ B hml hp
  obtain ⟨rfl, ⟨hsz, hP, hK, hDd⟩, hN, hT⟩ := hp
  subst hsz
  have hts := atoms_spec (ws := wsH yL_split cL_split 4 hh_split) B.pre
  have htab := vx_table (x := yL_split) B (hts _ List.mem_cons_self)
  have hC : Cx 12 cL_split 4 false p s m cvs.toArray meth c (AA ax s.heap.size) D cI cZ := ⟨B.exec, B.bytes, hml, findClass_of_methodNamed B.named, fun w hw => hts w (List.mem_cons_of_mem _ hw), B.notSynchronized, (fun h => by cases h), hK, fun q h => Or.inr h⟩
  have hct := lk_X10_split l hl d (by omega) a1 a2 σ q h
  have body : Rg p l e (headSpec (wsH yL_split cL_split 4 hh_split) (rmD (d + 1) 1 6)).room s m cvs.toArray below meth c (PwN D cI cZ ax s σ) 0 0 (MQ below (QR D cI cZ (AA ax s.heap.size) ax (some (.inl k)) (LAYC, q.2)) cvs.toArray s 1 6 (AA ax s.heap.size)) 4 0 [some (.inr 0), some (.inl a1), some (.inl a2), none] [] := by
    refine rg_ops (S := ([], σ)) (S' := ([], σ)) (on := 12) ⟨B.exec, B.bytes⟩ ow_split (by decide) (L' := [some (.inr 0), some (.inl a1), some (.inl a2), none]) (st' := [.inl a2, .inl a1, .inr 0]) rfl ?_
    obtain ⟨r, σ'⟩ := q
    cases r with
    | inl v =>
      obtain rfl : v = k := Option.some.inj hk
      refine wr_call (M1 := m_X10_split) (as := [.inl a1, .inl a2]) (st := []) (z := ozI (.inl v)) (σ' := σ') (d := d + 1) hC hax rfl rfl (Nat.le_refl 1) (Nat.le_refl 6) dw_split_3 ln_12_68 im_X10_split mk_X10_split rfl rfl (Nat.le_of_ble_eq_true rfl) (Nat.le_refl _) hT hct (fun w hw => by cases hw; exact ⟨_, rfl⟩) (fun w hw => ?_) (fun E hE => by cases hE) _ rfl
      cases hw
      exact wr_iret hC (by decide) (by decide) dw_split_6 B.returns
    | inr E =>
      have hk2 : (if E ∈ ([0, 2] : List Nat) then some (cdE E) else none) = some k := hk
      have hE : E ∈ ([0, 2] : List Nat) := by
        by_cases z : E ∈ ([0, 2] : List Nat)
        · exact z
        · rw [if_neg z] at hk2; cases hk2
      rw [if_pos hE] at hk2
      obtain rfl : cdE E = k := Option.some.inj hk2
      refine wr_call (M1 := m_X10_split) (as := [.inl a1, .inl a2]) (st := []) (z := ozI (.inr E)) (σ' := σ') (d := d + 1) hC hax rfl rfl (Nat.le_refl 1) (Nat.le_refl 6) dw_split_3 ln_12_68 im_X10_split mk_X10_split rfl rfl (Nat.le_of_ble_eq_true rfl) (Nat.le_refl _) hT hct (fun w hw => by cases hw) (fun w hw => by cases hw) (fun E2 hE2 H1 locs1 ls crest ce q9 hP1 hL1 hce hcv hcl => ?_) _ rfl
      cases hE2
      rcases List.mem_cons.mp hE with hE9 | hE
      · obtain rfl : E = 0 := hE9
        exact wr_exc (E := 0) (k := cdE 0) (j := 3) (n := 1) (ix := 15) hC hN hP1 hL1 (Nat.le_of_ble_eq_true rfl) hce hcv hcl [] ⟨0, 6, 7, 13⟩ [⟨0, 6, 11, 19⟩] (htab.trans rfl) (fun z hz => by cases hz) (by decide) (by decide) clw0 rfl (Or.inr ⟨rfl, 3, rfl, dw_split_7⟩) dw_split_8 (by decide +kernel) dw_split_10 (cdE_in _) B.returns
      rcases List.mem_cons.mp hE with hE9 | hE
      · obtain rfl : E = 2 := hE9
        exact wr_exc (E := 2) (k := cdE 2) (j := 3) (n := 1) (ix := 21) hC hN hP1 hL1 (Nat.le_of_ble_eq_true rfl) hce hcv hcl [⟨0, 6, 7, 13⟩] ⟨0, 6, 11, 19⟩ [] (htab.trans rfl) (fun z hz => by rcases List.mem_cons.mp hz with rfl | hz; exact ⟨by decide, exN 0, clw0, hN 2 0 (by decide) (by decide) (by decide)⟩; cases hz) (by decide) (by decide) clw2 rfl (Or.inr ⟨rfl, 3, rfl, dw_split_11⟩) dw_split_12 (by decide +kernel) dw_split_14 (cdE_in _) B.returns
      cases hE
  have hw := body ax s.heap [] _ [] ⟨rfl, hP, ⟨hDd.1, fun k q hk => Or.inl (List.mem_of_getElem? (mkW_adr hax hk))⟩, va_S.rf, hax, hσ, List.prefix_rfl⟩ (ent_lrs hv (Nat.le_of_ble_eq_true rfl)) trivial
  rw [lg_entry_eq]
  exact hw
def hh_merge : List (Nat × Nat × Nat × Nat) := [(0, 6, 7, 13), (0, 6, 11, 19)]
theorem cw_merge : Cond.codeWith yL_merge cL_merge 4 (some .int) hh_merge ∈ TB := tb_at 891 (by decide +kernel) (by decide +kernel)
theorem sw_merge : Cond.static yL_merge ∈ TB := tb_at 890 (by decide +kernel) (by decide +kernel)
theorem dw_merge_3 : decode cL_merge 3 = .ok (.invokevirtual 71, 3) := by decide +kernel
theorem dw_merge_6 : decode cL_merge 6 = .ok (.ireturn, 1) := by decide +kernel
theorem dw_merge_7 : decode cL_merge 7 = .ok (.astore_n 3, 1) := by decide +kernel
theorem dw_merge_8 : decode cL_merge 8 = .ok (.ldc 15, 2) := by decide +kernel
theorem dw_merge_10 : decode cL_merge 10 = .ok (.ireturn, 1) := by decide +kernel
theorem dw_merge_11 : decode cL_merge 11 = .ok (.astore_n 3, 1) := by decide +kernel
theorem dw_merge_12 : decode cL_merge 12 = .ok (.ldc 21, 2) := by decide +kernel
theorem dw_merge_14 : decode cL_merge 14 = .ok (.ireturn, 1) := by decide +kernel
theorem ow_merge : oks 12 cL_merge 0 [(.aload_n 0, 1, (0, 0, 0)), (.iload_n 1, 1, (0, 0, 0)), (.iload_n 2, 1, (0, 0, 0))] = true ∧ plen 0 [(.aload_n 0, 1, (0, 0, 0)), (.iload_n 1, 1, (0, 0, 0)), (.iload_n 2, 1, (0, 0, 0))] = 3 := by decide +kernel
theorem wc_merge (l : Launch) (hl : l.stackTraces = false) (d : Nat) (hd : 9 ≤ d) (a1 : Int) (a2 : Int) (σ : Sg) (k : Int) (q : ((Int ⊕ Nat) × Sg)) (h : F_X10_merge a1 a2 σ = some q) (hk : kL [0, 2] q.1 = some k) : CTW l d 1 yL_merge (wsH yL_merge cL_merge 4 hh_merge) [.inr 0, .inl a1, .inl a2] σ k q.2 := by
  obtain ⟨d, rfl⟩ : ∃ e, d = e + 1 := ⟨d - 1, by omega⟩
  intro D cI cZ ax sz cvs hv hax hσ
  refine va_MetW (cc := cL_merge) (maxL := 4) (ret := some .int) (hh := hh_merge) (by decide +kernel) rfl ?_
  intro p e s m args below meth c s₁ B hml hp
  obtain ⟨rfl, ⟨hsz, hP, hK, hDd⟩, hN, hT⟩ := hp
  subst hsz
  have hts := atoms_spec (ws := wsH yL_merge cL_merge 4 hh_merge) B.pre
  have htab := vx_table (x := yL_merge) B (hts _ List.mem_cons_self)
  have hC : Cx 12 cL_merge 4 false p s m cvs.toArray meth c (AA ax s.heap.size) D cI cZ := ⟨B.exec, B.bytes, hml, findClass_of_methodNamed B.named, fun w hw => hts w (List.mem_cons_of_mem _ hw), B.notSynchronized, (fun h => by cases h), hK, fun q h => Or.inr h⟩
  have hct := lk_X10_merge l hl d (by omega) a1 a2 σ q h
  have body : Rg p l e (headSpec (wsH yL_merge cL_merge 4 hh_merge) (rmD (d + 1) 1 6)).room s m cvs.toArray below meth c (PwN D cI cZ ax s σ) 0 0 (MQ below (QR D cI cZ (AA ax s.heap.size) ax (some (.inl k)) (LAYC, q.2)) cvs.toArray s 1 6 (AA ax s.heap.size)) 4 0 [some (.inr 0), some (.inl a1), some (.inl a2), none] [] := by
    refine rg_ops (S := ([], σ)) (S' := ([], σ)) (on := 12) ⟨B.exec, B.bytes⟩ ow_merge (by decide) (L' := [some (.inr 0), some (.inl a1), some (.inl a2), none]) (st' := [.inl a2, .inl a1, .inr 0]) rfl ?_
    obtain ⟨r, σ'⟩ := q
    cases r with
    | inl v =>
      obtain rfl : v = k := Option.some.inj hk
      refine wr_call (M1 := m_X10_merge) (as := [.inl a1, .inl a2]) (st := []) (z := ozI (.inl v)) (σ' := σ') (d := d + 1) hC hax rfl rfl (Nat.le_refl 1) (Nat.le_refl 6) dw_merge_3 ln_12_71 im_X10_merge mk_X10_merge rfl rfl (Nat.le_of_ble_eq_true rfl) (Nat.le_refl _) hT hct (fun w hw => by cases hw; exact ⟨_, rfl⟩) (fun w hw => ?_) (fun E hE => by cases hE) _ rfl
      cases hw
      exact wr_iret hC (by decide) (by decide) dw_merge_6 B.returns
    | inr E =>
      have hk2 : (if E ∈ ([0, 2] : List Nat) then some (cdE E) else none) = some k := hk
      have hE : E ∈ ([0, 2] : List Nat) := by
        by_cases z : E ∈ ([0, 2] : List Nat)
        · exact z
        · rw [if_neg z] at hk2; cases hk2
      rw [if_pos hE] at hk2
      obtain rfl : cdE E = k := Option.some.inj hk2
      refine wr_call (M1 := m_X10_merge) (as := [.inl a1, .inl a2]) (st := []) (z := ozI (.inr E)) (σ' := σ') (d := d + 1) hC hax rfl rfl (Nat.le_refl 1) (Nat.le_refl 6) dw_merge_3 ln_12_71 im_X10_merge mk_X10_merge rfl rfl (Nat.le_of_ble_eq_true rfl) (Nat.le_refl _) hT hct (fun w hw => by cases hw) (fun w hw => by cases hw) (fun E2 hE2 H1 locs1 ls crest ce q9 hP1 hL1 hce hcv hcl => ?_) _ rfl
      cases hE2
      rcases List.mem_cons.mp hE with hE9 | hE
      · obtain rfl : E = 0 := hE9
        exact wr_exc (E := 0) (k := cdE 0) (j := 3) (n := 1) (ix := 15) hC hN hP1 hL1 (Nat.le_of_ble_eq_true rfl) hce hcv hcl [] ⟨0, 6, 7, 13⟩ [⟨0, 6, 11, 19⟩] (htab.trans rfl) (fun z hz => by cases hz) (by decide) (by decide) clw0 rfl (Or.inr ⟨rfl, 3, rfl, dw_merge_7⟩) dw_merge_8 (by decide +kernel) dw_merge_10 (cdE_in _) B.returns
      rcases List.mem_cons.mp hE with hE9 | hE
      · obtain rfl : E = 2 := hE9
        exact wr_exc (E := 2) (k := cdE 2) (j := 3) (n := 1) (ix := 21) hC hN hP1 hL1 (Nat.le_of_ble_eq_true rfl) hce hcv hcl [⟨0, 6, 7, 13⟩] ⟨0, 6, 11, 19⟩ [] (htab.trans rfl) (fun z hz => by rcases List.mem_cons.mp hz with rfl | hz; exact ⟨by decide, exN 0, clw0, hN 2 0 (by decide) (by decide) (by decide)⟩; cases hz) (by decide) (by decide) clw2 rfl (Or.inr ⟨rfl, 3, rfl, dw_merge_11⟩) dw_merge_12 (by decide +kernel) dw_merge_14 (cdE_in _) B.returns
      cases hE
  have hw := body ax s.heap [] _ [] ⟨rfl, hP, ⟨hDd.1, fun k q hk => Or.inl (List.mem_of_getElem? (mkW_adr hax hk))⟩, va_S.rf, hax, hσ, List.prefix_rfl⟩ (ent_lrs hv (Nat.le_of_ble_eq_true rfl)) trivial
  rw [lg_entry_eq]
  exact hw
def hh_run : List (Nat × Nat × Nat × Nat) := [(0, 9, 10, 13), (0, 9, 15, 16), (0, 9, 20, 19)]
theorem cw_run : Cond.codeWith yL_run cL_run 6 (some .int) hh_run ∈ TB := tb_at 906 (by decide +kernel) (by decide +kernel)
theorem sw_run : Cond.static yL_run ∈ TB := tb_at 905 (by decide +kernel) (by decide +kernel)
theorem dw_run_6 : decode cL_run 6 = .ok (.invokevirtual 74, 3) := by decide +kernel
theorem dw_run_9 : decode cL_run 9 = .ok (.ireturn, 1) := by decide +kernel
theorem dw_run_10 : decode cL_run 10 = .ok (.astore 5, 2) := by decide +kernel
theorem dw_run_12 : decode cL_run 12 = .ok (.ldc 15, 2) := by decide +kernel
theorem dw_run_14 : decode cL_run 14 = .ok (.ireturn, 1) := by decide +kernel
theorem dw_run_15 : decode cL_run 15 = .ok (.astore 5, 2) := by decide +kernel
theorem dw_run_17 : decode cL_run 17 = .ok (.ldc 18, 2) := by decide +kernel
theorem dw_run_19 : decode cL_run 19 = .ok (.ireturn, 1) := by decide +kernel
theorem dw_run_20 : decode cL_run 20 = .ok (.astore 5, 2) := by decide +kernel
theorem dw_run_22 : decode cL_run 22 = .ok (.ldc 21, 2) := by decide +kernel
theorem dw_run_24 : decode cL_run 24 = .ok (.ireturn, 1) := by decide +kernel
theorem ow_run : oks 12 cL_run 0 [(.aload_n 0, 1, (0, 0, 0)), (.iload_n 1, 1, (0, 0, 0)), (.iload_n 2, 1, (0, 0, 0)), (.iload_n 3, 1, (0, 0, 0)), (.iload 4, 2, (0, 0, 0))] = true ∧ plen 0 [(.aload_n 0, 1, (0, 0, 0)), (.iload_n 1, 1, (0, 0, 0)), (.iload_n 2, 1, (0, 0, 0)), (.iload_n 3, 1, (0, 0, 0)), (.iload 4, 2, (0, 0, 0))] = 6 := by decide +kernel
theorem wc_run (l : Launch) (hl : l.stackTraces = false) (d : Nat) (hd : 160 ≤ d) (a1 : Int) (a2 : Int) (a3 : Int) (a4 : Int) (σ : Sg) (k : Int) (q : ((Int ⊕ Nat) × Sg)) (h : F_X10_run a1 a2 a3 a4 σ = some q) (hk : kL [0, 1, 2] q.1 = some k) : CTW l d 1 yL_run (wsH yL_run cL_run 6 hh_run) [.inr 0, .inl a1, .inl a2, .inl a3, .inl a4] σ k q.2 := by
  obtain ⟨d, rfl⟩ : ∃ e, d = e + 1 := ⟨d - 1, by omega⟩
  intro D cI cZ ax sz cvs hv hax hσ
  refine va_MetW (cc := cL_run) (maxL := 6) (ret := some .int) (hh := hh_run) (by decide +kernel) rfl ?_
  intro p e s m args below meth c s₁ B hml hp
  obtain ⟨rfl, ⟨hsz, hP, hK, hDd⟩, hN, hT⟩ := hp
  subst hsz
  have hts := atoms_spec (ws := wsH yL_run cL_run 6 hh_run) B.pre
  have htab := vx_table (x := yL_run) B (hts _ List.mem_cons_self)
  have hC : Cx 12 cL_run 6 false p s m cvs.toArray meth c (AA ax s.heap.size) D cI cZ := ⟨B.exec, B.bytes, hml, findClass_of_methodNamed B.named, fun w hw => hts w (List.mem_cons_of_mem _ hw), B.notSynchronized, (fun h => by cases h), hK, fun q h => Or.inr h⟩
  have hct := lk_X10_run l hl d (by omega) a1 a2 a3 a4 σ q h
  have body : Rg p l e (headSpec (wsH yL_run cL_run 6 hh_run) (rmD (d + 1) 1 6)).room s m cvs.toArray below meth c (PwN D cI cZ ax s σ) 0 0 (MQ below (QR D cI cZ (AA ax s.heap.size) ax (some (.inl k)) (LAYC, q.2)) cvs.toArray s 1 6 (AA ax s.heap.size)) 6 0 [some (.inr 0), some (.inl a1), some (.inl a2), some (.inl a3), some (.inl a4), none] [] := by
    refine rg_ops (S := ([], σ)) (S' := ([], σ)) (on := 12) ⟨B.exec, B.bytes⟩ ow_run (by decide) (L' := [some (.inr 0), some (.inl a1), some (.inl a2), some (.inl a3), some (.inl a4), none]) (st' := [.inl a4, .inl a3, .inl a2, .inl a1, .inr 0]) rfl ?_
    obtain ⟨r, σ'⟩ := q
    cases r with
    | inl v =>
      obtain rfl : v = k := Option.some.inj hk
      refine wr_call (M1 := m_X10_run) (as := [.inl a1, .inl a2, .inl a3, .inl a4]) (st := []) (z := ozI (.inl v)) (σ' := σ') (d := d + 1) hC hax rfl rfl (Nat.le_refl 1) (Nat.le_refl 6) dw_run_6 ln_12_74 im_X10_run mk_X10_run rfl rfl (Nat.le_of_ble_eq_true rfl) (Nat.le_refl _) hT hct (fun w hw => by cases hw; exact ⟨_, rfl⟩) (fun w hw => ?_) (fun E hE => by cases hE) _ rfl
      cases hw
      exact wr_iret hC (by decide) (by decide) dw_run_9 B.returns
    | inr E =>
      have hk2 : (if E ∈ ([0, 1, 2] : List Nat) then some (cdE E) else none) = some k := hk
      have hE : E ∈ ([0, 1, 2] : List Nat) := by
        by_cases z : E ∈ ([0, 1, 2] : List Nat)
        · exact z
        · rw [if_neg z] at hk2; cases hk2
      rw [if_pos hE] at hk2
      obtain rfl : cdE E = k := Option.some.inj hk2
      refine wr_call (M1 := m_X10_run) (as := [.inl a1, .inl a2, .inl a3, .inl a4]) (st := []) (z := ozI (.inr E)) (σ' := σ') (d := d + 1) hC hax rfl rfl (Nat.le_refl 1) (Nat.le_refl 6) dw_run_6 ln_12_74 im_X10_run mk_X10_run rfl rfl (Nat.le_of_ble_eq_true rfl) (Nat.le_refl _) hT hct (fun w hw => by cases hw) (fun w hw => by cases hw) (fun E2 hE2 H1 locs1 ls crest ce q9 hP1 hL1 hce hcv hcl => ?_) _ rfl
      cases hE2
      rcases List.mem_cons.mp hE with hE9 | hE
      · obtain rfl : E = 0 := hE9
        exact wr_exc (E := 0) (k := cdE 0) (j := 5) (n := 2) (ix := 15) hC hN hP1 hL1 (Nat.le_of_ble_eq_true rfl) hce hcv hcl [] ⟨0, 9, 10, 13⟩ [⟨0, 9, 15, 16⟩, ⟨0, 9, 20, 19⟩] (htab.trans rfl) (fun z hz => by cases hz) (by decide) (by decide) clw0 rfl (Or.inl ⟨rfl, dw_run_10⟩) dw_run_12 (by decide +kernel) dw_run_14 (cdE_in _) B.returns
      rcases List.mem_cons.mp hE with hE9 | hE
      · obtain rfl : E = 1 := hE9
        exact wr_exc (E := 1) (k := cdE 1) (j := 5) (n := 2) (ix := 18) hC hN hP1 hL1 (Nat.le_of_ble_eq_true rfl) hce hcv hcl [⟨0, 9, 10, 13⟩] ⟨0, 9, 15, 16⟩ [⟨0, 9, 20, 19⟩] (htab.trans rfl) (fun z hz => by rcases List.mem_cons.mp hz with rfl | hz; exact ⟨by decide, exN 0, clw0, hN 1 0 (by decide) (by decide) (by decide)⟩; cases hz) (by decide) (by decide) clw1 rfl (Or.inl ⟨rfl, dw_run_15⟩) dw_run_17 (by decide +kernel) dw_run_19 (cdE_in _) B.returns
      rcases List.mem_cons.mp hE with hE9 | hE
      · obtain rfl : E = 2 := hE9
        exact wr_exc (E := 2) (k := cdE 2) (j := 5) (n := 2) (ix := 21) hC hN hP1 hL1 (Nat.le_of_ble_eq_true rfl) hce hcv hcl [⟨0, 9, 10, 13⟩, ⟨0, 9, 15, 16⟩] ⟨0, 9, 20, 19⟩ [] (htab.trans rfl) (fun z hz => by rcases List.mem_cons.mp hz with rfl | hz; exact ⟨by decide, exN 0, clw0, hN 2 0 (by decide) (by decide) (by decide)⟩; rcases List.mem_cons.mp hz with rfl | hz; exact ⟨by decide, exN 1, clw1, hN 2 1 (by decide) (by decide) (by decide)⟩; cases hz) (by decide) (by decide) clw2 rfl (Or.inl ⟨rfl, dw_run_20⟩) dw_run_22 (by decide +kernel) dw_run_24 (cdE_in _) B.returns
      cases hE
  have hw := body ax s.heap [] _ [] ⟨rfl, hP, ⟨hDd.1, fun k q hk => Or.inl (List.mem_of_getElem? (mkW_adr hax hk))⟩, va_S.rf, hax, hσ, List.prefix_rfl⟩ (ent_lrs hv (Nat.le_of_ble_eq_true rfl)) trivial
  rw [lg_entry_eq]
  exact hw
def hh_viewAt : List (Nat × Nat × Nat × Nat) := [(0, 5, 6, 13)]
theorem cw_viewAt : Cond.codeWith yL_viewAt cL_viewAt 3 (some .int) hh_viewAt ∈ TB := tb_at 1276 (by decide +kernel) (by decide +kernel)
theorem sw_viewAt : Cond.static yL_viewAt ∈ TB := tb_at 1275 (by decide +kernel) (by decide +kernel)
theorem dw_viewAt_2 : decode cL_viewAt 2 = .ok (.invokevirtual 77, 3) := by decide +kernel
theorem dw_viewAt_5 : decode cL_viewAt 5 = .ok (.ireturn, 1) := by decide +kernel
theorem dw_viewAt_6 : decode cL_viewAt 6 = .ok (.astore_n 2, 1) := by decide +kernel
theorem dw_viewAt_7 : decode cL_viewAt 7 = .ok (.ldc 15, 2) := by decide +kernel
theorem dw_viewAt_9 : decode cL_viewAt 9 = .ok (.ireturn, 1) := by decide +kernel
theorem ow_viewAt : oks 12 cL_viewAt 0 [(.aload_n 0, 1, (0, 0, 0)), (.iload_n 1, 1, (0, 0, 0))] = true ∧ plen 0 [(.aload_n 0, 1, (0, 0, 0)), (.iload_n 1, 1, (0, 0, 0))] = 2 := by decide +kernel
theorem wc_viewAt (l : Launch) (hl : l.stackTraces = false) (d : Nat) (hd : 8 ≤ d) (a1 : Int) (σ : Sg) (k : Int) (q : ((Int ⊕ Nat) × Sg)) (h : F_X10_viewAt a1 σ = some q) (hk : kL [0] q.1 = some k) : CTW l d 1 yL_viewAt (wsH yL_viewAt cL_viewAt 3 hh_viewAt) [.inr 0, .inl a1] σ k q.2 := by
  obtain ⟨d, rfl⟩ : ∃ e, d = e + 1 := ⟨d - 1, by omega⟩
  intro D cI cZ ax sz cvs hv hax hσ
  refine va_MetW (cc := cL_viewAt) (maxL := 3) (ret := some .int) (hh := hh_viewAt) (by decide +kernel) rfl ?_
  intro p e s m args below meth c s₁ B hml hp
  obtain ⟨rfl, ⟨hsz, hP, hK, hDd⟩, hN, hT⟩ := hp
  subst hsz
  have hts := atoms_spec (ws := wsH yL_viewAt cL_viewAt 3 hh_viewAt) B.pre
  have htab := vx_table (x := yL_viewAt) B (hts _ List.mem_cons_self)
  have hC : Cx 12 cL_viewAt 3 false p s m cvs.toArray meth c (AA ax s.heap.size) D cI cZ := ⟨B.exec, B.bytes, hml, findClass_of_methodNamed B.named, fun w hw => hts w (List.mem_cons_of_mem _ hw), B.notSynchronized, (fun h => by cases h), hK, fun q h => Or.inr h⟩
  have hct := lk_X10_viewAt l hl d (by omega) a1 σ q h
  have body : Rg p l e (headSpec (wsH yL_viewAt cL_viewAt 3 hh_viewAt) (rmD (d + 1) 1 6)).room s m cvs.toArray below meth c (PwN D cI cZ ax s σ) 0 0 (MQ below (QR D cI cZ (AA ax s.heap.size) ax (some (.inl k)) (LAYC, q.2)) cvs.toArray s 1 6 (AA ax s.heap.size)) 3 0 [some (.inr 0), some (.inl a1), none] [] := by
    refine rg_ops (S := ([], σ)) (S' := ([], σ)) (on := 12) ⟨B.exec, B.bytes⟩ ow_viewAt (by decide) (L' := [some (.inr 0), some (.inl a1), none]) (st' := [.inl a1, .inr 0]) rfl ?_
    obtain ⟨r, σ'⟩ := q
    cases r with
    | inl v =>
      obtain rfl : v = k := Option.some.inj hk
      refine wr_call (M1 := m_X10_viewAt) (as := [.inl a1]) (st := []) (z := ozI (.inl v)) (σ' := σ') (d := d + 1) hC hax rfl rfl (Nat.le_refl 1) (Nat.le_refl 6) dw_viewAt_2 ln_12_77 im_X10_viewAt mk_X10_viewAt rfl rfl (Nat.le_of_ble_eq_true rfl) (Nat.le_refl _) hT hct (fun w hw => by cases hw; exact ⟨_, rfl⟩) (fun w hw => ?_) (fun E hE => by cases hE) _ rfl
      cases hw
      exact wr_iret hC (by decide) (by decide) dw_viewAt_5 B.returns
    | inr E =>
      have hk2 : (if E ∈ ([0] : List Nat) then some (cdE E) else none) = some k := hk
      have hE : E ∈ ([0] : List Nat) := by
        by_cases z : E ∈ ([0] : List Nat)
        · exact z
        · rw [if_neg z] at hk2; cases hk2
      rw [if_pos hE] at hk2
      obtain rfl : cdE E = k := Option.some.inj hk2
      refine wr_call (M1 := m_X10_viewAt) (as := [.inl a1]) (st := []) (z := ozI (.inr E)) (σ' := σ') (d := d + 1) hC hax rfl rfl (Nat.le_refl 1) (Nat.le_refl 6) dw_viewAt_2 ln_12_77 im_X10_viewAt mk_X10_viewAt rfl rfl (Nat.le_of_ble_eq_true rfl) (Nat.le_refl _) hT hct (fun w hw => by cases hw) (fun w hw => by cases hw) (fun E2 hE2 H1 locs1 ls crest ce q9 hP1 hL1 hce hcv hcl => ?_) _ rfl
      cases hE2
      rcases List.mem_cons.mp hE with hE9 | hE
      · obtain rfl : E = 0 := hE9
        exact wr_exc (E := 0) (k := cdE 0) (j := 2) (n := 1) (ix := 15) hC hN hP1 hL1 (Nat.le_of_ble_eq_true rfl) hce hcv hcl [] ⟨0, 5, 6, 13⟩ [] (htab.trans rfl) (fun z hz => by cases hz) (by decide) (by decide) clw0 rfl (Or.inr ⟨rfl, 2, rfl, dw_viewAt_6⟩) dw_viewAt_7 (by decide +kernel) dw_viewAt_9 (cdE_in _) B.returns
      cases hE
  have hw := body ax s.heap [] _ [] ⟨rfl, hP, ⟨hDd.1, fun k q hk => Or.inl (List.mem_of_getElem? (mkW_adr hax hk))⟩, va_S.rf, hax, hσ, List.prefix_rfl⟩ (ent_lrs hv (Nat.le_of_ble_eq_true rfl)) trivial
  rw [lg_entry_eq]
  exact hw
def hh_bound : List (Nat × Nat × Nat × Nat) := [(0, 5, 6, 13)]
theorem cw_bound : Cond.codeWith yL_bound cL_bound 3 (some .int) hh_bound ∈ TB := tb_at 1287 (by decide +kernel) (by decide +kernel)
theorem sw_bound : Cond.static yL_bound ∈ TB := tb_at 1286 (by decide +kernel) (by decide +kernel)
theorem dw_bound_2 : decode cL_bound 2 = .ok (.invokevirtual 80, 3) := by decide +kernel
theorem dw_bound_5 : decode cL_bound 5 = .ok (.ireturn, 1) := by decide +kernel
theorem dw_bound_6 : decode cL_bound 6 = .ok (.astore_n 2, 1) := by decide +kernel
theorem dw_bound_7 : decode cL_bound 7 = .ok (.ldc 15, 2) := by decide +kernel
theorem dw_bound_9 : decode cL_bound 9 = .ok (.ireturn, 1) := by decide +kernel
theorem ow_bound : oks 12 cL_bound 0 [(.aload_n 0, 1, (0, 0, 0)), (.iload_n 1, 1, (0, 0, 0))] = true ∧ plen 0 [(.aload_n 0, 1, (0, 0, 0)), (.iload_n 1, 1, (0, 0, 0))] = 2 := by decide +kernel
theorem wc_bound (l : Launch) (hl : l.stackTraces = false) (d : Nat) (hd : 8 ≤ d) (a1 : Int) (σ : Sg) (k : Int) (q : ((Int ⊕ Nat) × Sg)) (h : F_X10_bound a1 σ = some q) (hk : kL [0] q.1 = some k) : CTW l d 1 yL_bound (wsH yL_bound cL_bound 3 hh_bound) [.inr 0, .inl a1] σ k q.2 := by
  obtain ⟨d, rfl⟩ : ∃ e, d = e + 1 := ⟨d - 1, by omega⟩
  intro D cI cZ ax sz cvs hv hax hσ
  refine va_MetW (cc := cL_bound) (maxL := 3) (ret := some .int) (hh := hh_bound) (by decide +kernel) rfl ?_
  intro p e s m args below meth c s₁ B hml hp
  obtain ⟨rfl, ⟨hsz, hP, hK, hDd⟩, hN, hT⟩ := hp
  subst hsz
  have hts := atoms_spec (ws := wsH yL_bound cL_bound 3 hh_bound) B.pre
  have htab := vx_table (x := yL_bound) B (hts _ List.mem_cons_self)
  have hC : Cx 12 cL_bound 3 false p s m cvs.toArray meth c (AA ax s.heap.size) D cI cZ := ⟨B.exec, B.bytes, hml, findClass_of_methodNamed B.named, fun w hw => hts w (List.mem_cons_of_mem _ hw), B.notSynchronized, (fun h => by cases h), hK, fun q h => Or.inr h⟩
  have hct := lk_X10_bound l hl d (by omega) a1 σ q h
  have body : Rg p l e (headSpec (wsH yL_bound cL_bound 3 hh_bound) (rmD (d + 1) 1 6)).room s m cvs.toArray below meth c (PwN D cI cZ ax s σ) 0 0 (MQ below (QR D cI cZ (AA ax s.heap.size) ax (some (.inl k)) (LAYC, q.2)) cvs.toArray s 1 6 (AA ax s.heap.size)) 3 0 [some (.inr 0), some (.inl a1), none] [] := by
    refine rg_ops (S := ([], σ)) (S' := ([], σ)) (on := 12) ⟨B.exec, B.bytes⟩ ow_bound (by decide) (L' := [some (.inr 0), some (.inl a1), none]) (st' := [.inl a1, .inr 0]) rfl ?_
    obtain ⟨r, σ'⟩ := q
    cases r with
    | inl v =>
      obtain rfl : v = k := Option.some.inj hk
      refine wr_call (M1 := m_X10_bound) (as := [.inl a1]) (st := []) (z := ozI (.inl v)) (σ' := σ') (d := d + 1) hC hax rfl rfl (Nat.le_refl 1) (Nat.le_refl 6) dw_bound_2 ln_12_80 im_X10_bound mk_X10_bound rfl rfl (Nat.le_of_ble_eq_true rfl) (Nat.le_refl _) hT hct (fun w hw => by cases hw; exact ⟨_, rfl⟩) (fun w hw => ?_) (fun E hE => by cases hE) _ rfl
      cases hw
      exact wr_iret hC (by decide) (by decide) dw_bound_5 B.returns
    | inr E =>
      have hk2 : (if E ∈ ([0] : List Nat) then some (cdE E) else none) = some k := hk
      have hE : E ∈ ([0] : List Nat) := by
        by_cases z : E ∈ ([0] : List Nat)
        · exact z
        · rw [if_neg z] at hk2; cases hk2
      rw [if_pos hE] at hk2
      obtain rfl : cdE E = k := Option.some.inj hk2
      refine wr_call (M1 := m_X10_bound) (as := [.inl a1]) (st := []) (z := ozI (.inr E)) (σ' := σ') (d := d + 1) hC hax rfl rfl (Nat.le_refl 1) (Nat.le_refl 6) dw_bound_2 ln_12_80 im_X10_bound mk_X10_bound rfl rfl (Nat.le_of_ble_eq_true rfl) (Nat.le_refl _) hT hct (fun w hw => by cases hw) (fun w hw => by cases hw) (fun E2 hE2 H1 locs1 ls crest ce q9 hP1 hL1 hce hcv hcl => ?_) _ rfl
      cases hE2
      rcases List.mem_cons.mp hE with hE9 | hE
      · obtain rfl : E = 0 := hE9
        exact wr_exc (E := 0) (k := cdE 0) (j := 2) (n := 1) (ix := 15) hC hN hP1 hL1 (Nat.le_of_ble_eq_true rfl) hce hcv hcl [] ⟨0, 5, 6, 13⟩ [] (htab.trans rfl) (fun z hz => by cases hz) (by decide) (by decide) clw0 rfl (Or.inr ⟨rfl, 2, rfl, dw_bound_6⟩) dw_bound_7 (by decide +kernel) dw_bound_9 (cdE_in _) B.returns
      cases hE
  have hw := body ax s.heap [] _ [] ⟨rfl, hP, ⟨hDd.1, fun k q hk => Or.inl (List.mem_of_getElem? (mkW_adr hax hk))⟩, va_S.rf, hax, hσ, List.prefix_rfl⟩ (ent_lrs hv (Nat.le_of_ble_eq_true rfl)) trivial
  rw [lg_entry_eq]
  exact hw
def hh_taken : List (Nat × Nat × Nat × Nat) := [(0, 5, 6, 13)]
theorem cw_taken : Cond.codeWith yL_taken cL_taken 3 (some .int) hh_taken ∈ TB := tb_at 1295 (by decide +kernel) (by decide +kernel)
theorem sw_taken : Cond.static yL_taken ∈ TB := tb_at 1294 (by decide +kernel) (by decide +kernel)
theorem dw_taken_2 : decode cL_taken 2 = .ok (.invokevirtual 83, 3) := by decide +kernel
theorem dw_taken_5 : decode cL_taken 5 = .ok (.ireturn, 1) := by decide +kernel
theorem dw_taken_6 : decode cL_taken 6 = .ok (.astore_n 2, 1) := by decide +kernel
theorem dw_taken_7 : decode cL_taken 7 = .ok (.ldc 15, 2) := by decide +kernel
theorem dw_taken_9 : decode cL_taken 9 = .ok (.ireturn, 1) := by decide +kernel
theorem ow_taken : oks 12 cL_taken 0 [(.aload_n 0, 1, (0, 0, 0)), (.iload_n 1, 1, (0, 0, 0))] = true ∧ plen 0 [(.aload_n 0, 1, (0, 0, 0)), (.iload_n 1, 1, (0, 0, 0))] = 2 := by decide +kernel
theorem wc_taken (l : Launch) (hl : l.stackTraces = false) (d : Nat) (hd : 8 ≤ d) (a1 : Int) (σ : Sg) (k : Int) (q : ((Int ⊕ Nat) × Sg)) (h : F_X10_taken a1 σ = some q) (hk : kL [0] q.1 = some k) : CTW l d 1 yL_taken (wsH yL_taken cL_taken 3 hh_taken) [.inr 0, .inl a1] σ k q.2 := by
  obtain ⟨d, rfl⟩ : ∃ e, d = e + 1 := ⟨d - 1, by omega⟩
  intro D cI cZ ax sz cvs hv hax hσ
  refine va_MetW (cc := cL_taken) (maxL := 3) (ret := some .int) (hh := hh_taken) (by decide +kernel) rfl ?_
  intro p e s m args below meth c s₁ B hml hp
  obtain ⟨rfl, ⟨hsz, hP, hK, hDd⟩, hN, hT⟩ := hp
  subst hsz
  have hts := atoms_spec (ws := wsH yL_taken cL_taken 3 hh_taken) B.pre
  have htab := vx_table (x := yL_taken) B (hts _ List.mem_cons_self)
  have hC : Cx 12 cL_taken 3 false p s m cvs.toArray meth c (AA ax s.heap.size) D cI cZ := ⟨B.exec, B.bytes, hml, findClass_of_methodNamed B.named, fun w hw => hts w (List.mem_cons_of_mem _ hw), B.notSynchronized, (fun h => by cases h), hK, fun q h => Or.inr h⟩
  have hct := lk_X10_taken l hl d (by omega) a1 σ q h
  have body : Rg p l e (headSpec (wsH yL_taken cL_taken 3 hh_taken) (rmD (d + 1) 1 6)).room s m cvs.toArray below meth c (PwN D cI cZ ax s σ) 0 0 (MQ below (QR D cI cZ (AA ax s.heap.size) ax (some (.inl k)) (LAYC, q.2)) cvs.toArray s 1 6 (AA ax s.heap.size)) 3 0 [some (.inr 0), some (.inl a1), none] [] := by
    refine rg_ops (S := ([], σ)) (S' := ([], σ)) (on := 12) ⟨B.exec, B.bytes⟩ ow_taken (by decide) (L' := [some (.inr 0), some (.inl a1), none]) (st' := [.inl a1, .inr 0]) rfl ?_
    obtain ⟨r, σ'⟩ := q
    cases r with
    | inl v =>
      obtain rfl : v = k := Option.some.inj hk
      refine wr_call (M1 := m_X10_taken) (as := [.inl a1]) (st := []) (z := ozI (.inl v)) (σ' := σ') (d := d + 1) hC hax rfl rfl (Nat.le_refl 1) (Nat.le_refl 6) dw_taken_2 ln_12_83 im_X10_taken mk_X10_taken rfl rfl (Nat.le_of_ble_eq_true rfl) (Nat.le_refl _) hT hct (fun w hw => by cases hw; exact ⟨_, rfl⟩) (fun w hw => ?_) (fun E hE => by cases hE) _ rfl
      cases hw
      exact wr_iret hC (by decide) (by decide) dw_taken_5 B.returns
    | inr E =>
      have hk2 : (if E ∈ ([0] : List Nat) then some (cdE E) else none) = some k := hk
      have hE : E ∈ ([0] : List Nat) := by
        by_cases z : E ∈ ([0] : List Nat)
        · exact z
        · rw [if_neg z] at hk2; cases hk2
      rw [if_pos hE] at hk2
      obtain rfl : cdE E = k := Option.some.inj hk2
      refine wr_call (M1 := m_X10_taken) (as := [.inl a1]) (st := []) (z := ozI (.inr E)) (σ' := σ') (d := d + 1) hC hax rfl rfl (Nat.le_refl 1) (Nat.le_refl 6) dw_taken_2 ln_12_83 im_X10_taken mk_X10_taken rfl rfl (Nat.le_of_ble_eq_true rfl) (Nat.le_refl _) hT hct (fun w hw => by cases hw) (fun w hw => by cases hw) (fun E2 hE2 H1 locs1 ls crest ce q9 hP1 hL1 hce hcv hcl => ?_) _ rfl
      cases hE2
      rcases List.mem_cons.mp hE with hE9 | hE
      · obtain rfl : E = 0 := hE9
        exact wr_exc (E := 0) (k := cdE 0) (j := 2) (n := 1) (ix := 15) hC hN hP1 hL1 (Nat.le_of_ble_eq_true rfl) hce hcv hcl [] ⟨0, 5, 6, 13⟩ [] (htab.trans rfl) (fun z hz => by cases hz) (by decide) (by decide) clw0 rfl (Or.inr ⟨rfl, 2, rfl, dw_taken_6⟩) dw_taken_7 (by decide +kernel) dw_taken_9 (cdE_in _) B.returns
      cases hE
  have hw := body ax s.heap [] _ [] ⟨rfl, hP, ⟨hDd.1, fun k q hk => Or.inl (List.mem_of_getElem? (mkW_adr hax hk))⟩, va_S.rf, hax, hσ, List.prefix_rfl⟩ (ent_lrs hv (Nat.le_of_ble_eq_true rfl)) trivial
  rw [lg_entry_eq]
  exact hw
def hh_size : List (Nat × Nat × Nat × Nat) := [(0, 6, 7, 13), (0, 6, 11, 19)]
theorem cw_size : Cond.codeWith yL_size cL_size 4 (some .int) hh_size ∈ TB := tb_at 1313 (by decide +kernel) (by decide +kernel)
theorem sw_size : Cond.static yL_size ∈ TB := tb_at 1312 (by decide +kernel) (by decide +kernel)
theorem dw_size_3 : decode cL_size 3 = .ok (.invokevirtual 86, 3) := by decide +kernel
theorem dw_size_6 : decode cL_size 6 = .ok (.ireturn, 1) := by decide +kernel
theorem dw_size_7 : decode cL_size 7 = .ok (.astore_n 3, 1) := by decide +kernel
theorem dw_size_8 : decode cL_size 8 = .ok (.ldc 15, 2) := by decide +kernel
theorem dw_size_10 : decode cL_size 10 = .ok (.ireturn, 1) := by decide +kernel
theorem dw_size_11 : decode cL_size 11 = .ok (.astore_n 3, 1) := by decide +kernel
theorem dw_size_12 : decode cL_size 12 = .ok (.ldc 21, 2) := by decide +kernel
theorem dw_size_14 : decode cL_size 14 = .ok (.ireturn, 1) := by decide +kernel
theorem ow_size : oks 12 cL_size 0 [(.aload_n 0, 1, (0, 0, 0)), (.iload_n 1, 1, (0, 0, 0)), (.iload_n 2, 1, (0, 0, 0))] = true ∧ plen 0 [(.aload_n 0, 1, (0, 0, 0)), (.iload_n 1, 1, (0, 0, 0)), (.iload_n 2, 1, (0, 0, 0))] = 3 := by decide +kernel
theorem wc_size (l : Launch) (hl : l.stackTraces = false) (d : Nat) (hd : 110 ≤ d) (a1 : Int) (a2 : Bool) (σ : Sg) (k : Int) (q : ((Int ⊕ Nat) × Sg)) (h : F_X10_size a1 a2 σ = some q) (hk : kL [0, 2] q.1 = some k) : CTW l d 1 yL_size (wsH yL_size cL_size 4 hh_size) [.inr 0, .inl a1, .inl (b2i a2)] σ k q.2 := by
  obtain ⟨d, rfl⟩ : ∃ e, d = e + 1 := ⟨d - 1, by omega⟩
  intro D cI cZ ax sz cvs hv hax hσ
  refine va_MetW (cc := cL_size) (maxL := 4) (ret := some .int) (hh := hh_size) (by decide +kernel) rfl ?_
  intro p e s m args below meth c s₁ B hml hp
  obtain ⟨rfl, ⟨hsz, hP, hK, hDd⟩, hN, hT⟩ := hp
  subst hsz
  have hts := atoms_spec (ws := wsH yL_size cL_size 4 hh_size) B.pre
  have htab := vx_table (x := yL_size) B (hts _ List.mem_cons_self)
  have hC : Cx 12 cL_size 4 false p s m cvs.toArray meth c (AA ax s.heap.size) D cI cZ := ⟨B.exec, B.bytes, hml, findClass_of_methodNamed B.named, fun w hw => hts w (List.mem_cons_of_mem _ hw), B.notSynchronized, (fun h => by cases h), hK, fun q h => Or.inr h⟩
  have hct := lk_X10_size l hl d (by omega) a1 a2 σ q h
  have body : Rg p l e (headSpec (wsH yL_size cL_size 4 hh_size) (rmD (d + 1) 1 6)).room s m cvs.toArray below meth c (PwN D cI cZ ax s σ) 0 0 (MQ below (QR D cI cZ (AA ax s.heap.size) ax (some (.inl k)) (LAYC, q.2)) cvs.toArray s 1 6 (AA ax s.heap.size)) 4 0 [some (.inr 0), some (.inl a1), some (.inl (b2i a2)), none] [] := by
    refine rg_ops (S := ([], σ)) (S' := ([], σ)) (on := 12) ⟨B.exec, B.bytes⟩ ow_size (by decide) (L' := [some (.inr 0), some (.inl a1), some (.inl (b2i a2)), none]) (st' := [.inl (b2i a2), .inl a1, .inr 0]) rfl ?_
    obtain ⟨r, σ'⟩ := q
    cases r with
    | inl v =>
      obtain rfl : v = k := Option.some.inj hk
      refine wr_call (M1 := m_X10_size) (as := [.inl a1, .inl (b2i a2)]) (st := []) (z := ozI (.inl v)) (σ' := σ') (d := d + 1) hC hax rfl rfl (Nat.le_refl 1) (Nat.le_refl 6) dw_size_3 ln_12_86 im_X10_size mk_X10_size rfl rfl (Nat.le_of_ble_eq_true rfl) (Nat.le_refl _) hT hct (fun w hw => by cases hw; exact ⟨_, rfl⟩) (fun w hw => ?_) (fun E hE => by cases hE) _ rfl
      cases hw
      exact wr_iret hC (by decide) (by decide) dw_size_6 B.returns
    | inr E =>
      have hk2 : (if E ∈ ([0, 2] : List Nat) then some (cdE E) else none) = some k := hk
      have hE : E ∈ ([0, 2] : List Nat) := by
        by_cases z : E ∈ ([0, 2] : List Nat)
        · exact z
        · rw [if_neg z] at hk2; cases hk2
      rw [if_pos hE] at hk2
      obtain rfl : cdE E = k := Option.some.inj hk2
      refine wr_call (M1 := m_X10_size) (as := [.inl a1, .inl (b2i a2)]) (st := []) (z := ozI (.inr E)) (σ' := σ') (d := d + 1) hC hax rfl rfl (Nat.le_refl 1) (Nat.le_refl 6) dw_size_3 ln_12_86 im_X10_size mk_X10_size rfl rfl (Nat.le_of_ble_eq_true rfl) (Nat.le_refl _) hT hct (fun w hw => by cases hw) (fun w hw => by cases hw) (fun E2 hE2 H1 locs1 ls crest ce q9 hP1 hL1 hce hcv hcl => ?_) _ rfl
      cases hE2
      rcases List.mem_cons.mp hE with hE9 | hE
      · obtain rfl : E = 0 := hE9
        exact wr_exc (E := 0) (k := cdE 0) (j := 3) (n := 1) (ix := 15) hC hN hP1 hL1 (Nat.le_of_ble_eq_true rfl) hce hcv hcl [] ⟨0, 6, 7, 13⟩ [⟨0, 6, 11, 19⟩] (htab.trans rfl) (fun z hz => by cases hz) (by decide) (by decide) clw0 rfl (Or.inr ⟨rfl, 3, rfl, dw_size_7⟩) dw_size_8 (by decide +kernel) dw_size_10 (cdE_in _) B.returns
      rcases List.mem_cons.mp hE with hE9 | hE
      · obtain rfl : E = 2 := hE9
        exact wr_exc (E := 2) (k := cdE 2) (j := 3) (n := 1) (ix := 21) hC hN hP1 hL1 (Nat.le_of_ble_eq_true rfl) hce hcv hcl [⟨0, 6, 7, 13⟩] ⟨0, 6, 11, 19⟩ [] (htab.trans rfl) (fun z hz => by rcases List.mem_cons.mp hz with rfl | hz; exact ⟨by decide, exN 0, clw0, hN 2 0 (by decide) (by decide) (by decide)⟩; cases hz) (by decide) (by decide) clw2 rfl (Or.inr ⟨rfl, 3, rfl, dw_size_11⟩) dw_size_12 (by decide +kernel) dw_size_14 (cdE_in _) B.returns
      cases hE
  have hw := body ax s.heap [] _ [] ⟨rfl, hP, ⟨hDd.1, fun k q hk => Or.inl (List.mem_of_getElem? (mkW_adr hax hk))⟩, va_S.rf, hax, hσ, List.prefix_rfl⟩ (ent_lrs hv (Nat.le_of_ble_eq_true rfl)) trivial
  rw [lg_entry_eq]
  exact hw
def hh_missing : List (Nat × Nat × Nat × Nat) := [(0, 4, 5, 19)]
theorem cw_missing : Cond.codeWith yL_missing cL_missing 2 (some .int) hh_missing ∈ TB := tb_at 1352 (by decide +kernel) (by decide +kernel)
theorem sw_missing : Cond.static yL_missing ∈ TB := tb_at 1351 (by decide +kernel) (by decide +kernel)
theorem dw_missing_1 : decode cL_missing 1 = .ok (.invokevirtual 90, 3) := by decide +kernel
theorem dw_missing_4 : decode cL_missing 4 = .ok (.ireturn, 1) := by decide +kernel
theorem dw_missing_5 : decode cL_missing 5 = .ok (.astore_n 1, 1) := by decide +kernel
theorem dw_missing_6 : decode cL_missing 6 = .ok (.ldc 21, 2) := by decide +kernel
theorem dw_missing_8 : decode cL_missing 8 = .ok (.ireturn, 1) := by decide +kernel
theorem ow_missing : oks 12 cL_missing 0 [(.aload_n 0, 1, (0, 0, 0))] = true ∧ plen 0 [(.aload_n 0, 1, (0, 0, 0))] = 1 := by decide +kernel
theorem wc_missing (l : Launch) (hl : l.stackTraces = false) (d : Nat) (hd : 110 ≤ d)  (σ : Sg) (k : Int) (q : ((Int ⊕ Nat) × Sg)) (h : F_X10_missing σ = some q) (hk : kL [2] q.1 = some k) : CTW l d 1 yL_missing (wsH yL_missing cL_missing 2 hh_missing) [.inr 0] σ k q.2 := by
  obtain ⟨d, rfl⟩ : ∃ e, d = e + 1 := ⟨d - 1, by omega⟩
  intro D cI cZ ax sz cvs hv hax hσ
  refine va_MetW (cc := cL_missing) (maxL := 2) (ret := some .int) (hh := hh_missing) (by decide +kernel) rfl ?_
  intro p e s m args below meth c s₁ B hml hp
  obtain ⟨rfl, ⟨hsz, hP, hK, hDd⟩, hN, hT⟩ := hp
  subst hsz
  have hts := atoms_spec (ws := wsH yL_missing cL_missing 2 hh_missing) B.pre
  have htab := vx_table (x := yL_missing) B (hts _ List.mem_cons_self)
  have hC : Cx 12 cL_missing 2 false p s m cvs.toArray meth c (AA ax s.heap.size) D cI cZ := ⟨B.exec, B.bytes, hml, findClass_of_methodNamed B.named, fun w hw => hts w (List.mem_cons_of_mem _ hw), B.notSynchronized, (fun h => by cases h), hK, fun q h => Or.inr h⟩
  have hct := lk_X10_missing l hl d (by omega) σ q h
  have body : Rg p l e (headSpec (wsH yL_missing cL_missing 2 hh_missing) (rmD (d + 1) 1 6)).room s m cvs.toArray below meth c (PwN D cI cZ ax s σ) 0 0 (MQ below (QR D cI cZ (AA ax s.heap.size) ax (some (.inl k)) (LAYC, q.2)) cvs.toArray s 1 6 (AA ax s.heap.size)) 2 0 [some (.inr 0), none] [] := by
    refine rg_ops (S := ([], σ)) (S' := ([], σ)) (on := 12) ⟨B.exec, B.bytes⟩ ow_missing (by decide) (L' := [some (.inr 0), none]) (st' := [.inr 0]) rfl ?_
    obtain ⟨r, σ'⟩ := q
    cases r with
    | inl v =>
      obtain rfl : v = k := Option.some.inj hk
      refine wr_call (M1 := m_X10_missing) (as := []) (st := []) (z := ozI (.inl v)) (σ' := σ') (d := d + 1) hC hax rfl rfl (Nat.le_refl 1) (Nat.le_refl 6) dw_missing_1 ln_12_90 im_X10_missing mk_X10_missing rfl rfl (Nat.le_of_ble_eq_true rfl) (Nat.le_refl _) hT hct (fun w hw => by cases hw; exact ⟨_, rfl⟩) (fun w hw => ?_) (fun E hE => by cases hE) _ rfl
      cases hw
      exact wr_iret hC (by decide) (by decide) dw_missing_4 B.returns
    | inr E =>
      have hk2 : (if E ∈ ([2] : List Nat) then some (cdE E) else none) = some k := hk
      have hE : E ∈ ([2] : List Nat) := by
        by_cases z : E ∈ ([2] : List Nat)
        · exact z
        · rw [if_neg z] at hk2; cases hk2
      rw [if_pos hE] at hk2
      obtain rfl : cdE E = k := Option.some.inj hk2
      refine wr_call (M1 := m_X10_missing) (as := []) (st := []) (z := ozI (.inr E)) (σ' := σ') (d := d + 1) hC hax rfl rfl (Nat.le_refl 1) (Nat.le_refl 6) dw_missing_1 ln_12_90 im_X10_missing mk_X10_missing rfl rfl (Nat.le_of_ble_eq_true rfl) (Nat.le_refl _) hT hct (fun w hw => by cases hw) (fun w hw => by cases hw) (fun E2 hE2 H1 locs1 ls crest ce q9 hP1 hL1 hce hcv hcl => ?_) _ rfl
      cases hE2
      rcases List.mem_cons.mp hE with hE9 | hE
      · obtain rfl : E = 2 := hE9
        exact wr_exc (E := 2) (k := cdE 2) (j := 1) (n := 1) (ix := 21) hC hN hP1 hL1 (Nat.le_of_ble_eq_true rfl) hce hcv hcl [] ⟨0, 4, 5, 19⟩ [] (htab.trans rfl) (fun z hz => by cases hz) (by decide) (by decide) clw2 rfl (Or.inr ⟨rfl, 1, rfl, dw_missing_5⟩) dw_missing_6 (by decide +kernel) dw_missing_8 (cdE_in _) B.returns
      cases hE
  have hw := body ax s.heap [] _ [] ⟨rfl, hP, ⟨hDd.1, fun k q hk => Or.inl (List.mem_of_getElem? (mkW_adr hax hk))⟩, va_S.rf, hax, hσ, List.prefix_rfl⟩ (ent_lrs hv (Nat.le_of_ble_eq_true rfl)) trivial
  rw [lg_entry_eq]
  exact hw
def hh_example : List (Nat × Nat × Nat × Nat) := [(0, 5, 6, 19)]
theorem cw_example : Cond.codeWith yL_example cL_example 3 (some .int) hh_example ∈ TB := tb_at 1363 (by decide +kernel) (by decide +kernel)
theorem sw_example : Cond.static yL_example ∈ TB := tb_at 1362 (by decide +kernel) (by decide +kernel)
theorem dw_example_2 : decode cL_example 2 = .ok (.invokevirtual 93, 3) := by decide +kernel
theorem dw_example_5 : decode cL_example 5 = .ok (.ireturn, 1) := by decide +kernel
theorem dw_example_6 : decode cL_example 6 = .ok (.astore_n 2, 1) := by decide +kernel
theorem dw_example_7 : decode cL_example 7 = .ok (.ldc 21, 2) := by decide +kernel
theorem dw_example_9 : decode cL_example 9 = .ok (.ireturn, 1) := by decide +kernel
theorem ow_example : oks 12 cL_example 0 [(.aload_n 0, 1, (0, 0, 0)), (.iload_n 1, 1, (0, 0, 0))] = true ∧ plen 0 [(.aload_n 0, 1, (0, 0, 0)), (.iload_n 1, 1, (0, 0, 0))] = 2 := by decide +kernel
theorem wc_example (l : Launch) (hl : l.stackTraces = false) (d : Nat) (hd : 110 ≤ d) (a1 : Int) (σ : Sg) (k : Int) (q : ((Int ⊕ Nat) × Sg)) (h : F_X10_example a1 σ = some q) (hk : kL [2] q.1 = some k) : CTW l d 1 yL_example (wsH yL_example cL_example 3 hh_example) [.inr 0, .inl a1] σ k q.2 := by
  obtain ⟨d, rfl⟩ : ∃ e, d = e + 1 := ⟨d - 1, by omega⟩
  intro D cI cZ ax sz cvs hv hax hσ
  refine va_MetW (cc := cL_example) (maxL := 3) (ret := some .int) (hh := hh_example) (by decide +kernel) rfl ?_
  intro p e s m args below meth c s₁ B hml hp
  obtain ⟨rfl, ⟨hsz, hP, hK, hDd⟩, hN, hT⟩ := hp
  subst hsz
  have hts := atoms_spec (ws := wsH yL_example cL_example 3 hh_example) B.pre
  have htab := vx_table (x := yL_example) B (hts _ List.mem_cons_self)
  have hC : Cx 12 cL_example 3 false p s m cvs.toArray meth c (AA ax s.heap.size) D cI cZ := ⟨B.exec, B.bytes, hml, findClass_of_methodNamed B.named, fun w hw => hts w (List.mem_cons_of_mem _ hw), B.notSynchronized, (fun h => by cases h), hK, fun q h => Or.inr h⟩
  have hct := lk_X10_example l hl d (by omega) a1 σ q h
  have body : Rg p l e (headSpec (wsH yL_example cL_example 3 hh_example) (rmD (d + 1) 1 6)).room s m cvs.toArray below meth c (PwN D cI cZ ax s σ) 0 0 (MQ below (QR D cI cZ (AA ax s.heap.size) ax (some (.inl k)) (LAYC, q.2)) cvs.toArray s 1 6 (AA ax s.heap.size)) 3 0 [some (.inr 0), some (.inl a1), none] [] := by
    refine rg_ops (S := ([], σ)) (S' := ([], σ)) (on := 12) ⟨B.exec, B.bytes⟩ ow_example (by decide) (L' := [some (.inr 0), some (.inl a1), none]) (st' := [.inl a1, .inr 0]) rfl ?_
    obtain ⟨r, σ'⟩ := q
    cases r with
    | inl v =>
      obtain rfl : v = k := Option.some.inj hk
      refine wr_call (M1 := m_X10_example) (as := [.inl a1]) (st := []) (z := ozI (.inl v)) (σ' := σ') (d := d + 1) hC hax rfl rfl (Nat.le_refl 1) (Nat.le_refl 6) dw_example_2 ln_12_93 im_X10_example mk_X10_example rfl rfl (Nat.le_of_ble_eq_true rfl) (Nat.le_refl _) hT hct (fun w hw => by cases hw; exact ⟨_, rfl⟩) (fun w hw => ?_) (fun E hE => by cases hE) _ rfl
      cases hw
      exact wr_iret hC (by decide) (by decide) dw_example_5 B.returns
    | inr E =>
      have hk2 : (if E ∈ ([2] : List Nat) then some (cdE E) else none) = some k := hk
      have hE : E ∈ ([2] : List Nat) := by
        by_cases z : E ∈ ([2] : List Nat)
        · exact z
        · rw [if_neg z] at hk2; cases hk2
      rw [if_pos hE] at hk2
      obtain rfl : cdE E = k := Option.some.inj hk2
      refine wr_call (M1 := m_X10_example) (as := [.inl a1]) (st := []) (z := ozI (.inr E)) (σ' := σ') (d := d + 1) hC hax rfl rfl (Nat.le_refl 1) (Nat.le_refl 6) dw_example_2 ln_12_93 im_X10_example mk_X10_example rfl rfl (Nat.le_of_ble_eq_true rfl) (Nat.le_refl _) hT hct (fun w hw => by cases hw) (fun w hw => by cases hw) (fun E2 hE2 H1 locs1 ls crest ce q9 hP1 hL1 hce hcv hcl => ?_) _ rfl
      cases hE2
      rcases List.mem_cons.mp hE with hE9 | hE
      · obtain rfl : E = 2 := hE9
        exact wr_exc (E := 2) (k := cdE 2) (j := 2) (n := 1) (ix := 21) hC hN hP1 hL1 (Nat.le_of_ble_eq_true rfl) hce hcv hcl [] ⟨0, 5, 6, 19⟩ [] (htab.trans rfl) (fun z hz => by cases hz) (by decide) (by decide) clw2 rfl (Or.inr ⟨rfl, 2, rfl, dw_example_6⟩) dw_example_7 (by decide +kernel) dw_example_9 (cdE_in _) B.returns
      cases hE
  have hw := body ax s.heap [] _ [] ⟨rfl, hP, ⟨hDd.1, fun k q hk => Or.inl (List.mem_of_getElem? (mkW_adr hax hk))⟩, va_S.rf, hax, hσ, List.prefix_rfl⟩ (ent_lrs hv (Nat.le_of_ble_eq_true rfl)) trivial
  rw [lg_entry_eq]
  exact hw
def hh_used : List (Nat × Nat × Nat × Nat) := [(0, 13, 14, 13), (0, 13, 18, 19)]
theorem cw_used : Cond.codeWith yL_used cL_used 3 (some .int) hh_used ∈ TB := tb_at 1302 (by decide +kernel) (by decide +kernel)
theorem sw_used : Cond.static yL_used ∈ TB := tb_at 1301 (by decide +kernel) (by decide +kernel)
theorem dw_used_2 : decode cL_used 2 = .ok (.invokevirtual 96, 3) := by decide +kernel
theorem dw_used_5 : decode cL_used 5 = .ok (.ifCond .eq 7, 3) := by decide +kernel
theorem dw_used_8 : decode cL_used 8 = .ok (.iconst 1, 1) := by decide +kernel
theorem dw_used_9 : decode cL_used 9 = .ok (.goto 4, 3) := by decide +kernel
theorem dw_used_12 : decode cL_used 12 = .ok (.iconst 0, 1) := by decide +kernel
theorem dw_used_13 : decode cL_used 13 = .ok (.ireturn, 1) := by decide +kernel
theorem dw_used_14 : decode cL_used 14 = .ok (.astore_n 2, 1) := by decide +kernel
theorem dw_used_15 : decode cL_used 15 = .ok (.ldc 15, 2) := by decide +kernel
theorem dw_used_17 : decode cL_used 17 = .ok (.ireturn, 1) := by decide +kernel
theorem dw_used_18 : decode cL_used 18 = .ok (.astore_n 2, 1) := by decide +kernel
theorem dw_used_19 : decode cL_used 19 = .ok (.ldc 21, 2) := by decide +kernel
theorem dw_used_21 : decode cL_used 21 = .ok (.ireturn, 1) := by decide +kernel
theorem ow_used : oks 12 cL_used 0 [(.aload_n 0, 1, (0, 0, 0)), (.iload_n 1, 1, (0, 0, 0))] = true ∧ plen 0 [(.aload_n 0, 1, (0, 0, 0)), (.iload_n 1, 1, (0, 0, 0))] = 2 := by decide +kernel
theorem wc_used (l : Launch) (hl : l.stackTraces = false) (d : Nat) (hd : 110 ≤ d) (a1 : Int) (σ : Sg) (k : Int) (q : ((Bool ⊕ Nat) × Sg)) (h : F_X10_isUsed a1 σ = some q) (hk : kLB [0, 2] q.1 = some k) : CTW l d 1 yL_used (wsH yL_used cL_used 3 hh_used) [.inr 0, .inl a1] σ k q.2 := by
  obtain ⟨d, rfl⟩ : ∃ e, d = e + 1 := ⟨d - 1, by omega⟩
  intro D cI cZ ax sz cvs hv hax hσ
  refine va_MetW (cc := cL_used) (maxL := 3) (ret := some .int) (hh := hh_used) (by decide +kernel) rfl ?_
  intro p e s m args below meth c s₁ B hml hp
  obtain ⟨rfl, ⟨hsz, hP, hK, hDd⟩, hN, hT⟩ := hp
  subst hsz
  have hts := atoms_spec (ws := wsH yL_used cL_used 3 hh_used) B.pre
  have htab := vx_table (x := yL_used) B (hts _ List.mem_cons_self)
  have hC : Cx 12 cL_used 3 false p s m cvs.toArray meth c (AA ax s.heap.size) D cI cZ := ⟨B.exec, B.bytes, hml, findClass_of_methodNamed B.named, fun w hw => hts w (List.mem_cons_of_mem _ hw), B.notSynchronized, (fun h => by cases h), hK, fun q h => Or.inr h⟩
  have hct := lk_X10_isUsed l hl d (by omega) a1 σ q h
  have body : Rg p l e (headSpec (wsH yL_used cL_used 3 hh_used) (rmD (d + 1) 1 6)).room s m cvs.toArray below meth c (PwN D cI cZ ax s σ) 0 0 (MQ below (QR D cI cZ (AA ax s.heap.size) ax (some (.inl k)) (LAYC, q.2)) cvs.toArray s 1 6 (AA ax s.heap.size)) 3 0 [some (.inr 0), some (.inl a1), none] [] := by
    refine rg_ops (S := ([], σ)) (S' := ([], σ)) (on := 12) ⟨B.exec, B.bytes⟩ ow_used (by decide) (L' := [some (.inr 0), some (.inl a1), none]) (st' := [.inl a1, .inr 0]) rfl ?_
    obtain ⟨r, σ'⟩ := q
    cases r with
    | inl v =>
      obtain rfl : b2i v = k := Option.some.inj hk
      refine wr_call (M1 := m_X10_isUsed) (as := [.inl a1]) (st := []) (z := ozB (.inl v)) (σ' := σ') (d := d + 1) hC hax rfl rfl (Nat.le_refl 1) (Nat.le_refl 6) dw_used_2 ln_12_96 im_X10_isUsed mk_X10_isUsed rfl rfl (Nat.le_of_ble_eq_true rfl) (Nat.le_refl _) hT hct (fun w hw => by cases hw; exact ⟨_, rfl⟩) (fun w hw => ?_) (fun E hE => by cases hE) _ rfl
      cases hw
      refine rl_if_eq hC dw_used_5 (tgt := 12) (by rfl) (fun hc => ?_) (fun hc => ?_)
      · obtain rfl : v = false := by cases v with
          | true => exact absurd hc (by decide)
          | false => rfl
        refine rl_ops (ops := [(.iconst 0, 1, (0, 0, 0))]) (S := ([], σ')) (S' := ([], σ')) hC (by decide +kernel) (by decide) (L' := [some (.inr 0), some (.inl a1), none]) (st' := [.inl 0]) (pc' := 13) rfl ?_
        exact wr_iret hC (by decide) (by decide) dw_used_13 B.returns
      · obtain rfl : v = true := by cases v with
          | true => rfl
          | false => exact absurd rfl hc
        refine rl_ops (ops := [(.iconst 1, 1, (0, 0, 0))]) (S := ([], σ')) (S' := ([], σ')) hC (by decide +kernel) (by decide) (L' := [some (.inr 0), some (.inl a1), none]) (st' := [.inl 1]) (pc' := 9) rfl ?_
        refine rl_goto hC dw_used_9 (tgt := 13) (by rfl) ?_
        exact wr_iret hC (by decide) (by decide) dw_used_13 B.returns
    | inr E =>
      have hk2 : (if E ∈ ([0, 2] : List Nat) then some (cdE E) else none) = some k := hk
      have hE : E ∈ ([0, 2] : List Nat) := by
        by_cases z : E ∈ ([0, 2] : List Nat)
        · exact z
        · rw [if_neg z] at hk2; cases hk2
      rw [if_pos hE] at hk2
      obtain rfl : cdE E = k := Option.some.inj hk2
      refine wr_call (M1 := m_X10_isUsed) (as := [.inl a1]) (st := []) (z := ozB (.inr E)) (σ' := σ') (d := d + 1) hC hax rfl rfl (Nat.le_refl 1) (Nat.le_refl 6) dw_used_2 ln_12_96 im_X10_isUsed mk_X10_isUsed rfl rfl (Nat.le_of_ble_eq_true rfl) (Nat.le_refl _) hT hct (fun w hw => by cases hw) (fun w hw => by cases hw) (fun E2 hE2 H1 locs1 ls crest ce q9 hP1 hL1 hce hcv hcl => ?_) _ rfl
      cases hE2
      rcases List.mem_cons.mp hE with hE9 | hE
      · obtain rfl : E = 0 := hE9
        exact wr_exc (E := 0) (k := cdE 0) (j := 2) (n := 1) (ix := 15) hC hN hP1 hL1 (Nat.le_of_ble_eq_true rfl) hce hcv hcl [] ⟨0, 13, 14, 13⟩ [⟨0, 13, 18, 19⟩] (htab.trans rfl) (fun z hz => by cases hz) (by decide) (by decide) clw0 rfl (Or.inr ⟨rfl, 2, rfl, dw_used_14⟩) dw_used_15 (by decide +kernel) dw_used_17 (cdE_in _) B.returns
      rcases List.mem_cons.mp hE with hE9 | hE
      · obtain rfl : E = 2 := hE9
        exact wr_exc (E := 2) (k := cdE 2) (j := 2) (n := 1) (ix := 21) hC hN hP1 hL1 (Nat.le_of_ble_eq_true rfl) hce hcv hcl [⟨0, 13, 14, 13⟩] ⟨0, 13, 18, 19⟩ [] (htab.trans rfl) (fun z hz => by rcases List.mem_cons.mp hz with rfl | hz; exact ⟨by decide, exN 0, clw0, hN 2 0 (by decide) (by decide) (by decide)⟩; cases hz) (by decide) (by decide) clw2 rfl (Or.inr ⟨rfl, 2, rfl, dw_used_18⟩) dw_used_19 (by decide +kernel) dw_used_21 (cdE_in _) B.returns
      cases hE
  have hw := body ax s.heap [] _ [] ⟨rfl, hP, ⟨hDd.1, fun k q hk => Or.inl (List.mem_of_getElem? (mkW_adr hax hk))⟩, va_S.rf, hax, hσ, List.prefix_rfl⟩ (ent_lrs hv (Nat.le_of_ble_eq_true rfl)) trivial
  rw [lg_entry_eq]
  exact hw
