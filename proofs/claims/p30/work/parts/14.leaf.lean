/-! the leaves: refusals, cells of rows, a row filled, the tree of an engine -/
def thrW (ik ic E : Nat) : List Cond := Cond.classLink "Patternforge" ik (exN E) :: Cond.initialized (exN E) :: vx_atS "Patternforge" ic (exN E) ["java/lang/RuntimeException", "java/lang/Exception"]
theorem thr_in {ik ic E : Nat} (h : (thrW ik ic E).all (fun w => decide (w = .castable (exN E) (exN E)) || DL.any (fun Y => decide (w = .declares (Bundle.initS Y))) || (decide (w ∈ tables_1) && goodWord w)) = true) : ∀ w ∈ thrW ik ic E, (w = .castable (exN E) (exN E) ∨ ∃ Y ∈ DL, w = .declares (Bundle.initS Y)) ∨ w ∈ TB := by
  intro w hw
  have h1 := List.all_eq_true.mp h w hw
  simp only [Bool.or_eq_true, Bool.and_eq_true, decide_eq_true_eq, List.any_eq_true] at h1
  exact h1.imp id (fun h1 => tb_mem (by unfold lw_tbl; exact List.mem_append_right _ h1.1) h1.2)
theorem thr0_in : ∀ w ∈ thrW 314 318 0, (w = .castable (exN 0) (exN 0) ∨ ∃ Y ∈ DL, w = .declares (Bundle.initS Y)) ∨ w ∈ TB := thr_in (by decide +kernel)
theorem thr1_in : ∀ w ∈ thrW 321 325 1, (w = .castable (exN 1) (exN 1) ∨ ∃ Y ∈ DL, w = .declares (Bundle.initS Y)) ∨ w ∈ TB := thr_in (by decide +kernel)
theorem thr2_in : ∀ w ∈ thrW 326 330 2, (w = .castable (exN 2) (exN 2) ∨ ∃ Y ∈ DL, w = .declares (Bundle.initS Y)) ∨ w ∈ TB := thr_in (by decide +kernel)
theorem thr0_ot : ∀ w ∈ thrW 314 318 0, vx_ot w = true := List.all_eq_true.mp (by decide +kernel)
theorem thr1_ot : ∀ w ∈ thrW 321 325 1, vx_ot w = true := List.all_eq_true.mp (by decide +kernel)
theorem thr2_ot : ∀ w ∈ thrW 326 330 2, vx_ot w = true := List.all_eq_true.mp (by decide +kernel)
section GO
variable {l : Launch} {M : Mr} {d : Nat} {lay : List Lay} {z : Option AV ⊕ Nat} {σ' : Sg} {pc : Nat} {L : List (Option AV)} {st : List AV} {σ : Sg}
theorem go_throw {ik is ic E : Nat} {text : String} (hl : l.stackTraces = false) (hM : M.1 = 10) (hd6 : 6 ≤ d) (hin : ∀ w ∈ thrW ik ic E, (w = .castable (exN E) (exN E) ∨ ∃ Y ∈ DL, w = .declares (Bundle.initS Y)) ∨ w ∈ TB) (hot : ∀ w ∈ thrW ik ic E, vx_ot w = true) (hcls : Bundle.fit (exN E) = true)
    (hstr : ∀ (A : Nat → Prop) (U : State) (H : Heap), TH A U H → ∃ a, vk_R "Patternforge" is text a U)
    (d0 : decode M.2.2.1 pc = .ok (.new ik, 3)) (d3 : decode M.2.2.1 (pc + 3) = .ok (.dup, 1)) (d4 : decode M.2.2.1 (pc + 4) = .ok (.ldc_w is, 3)) (d7 : decode M.2.2.1 (pc + 7) = .ok (.invokespecial ic, 3)) (d10 : decode M.2.2.1 (pc + 10) = .ok (.athrow, 1)) :
    Go l M d lay (.inr E) σ pc L [] σ := by
  intro p e R s m args below meth c A D cI cZ ads0 hC hRf hRl h3 h4 ads H locs ls cst hW hL hv
  obtain ⟨⟨h5, h6⟩, hex, hTH, hAf⟩ := h3 E rfl
  match cst, hv with
  | [], _ =>
    obtain ⟨sa, hsa⟩ := hstr _ _ _ hTH
    have hown : s.vm.findClass "Patternforge" = some m.cls := by have := hC.2.2.2.1; rw [hM] at this; exact this
    have hN := hC.2.2.2.2.2.2.2.1.2
    have hts : ∀ w ∈ thrW ik ic E, w.before args s = true := fun w hw => (hin w hw).elim (fun e => e.elim (fun e => by rw [e]; exact va_Nw.use rfl (hN.2.1 E)) (fun e => by obtain ⟨Y, hY, e⟩ := e; rw [e]; exact va_Nw.use rfl (hN.2.2 Y hY))) (fun h => hC.2.2.2.2.1 w h)
    rw [Nat.sub_self, Nat.sub_self]
    refine vx_throwSW (own := "Patternforge") (cls := exN E) (names := ["java/lang/RuntimeException", "java/lang/Exception"]) hC.1 hC.2.1 hl hown hcls (by decide +kernel) (hts _ List.mem_cons_self) (hts _ (List.mem_cons_of_mem _ List.mem_cons_self)) hsa (fun w hw => hts w (List.mem_cons_of_mem _ (List.mem_cons_of_mem _ hw))) hot hTH.1 hTH.2.1 hW.2.2.1 (by rw [hL.1]; exact hC.2.2.1.symm) d0 d3 d4 d7 d10 (fun x hx => (hex x hx).elim) (by rw [hRf]; show 2 + 3 < d; omega) (by rw [hRl]; show 0 + (13 * (2 + 1) + 43) ≤ 40 * d; omega) (by omega) (by omega) hC.2.2.2.2.2.1 ?_ hW.2.2.1.2.2 (Nat.le_refl _) (Nat.le_refl _)
    intro t hal hsz hq
    have hA := hC.2.2.2.2.2.2.2.2
    refine ⟨ads, trivial, ⟨rfl, hW.1.kept (fun k q hk => hq _ (vx_lt hW.1 hk)), va_K.moved hal hC.2.2.2.2.2.2.2.1.1, hW.2.1, hW.2.2.2.1, hW.2.2.2.2.1, hW.2.2.2.2.2⟩, ?_⟩
    exact ⟨Nat.le_trans hW.2.2.1.1 hsz, fun q h1 h2 => (hq q (Nat.lt_of_lt_of_le h1 hW.2.2.1.1)).trans (hW.2.2.1.2.1 q h1 h2)⟩
theorem go_alen {k n : Nat} (hn : n < 2147483648) (hd : decode M.2.2.1 pc = .ok (.arraylength, 1)) (hk : lay[k]? = some (12, [n])) (kk : Go l M d lay z σ' (pc + 1) L (.inl (n : Int) :: st) σ) : Go l M d lay z σ' pc L (.inr k :: st) σ :=
  fun p e R s m args below meth c A D cI cZ ads0 hC h1 h2 h3 h4 => rn_alen (S := (lay, σ)) hC hd hk (Or.inl rfl) hn (kk p e R s m args below meth c A D cI cZ ads0 hC h1 h2 h3 h4)
end GO
abbrev m_X10_at : Mr := (10, yX10_at, cX10_at, 2, (some .int))
abbrev m_X10_atOrZero : Mr := (10, yX10_atOrZero, cX10_atOrZero, 2, (some .int))
abbrev m_X10_put : Mr := (10, yX10_put, cX10_put, 3, none)
abbrev m_J7_fill_53178 : Mr := (15, yJ7_fill_53178, cJ7_fill_53178, 4, none)
abbrev m_X10_treeOf : Mr := (10, yX10_treeOf, cX10_treeOf, 2, (some (.object "Patternforge$Tree")))
abbrev m_X10_demandIndex : Mr := (10, yX10_demandIndex, cX10_demandIndex, 1, none)
abbrev m_X10_demandArgument : Mr := (10, yX10_demandArgument, cX10_demandArgument, 1, none)
abbrev m_X10_demandState : Mr := (10, yX10_demandState, cX10_demandState, 1, none)
theorem lk_X10_demandIndex (l : Launch) (d : Nat) (b : Bool) (hc : b = true) (lay : List Lay) (σ : Sg) : CT l d m_X10_demandIndex.2.1 m_X10_demandIndex.2.2.1 m_X10_demandIndex.2.2.2.1 m_X10_demandIndex.2.2.2.2 [.inl (b2i b)] (lay, σ) none (lay, σ) := by
  have key : Go l m_X10_demandIndex d lay (.inl none) σ 0 [some (.inl (b2i b))] [] σ := by
    refine go_ops (ops := [(.iload_n 0, 1, (0, 0, 0))]) (pc' := 1) (by decide +kernel) (L' := [some (.inl (b2i b))]) (st' := [.inl (b2i b)]) (σ1 := σ) rfl ?_
    refine go_ifb_ne (show decode cX10_demandIndex 1 = .ok (.ifCond .ne 14, 3) by decide +kernel) (by rfl) (fun _ => ?_) (fun h => absurd hc h)
    exact go_vret (show decode cX10_demandIndex 15 = .ok (.return_, 1) by decide +kernel) rfl
  have hf := go_ct (as := [.inl (b2i b)]) mok_X10_demandIndex (by rfl) (Nat.le_of_ble_eq_true rfl) key
  exact hf
theorem lkX_X10_demandIndex (l : Launch) (d : Nat) (hl : l.stackTraces = false) (hd : 6 ≤ d) (b : Bool) (hc : ¬ b = true) (lay : List Lay) (σ : Sg) : CX l d m_X10_demandIndex.2.1 m_X10_demandIndex.2.2.1 m_X10_demandIndex.2.2.2.1 m_X10_demandIndex.2.2.2.2 [.inl (b2i b)] (lay, σ) 0 (lay, σ) := by
  have key : Go l m_X10_demandIndex d lay (.inr 0) σ 0 [some (.inl (b2i b))] [] σ := by
    refine go_ops (ops := [(.iload_n 0, 1, (0, 0, 0))]) (pc' := 1) (by decide +kernel) (L' := [some (.inl (b2i b))]) (st' := [.inl (b2i b)]) (σ1 := σ) rfl ?_
    refine go_ifb_ne (show decode cX10_demandIndex 1 = .ok (.ifCond .ne 14, 3) by decide +kernel) (by rfl) (fun h => absurd h hc) (fun _ => ?_)
    exact go_throw hl rfl hd thr0_in thr0_ot (by decide +kernel) (fun _ _ _ h => h.2.2.1) (show decode cX10_demandIndex 4 = .ok (.new 314, 3) by decide +kernel) (show decode cX10_demandIndex 7 = .ok (.dup, 1) by decide +kernel) (show decode cX10_demandIndex 8 = .ok (.ldc_w 316, 3) by decide +kernel) (show decode cX10_demandIndex 11 = .ok (.invokespecial 318, 3) by decide +kernel) (show decode cX10_demandIndex 14 = .ok (.athrow, 1) by decide +kernel)
  have hf := go_co (as := [.inl (b2i b)]) mok_X10_demandIndex (fun _ _ => by decide +kernel) (by rfl) (Nat.le_of_ble_eq_true rfl) key
  exact hf
theorem lk_X10_demandArgument (l : Launch) (d : Nat) (b : Bool) (hc : b = true) (lay : List Lay) (σ : Sg) : CT l d m_X10_demandArgument.2.1 m_X10_demandArgument.2.2.1 m_X10_demandArgument.2.2.2.1 m_X10_demandArgument.2.2.2.2 [.inl (b2i b)] (lay, σ) none (lay, σ) := by
  have key : Go l m_X10_demandArgument d lay (.inl none) σ 0 [some (.inl (b2i b))] [] σ := by
    refine go_ops (ops := [(.iload_n 0, 1, (0, 0, 0))]) (pc' := 1) (by decide +kernel) (L' := [some (.inl (b2i b))]) (st' := [.inl (b2i b)]) (σ1 := σ) rfl ?_
    refine go_ifb_ne (show decode cX10_demandArgument 1 = .ok (.ifCond .ne 14, 3) by decide +kernel) (by rfl) (fun _ => ?_) (fun h => absurd hc h)
    exact go_vret (show decode cX10_demandArgument 15 = .ok (.return_, 1) by decide +kernel) rfl
  have hf := go_ct (as := [.inl (b2i b)]) mok_X10_demandArgument (by rfl) (Nat.le_of_ble_eq_true rfl) key
  exact hf
theorem lkX_X10_demandArgument (l : Launch) (d : Nat) (hl : l.stackTraces = false) (hd : 6 ≤ d) (b : Bool) (hc : ¬ b = true) (lay : List Lay) (σ : Sg) : CX l d m_X10_demandArgument.2.1 m_X10_demandArgument.2.2.1 m_X10_demandArgument.2.2.2.1 m_X10_demandArgument.2.2.2.2 [.inl (b2i b)] (lay, σ) 1 (lay, σ) := by
  have key : Go l m_X10_demandArgument d lay (.inr 1) σ 0 [some (.inl (b2i b))] [] σ := by
    refine go_ops (ops := [(.iload_n 0, 1, (0, 0, 0))]) (pc' := 1) (by decide +kernel) (L' := [some (.inl (b2i b))]) (st' := [.inl (b2i b)]) (σ1 := σ) rfl ?_
    refine go_ifb_ne (show decode cX10_demandArgument 1 = .ok (.ifCond .ne 14, 3) by decide +kernel) (by rfl) (fun h => absurd h hc) (fun _ => ?_)
    exact go_throw hl rfl hd thr1_in thr1_ot (by decide +kernel) (fun _ _ _ h => h.2.2.2.1) (show decode cX10_demandArgument 4 = .ok (.new 321, 3) by decide +kernel) (show decode cX10_demandArgument 7 = .ok (.dup, 1) by decide +kernel) (show decode cX10_demandArgument 8 = .ok (.ldc_w 323, 3) by decide +kernel) (show decode cX10_demandArgument 11 = .ok (.invokespecial 325, 3) by decide +kernel) (show decode cX10_demandArgument 14 = .ok (.athrow, 1) by decide +kernel)
  have hf := go_co (as := [.inl (b2i b)]) mok_X10_demandArgument (fun _ _ => by decide +kernel) (by rfl) (Nat.le_of_ble_eq_true rfl) key
  exact hf
theorem lk_X10_demandState (l : Launch) (d : Nat) (b : Bool) (hc : b = true) (lay : List Lay) (σ : Sg) : CT l d m_X10_demandState.2.1 m_X10_demandState.2.2.1 m_X10_demandState.2.2.2.1 m_X10_demandState.2.2.2.2 [.inl (b2i b)] (lay, σ) none (lay, σ) := by
  have key : Go l m_X10_demandState d lay (.inl none) σ 0 [some (.inl (b2i b))] [] σ := by
    refine go_ops (ops := [(.iload_n 0, 1, (0, 0, 0))]) (pc' := 1) (by decide +kernel) (L' := [some (.inl (b2i b))]) (st' := [.inl (b2i b)]) (σ1 := σ) rfl ?_
    refine go_ifb_ne (show decode cX10_demandState 1 = .ok (.ifCond .ne 14, 3) by decide +kernel) (by rfl) (fun _ => ?_) (fun h => absurd hc h)
    exact go_vret (show decode cX10_demandState 15 = .ok (.return_, 1) by decide +kernel) rfl
  have hf := go_ct (as := [.inl (b2i b)]) mok_X10_demandState (by rfl) (Nat.le_of_ble_eq_true rfl) key
  exact hf
theorem lkX_X10_demandState (l : Launch) (d : Nat) (hl : l.stackTraces = false) (hd : 6 ≤ d) (b : Bool) (hc : ¬ b = true) (lay : List Lay) (σ : Sg) : CX l d m_X10_demandState.2.1 m_X10_demandState.2.2.1 m_X10_demandState.2.2.2.1 m_X10_demandState.2.2.2.2 [.inl (b2i b)] (lay, σ) 2 (lay, σ) := by
  have key : Go l m_X10_demandState d lay (.inr 2) σ 0 [some (.inl (b2i b))] [] σ := by
    refine go_ops (ops := [(.iload_n 0, 1, (0, 0, 0))]) (pc' := 1) (by decide +kernel) (L' := [some (.inl (b2i b))]) (st' := [.inl (b2i b)]) (σ1 := σ) rfl ?_
    refine go_ifb_ne (show decode cX10_demandState 1 = .ok (.ifCond .ne 14, 3) by decide +kernel) (by rfl) (fun h => absurd h hc) (fun _ => ?_)
    exact go_throw hl rfl hd thr2_in thr2_ot (by decide +kernel) (fun _ _ _ h => h.2.2.2.2) (show decode cX10_demandState 4 = .ok (.new 326, 3) by decide +kernel) (show decode cX10_demandState 7 = .ok (.dup, 1) by decide +kernel) (show decode cX10_demandState 8 = .ok (.ldc_w 328, 3) by decide +kernel) (show decode cX10_demandState 11 = .ok (.invokespecial 330, 3) by decide +kernel) (show decode cX10_demandState 14 = .ok (.athrow, 1) by decide +kernel)
  have hf := go_co (as := [.inl (b2i b)]) mok_X10_demandState (fun _ _ => by decide +kernel) (by rfl) (Nat.le_of_ble_eq_true rfl) key
  exact hf
theorem lk_X10_at (l : Launch) (d : Nat) (lay : List Lay) (k n : Nat) (hk : lay[k]? = some (12, [n])) (σ : Sg) (i : Int) (hn : n < 100000 := by decide) : CT l d m_X10_at.2.1 m_X10_at.2.2.1 m_X10_at.2.2.2.1 m_X10_at.2.2.2.2 [.inr k, .inl i] (lay, σ) (some (.inl (rdD (-1) σ k n i))) (lay, σ) := by
  have key : Go l m_X10_at d lay (.inl (some (.inl (rdD (-1) σ k n i)))) σ 0 [some (.inr k), some (.inl i)] [] σ := by
    refine go_ops (ops := [(.iload_n 1, 1, (0, 0, 0))]) (pc' := 1) (by decide +kernel) (L' := [some (.inr k), some (.inl i)]) (st' := [.inl i]) (σ1 := σ) rfl ?_
    refine go_if_lt (show decode cX10_at 1 = .ok (.ifCond .lt 15, 3) by decide +kernel) (by rfl) (fun hc => ?_) (fun hc => ?_)
    · rw [show rdD (-1) σ k n i = (-1) from if_neg (by omega)]
      refine go_ops (ops := [(.iconst (-1), 1, (0, 0, 0))]) (pc' := 17) (by decide +kernel) (L' := [some (.inr k), some (.inl i)]) (st' := [.inl (-1)]) (σ1 := σ) rfl ?_
      exact go_iret (show decode cX10_at 17 = .ok (.ireturn, 1) by decide +kernel) rfl
    · refine go_ops (ops := [(.iload_n 1, 1, (0, 0, 0)), (.aload_n 0, 1, (0, 0, 0))]) (pc' := 6) (by decide +kernel) (L' := [some (.inr k), some (.inl i)]) (st' := [.inr k, .inl i]) (σ1 := σ) rfl ?_
      refine go_alen (by omega) (show decode cX10_at 6 = .ok (.arraylength, 1) by decide +kernel) hk ?_
      refine go_icmp_ge (show decode cX10_at 7 = .ok (.if_icmp .ge 9, 3) by decide +kernel) (by rfl) (fun hc2 => ?_) (fun hc2 => ?_)
      · rw [show rdD (-1) σ k n i = (-1) from if_neg (by omega)]
        refine go_ops (ops := [(.iconst (-1), 1, (0, 0, 0))]) (pc' := 17) (by decide +kernel) (L' := [some (.inr k), some (.inl i)]) (st' := [.inl (-1)]) (σ1 := σ) rfl ?_
        exact go_iret (show decode cX10_at 17 = .ok (.ireturn, 1) by decide +kernel) rfl
      · have h9 : 0 ≤ i ∧ i < n := by omega
        rw [show rdD (-1) σ k n i = σ k i.toNat from if_pos h9]
        refine go_ops (ops := [(.aload_n 0, 1, (0, 0, 0)), (.iload_n 1, 1, (0, 0, 0))]) (pc' := 12) (by decide +kernel) (L' := [some (.inr k), some (.inl i)]) (st' := [.inl i, .inr k]) (σ1 := σ) rfl ?_
        refine go_rd (k := k) (show decode cX10_at 12 = .ok (.iaload, 1) by decide +kernel) hk (if_pos h9) ?_
        refine go_goto (show decode cX10_at 13 = .ok (.goto 4, 3) by decide +kernel) (by rfl) ?_
        exact go_iret (show decode cX10_at 17 = .ok (.ireturn, 1) by decide +kernel) rfl
  have hf := go_ct (as := [.inr k, .inl i]) mok_X10_at (by rfl) (Nat.le_of_ble_eq_true rfl) key
  exact hf
theorem lk_X10_atOrZero (l : Launch) (d : Nat) (lay : List Lay) (k n : Nat) (hk : lay[k]? = some (12, [n])) (σ : Sg) (i : Int) (hn : n < 100000 := by decide) : CT l d m_X10_atOrZero.2.1 m_X10_atOrZero.2.2.1 m_X10_atOrZero.2.2.2.1 m_X10_atOrZero.2.2.2.2 [.inr k, .inl i] (lay, σ) (some (.inl (rdD 0 σ k n i))) (lay, σ) := by
  have key : Go l m_X10_atOrZero d lay (.inl (some (.inl (rdD 0 σ k n i)))) σ 0 [some (.inr k), some (.inl i)] [] σ := by
    refine go_ops (ops := [(.iload_n 1, 1, (0, 0, 0))]) (pc' := 1) (by decide +kernel) (L' := [some (.inr k), some (.inl i)]) (st' := [.inl i]) (σ1 := σ) rfl ?_
    refine go_if_lt (show decode cX10_atOrZero 1 = .ok (.ifCond .lt 15, 3) by decide +kernel) (by rfl) (fun hc => ?_) (fun hc => ?_)
    · rw [show rdD 0 σ k n i = 0 from if_neg (by omega)]
      refine go_ops (ops := [(.iconst 0, 1, (0, 0, 0))]) (pc' := 17) (by decide +kernel) (L' := [some (.inr k), some (.inl i)]) (st' := [.inl 0]) (σ1 := σ) rfl ?_
      exact go_iret (show decode cX10_atOrZero 17 = .ok (.ireturn, 1) by decide +kernel) rfl
    · refine go_ops (ops := [(.iload_n 1, 1, (0, 0, 0)), (.aload_n 0, 1, (0, 0, 0))]) (pc' := 6) (by decide +kernel) (L' := [some (.inr k), some (.inl i)]) (st' := [.inr k, .inl i]) (σ1 := σ) rfl ?_
      refine go_alen (by omega) (show decode cX10_atOrZero 6 = .ok (.arraylength, 1) by decide +kernel) hk ?_
      refine go_icmp_ge (show decode cX10_atOrZero 7 = .ok (.if_icmp .ge 9, 3) by decide +kernel) (by rfl) (fun hc2 => ?_) (fun hc2 => ?_)
      · rw [show rdD 0 σ k n i = 0 from if_neg (by omega)]
        refine go_ops (ops := [(.iconst 0, 1, (0, 0, 0))]) (pc' := 17) (by decide +kernel) (L' := [some (.inr k), some (.inl i)]) (st' := [.inl 0]) (σ1 := σ) rfl ?_
        exact go_iret (show decode cX10_atOrZero 17 = .ok (.ireturn, 1) by decide +kernel) rfl
      · have h9 : 0 ≤ i ∧ i < n := by omega
        rw [show rdD 0 σ k n i = σ k i.toNat from if_pos h9]
        refine go_ops (ops := [(.aload_n 0, 1, (0, 0, 0)), (.iload_n 1, 1, (0, 0, 0))]) (pc' := 12) (by decide +kernel) (L' := [some (.inr k), some (.inl i)]) (st' := [.inl i, .inr k]) (σ1 := σ) rfl ?_
        refine go_rd (k := k) (show decode cX10_atOrZero 12 = .ok (.iaload, 1) by decide +kernel) hk (if_pos h9) ?_
        refine go_goto (show decode cX10_atOrZero 13 = .ok (.goto 4, 3) by decide +kernel) (by rfl) ?_
        exact go_iret (show decode cX10_atOrZero 17 = .ok (.ireturn, 1) by decide +kernel) rfl
  have hf := go_ct (as := [.inr k, .inl i]) mok_X10_atOrZero (by rfl) (Nat.le_of_ble_eq_true rfl) key
  exact hf
theorem lk_X10_put (l : Launch) (d : Nat) (lay : List Lay) (k n : Nat) (hk : lay[k]? = some (12, [n])) (i x : Int) (σ1 : Sg) {σ : Sg} (h : σ1 = wrD σ k n i x) (hn : n < 100000 := by decide) : CT l d m_X10_put.2.1 m_X10_put.2.2.1 m_X10_put.2.2.2.1 m_X10_put.2.2.2.2 [.inr k, .inl i, .inl x] (lay, σ) none (lay, σ1) := by
  subst h
  have key : Go l m_X10_put d lay (.inl none) (wrD σ k n i x) 0 [some (.inr k), some (.inl i), some (.inl x)] [] σ := by
    refine go_ops (ops := [(.iload_n 1, 1, (0, 0, 0))]) (pc' := 1) (by decide +kernel) (L' := [some (.inr k), some (.inl i), some (.inl x)]) (st' := [.inl i]) (σ1 := σ) rfl ?_
    refine go_if_lt (show decode cX10_put 1 = .ok (.ifCond .lt 13, 3) by decide +kernel) (by rfl) (fun hc => ?_) (fun hc => ?_)
    · rw [show wrD σ k n i x = σ from if_neg (by omega)]
      exact go_vret (show decode cX10_put 14 = .ok (.return_, 1) by decide +kernel) rfl
    · refine go_ops (ops := [(.iload_n 1, 1, (0, 0, 0)), (.aload_n 0, 1, (0, 0, 0))]) (pc' := 6) (by decide +kernel) (L' := [some (.inr k), some (.inl i), some (.inl x)]) (st' := [.inr k, .inl i]) (σ1 := σ) rfl ?_
      refine go_alen (by omega) (show decode cX10_put 6 = .ok (.arraylength, 1) by decide +kernel) hk ?_
      refine go_icmp_ge (show decode cX10_put 7 = .ok (.if_icmp .ge 7, 3) by decide +kernel) (by rfl) (fun hc2 => ?_) (fun hc2 => ?_)
      · rw [show wrD σ k n i x = σ from if_neg (by omega)]
        exact go_vret (show decode cX10_put 14 = .ok (.return_, 1) by decide +kernel) rfl
      · have h9 : 0 ≤ i ∧ i < n := by omega
        rw [show wrD σ k n i x = up2 σ k i.toNat x from if_pos h9]
        refine go_ops (ops := [(.aload_n 0, 1, (0, 0, 0)), (.iload_n 1, 1, (0, 0, 0)), (.iload_n 2, 1, (0, 0, 0))]) (pc' := 13) (by decide +kernel) (L' := [some (.inr k), some (.inl i), some (.inl x)]) (st' := [.inl x, .inl i, .inr k]) (σ1 := σ) rfl ?_
        refine go_wr (k := k) (show decode cX10_put 13 = .ok (.iastore, 1) by decide +kernel) hk (if_pos h9) ?_
        exact go_vret (show decode cX10_put 14 = .ok (.return_, 1) by decide +kernel) rfl
  have hf := go_ct (as := [.inr k, .inl i, .inl x]) mok_X10_put (by rfl) (Nat.le_of_ble_eq_true rfl) key
  exact hf
theorem fillF_step {σ : Sg} {k : Nat} (j : Nat) (x : Int) : up2 (fillF σ k j x) k j x = fillF σ k (j + 1) x := by
  funext a b
  show (if a = k ∧ b = j then x else (if a = k ∧ b < j then x else σ a b)) = if a = k ∧ b < j + 1 then x else σ a b
  by_cases h1 : a = k ∧ b = j
  · rw [if_pos h1, if_pos (by omega)]
  · rw [if_neg h1]
    by_cases h2 : a = k ∧ b < j
    · rw [if_pos h2, if_pos (by omega)]
    · rw [if_neg h2, if_neg (by omega)]
theorem lk_J7_fill_53178 (l : Launch) (d : Nat) (lay : List Lay) (k n : Nat) (hk : lay[k]? = some (12, [n])) (x : Int) (σ1 : Sg) {σ : Sg} (h : σ1 = fillF σ k n x) (hn : n < 100000 := by decide) : CT l d m_J7_fill_53178.2.1 m_J7_fill_53178.2.2.1 m_J7_fill_53178.2.2.2.1 m_J7_fill_53178.2.2.2.2 [.inr k, .inl x] (lay, σ) none (lay, σ1) := by
  subst h
  have loop : ∀ (j i : Nat), i + j = n → Go l m_J7_fill_53178 d lay (.inl none) (fillF σ k n x) 5 [some (.inr k), some (.inl x), some (.inl (i : Int)), some (.inl (n : Int))] [] (fillF σ k i x) := by
    intro j
    induction j with
    | zero =>
      intro i hi
      obtain rfl : i = n := by omega
      refine go_ops (ops := [(.iload_n 2, 1, (0, 0, 0)), (.iload_n 3, 1, (0, 0, 0))]) (pc' := 7) (by decide +kernel) (L' := [some (.inr k), some (.inl x), some (.inl (i : Int)), some (.inl (i : Int))]) (st' := [.inl (i : Int), .inl (i : Int)]) (σ1 := fillF σ k i x) rfl ?_
      refine go_icmp_ge (show decode cJ7_fill_53178 7 = .ok (.if_icmp .ge 13, 3) by decide +kernel) (by rfl) (fun hc => ?_) (fun hc => absurd (Int.le_refl _) hc)
      exact go_vret (show decode cJ7_fill_53178 20 = .ok (.return_, 1) by decide +kernel) rfl
    | succ j ih =>
      intro i hi
      refine go_ops (ops := [(.iload_n 2, 1, (0, 0, 0)), (.iload_n 3, 1, (0, 0, 0))]) (pc' := 7) (by decide +kernel) (L' := [some (.inr k), some (.inl x), some (.inl (i : Int)), some (.inl (n : Int))]) (st' := [.inl (n : Int), .inl (i : Int)]) (σ1 := fillF σ k i x) rfl ?_
      refine go_icmp_ge (show decode cJ7_fill_53178 7 = .ok (.if_icmp .ge 13, 3) by decide +kernel) (by rfl) (fun hc => absurd hc (by omega)) (fun hc => ?_)
      refine go_ops (ops := [(.aload_n 0, 1, (0, 0, 0)), (.iload_n 2, 1, (0, 0, 0)), (.iload_n 1, 1, (0, 0, 0))]) (pc' := 13) (by decide +kernel) (L' := [some (.inr k), some (.inl x), some (.inl (i : Int)), some (.inl (n : Int))]) (st' := [.inl x, .inl (i : Int), .inr k]) (σ1 := fillF σ k i x) rfl ?_
      have h9 : (0 : Int) ≤ (i : Int) ∧ (i : Int) < (n : Int) := by omega
      refine go_wr (k := k) (σ1 := fillF σ k (i + 1) x) (show decode cJ7_fill_53178 13 = .ok (.iastore, 1) by decide +kernel) hk (by unfold wrn; rw [if_pos h9, Int.toNat_natCast, fillF_step]) ?_
      refine go_ops (ops := [(.iinc 2 1, 3, (0, 0, 0))]) (pc' := 17) (by decide +kernel) (L' := [some (.inr k), some (.inl x), some (.inl ((i + 1 : Nat) : Int)), some (.inl (n : Int))]) (st' := []) (σ1 := fillF σ k (i + 1) x) ?_ ?_
      · have hw : wrap ((i : Int) + 1) = ((i + 1 : Nat) : Int) := by rw [wrap_eq (by unfold inR; omega)]; omega
        rw [← hw]; rfl
      · refine go_goto (show decode cJ7_fill_53178 17 = .ok (.goto (-12), 3) by decide +kernel) (by rfl) ?_
        exact ih (i + 1) (by omega)
  have key : Go l m_J7_fill_53178 d lay (.inl none) (fillF σ k n x) 0 [some (.inr k), some (.inl x), none, none] [] σ := by
    refine go_ops (ops := [(.iconst 0, 1, (0, 0, 0)), (.istore_n 2, 1, (0, 0, 0)), (.aload_n 0, 1, (0, 0, 0))]) (pc' := 3) (by decide +kernel) (L' := [some (.inr k), some (.inl x), some (.inl 0), none]) (st' := [.inr k]) (σ1 := σ) rfl ?_
    refine go_alen (by omega) (show decode cJ7_fill_53178 3 = .ok (.arraylength, 1) by decide +kernel) hk ?_
    refine go_ops (ops := [(.istore_n 3, 1, (0, 0, 0))]) (pc' := 5) (by decide +kernel) (L' := [some (.inr k), some (.inl x), some (.inl 0), some (.inl (n : Int))]) (st' := []) (σ1 := σ) rfl ?_
    have h0 : fillF σ k 0 x = σ := by funext a b; exact if_neg (by omega)
    have h1 := loop n 0 (by omega)
    rw [h0] at h1
    exact h1
  have hf := go_ct (as := [.inr k, .inl x]) mok_J7_fill_53178 (by rfl) (Nat.le_of_ble_eq_true rfl) key
  exact hf
theorem lk_X10_treeOf_49 (l : Launch) (d : Nat) (e : Int) (hc : e = 3) (σ : Sg) : CT l d m_X10_treeOf.2.1 m_X10_treeOf.2.2.1 m_X10_treeOf.2.2.2.1 m_X10_treeOf.2.2.2.2 [.inr 0, .inl e] (LAYC, σ) (some (.inr 49)) (LAYC, σ) := by
  have key : Go l m_X10_treeOf d LAYC (.inl (some (.inr 49))) σ 0 [some (.inr 0), some (.inl e)] [] σ := by
    refine go_ops (ops := [(.iload_n 1, 1, (0, 0, 0)), (.iconst 3, 1, (0, 0, 0))]) (pc' := 2) (by decide +kernel) (L' := [some (.inr 0), some (.inl e)]) (st' := [.inl 3, .inl e]) (σ1 := σ) rfl ?_
    refine go_icmp_ne (show decode cX10_treeOf 2 = .ok (.if_icmp .ne 10, 3) by decide +kernel) (by rfl) (fun h => absurd hc h) (fun _ => ?_)
    refine go_ops (ops := [(.aload_n 0, 1, (0, 0, 0)), (.getfield 83, 3, (10, 9, 0))]) (pc' := 9) (by decide +kernel) (L' := [some (.inr 0), some (.inl e)]) (st' := [.inr 49]) (σ1 := σ) rfl ?_
    refine go_goto (show decode cX10_treeOf 9 = .ok (.goto 7, 3) by decide +kernel) (by rfl) ?_
    exact go_aret (show decode cX10_treeOf 16 = .ok (.areturn, 1) by decide +kernel) rfl
  have hf := go_ct (as := [.inr 0, .inl e]) mok_X10_treeOf (by rfl) (Nat.le_of_ble_eq_true rfl) key
  exact hf
theorem lk_X10_treeOf_43 (l : Launch) (d : Nat) (e : Int) (hc : ¬ e = 3) (σ : Sg) : CT l d m_X10_treeOf.2.1 m_X10_treeOf.2.2.1 m_X10_treeOf.2.2.2.1 m_X10_treeOf.2.2.2.2 [.inr 0, .inl e] (LAYC, σ) (some (.inr 43)) (LAYC, σ) := by
  have key : Go l m_X10_treeOf d LAYC (.inl (some (.inr 43))) σ 0 [some (.inr 0), some (.inl e)] [] σ := by
    refine go_ops (ops := [(.iload_n 1, 1, (0, 0, 0)), (.iconst 3, 1, (0, 0, 0))]) (pc' := 2) (by decide +kernel) (L' := [some (.inr 0), some (.inl e)]) (st' := [.inl 3, .inl e]) (σ1 := σ) rfl ?_
    refine go_icmp_ne (show decode cX10_treeOf 2 = .ok (.if_icmp .ne 10, 3) by decide +kernel) (by rfl) (fun _ => ?_) (fun h => absurd h hc)
    refine go_ops (ops := [(.aload_n 0, 1, (0, 0, 0)), (.getfield 79, 3, (10, 8, 0))]) (pc' := 16) (by decide +kernel) (L' := [some (.inr 0), some (.inl e)]) (st' := [.inr 43]) (σ1 := σ) rfl ?_
    exact go_aret (show decode cX10_treeOf 16 = .ok (.areturn, 1) by decide +kernel) rfl
  have hf := go_ct (as := [.inr 0, .inl e]) mok_X10_treeOf (by rfl) (Nat.le_of_ble_eq_true rfl) key
  exact hf
