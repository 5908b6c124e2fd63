/-! what the law draws -/
theorem dd_0 : decode cL_drawn 0 = .ok (.iload_n 1, 1) := by decide +kernel
theorem dd_1 : decode cL_drawn 1 = .ok (.aload_n 0, 1) := by decide +kernel
theorem dd_2 : decode cL_drawn 2 = .ok (.arraylength, 1) := by decide +kernel
theorem dd_3 : decode cL_drawn 3 = .ok (.if_icmp .ge 9, 3) := by decide +kernel
theorem dd_6 : decode cL_drawn 6 = .ok (.aload_n 0, 1) := by decide +kernel
theorem dd_7 : decode cL_drawn 7 = .ok (.iload_n 1, 1) := by decide +kernel
theorem dd_8 : decode cL_drawn 8 = .ok (.iaload, 1) := by decide +kernel
theorem dd_9 : decode cL_drawn 9 = .ok (.goto 13, 3) := by decide +kernel
theorem dd_12 : decode cL_drawn 12 = .ok (.ldc 100, 2) := by decide +kernel
theorem dd_14 : decode cL_drawn 14 = .ok (.iload_n 1, 1) := by decide +kernel
theorem dd_15 : decode cL_drawn 15 = .ok (.iconst 3, 1) := by decide +kernel
theorem dd_16 : decode cL_drawn 16 = .ok (.iadd, 1) := by decide +kernel
theorem dd_17 : decode cL_drawn 17 = .ok (.imul, 1) := by decide +kernel
theorem dd_18 : decode cL_drawn 18 = .ok (.sipush 14281, 3) := by decide +kernel
theorem dd_21 : decode cL_drawn 21 = .ok (.iadd, 1) := by decide +kernel
theorem dd_22 : decode cL_drawn 22 = .ok (.ldc 101, 2) := by decide +kernel
theorem dd_24 : decode cL_drawn 24 = .ok (.iand, 1) := by decide +kernel
theorem dd_25 : decode cL_drawn 25 = .ok (.ireturn, 1) := by decide +kernel
def drawnF (xs : Nat → Int32) (L9 : Nat) (k : Int) : Int := jand (if (L9 : Int) ≤ k then wrap (wrap (15526279 * wrap (k + 3)) + 14281) else (xs k.toNat).toInt) 2147483647
/-- the contract of a method that reads the script -/
def LD (l : Launch) (d : Nat) (b L9 : Nat) (xs : Nat → Int32) (k v : Int) : Prop :=
  ∀ (D : va_G) (cI cZ : ClassId) (sz : Nat) (cvs : List Value), vrs [b] [.inr 0, .inl k] cvs →
    Met l m_L_drawn.2.1 (wsM m_L_drawn.2.1 m_L_drawn.2.2.1 m_L_drawn.2.2.2.1 m_L_drawn.2.2.2.2) (rmD d 0 (6 * 0)) (va_Pc cvs (fun U => PreF D cI cZ [] sz [] U ∧ va_X b L9 xs U U.heap)) (QF D cI cZ [] sz (some v) []) 0 (6 * 0) (AFr [] sz)
theorem PBs_nil {D : va_G} {cI cZ : ClassId} {H : Heap} : PBs D cI cZ [] [] H := fun i f σ h => by cases i <;> cases h
theorem RBs_nil : RBs [] := fun σ h => by cases h
set_option maxHeartbeats 1000000 in
theorem ld_drawn (l : Launch) (d : Nat) (b L9 : Nat) (xs : Nat → Int32) (hL9 : L9 ≤ 3000) (k : Int) (hk : 0 ≤ k) : LD l d b L9 xs k (drawnF xs L9 k) := by
  intro D cI cZ sz cvs hv
  have hm := mok_L_drawn
  refine met_ofWF (cc := cL_drawn) (maxL := 2) (ret := some .int) hm.2.2.2.1 rfl ?_
  intro p e s m args below meth c s₁ B hml hp
  obtain ⟨rfl, ⟨hsz, -, hK, -, -⟩, hX⟩ := hp
  subst hsz
  have hts := atoms_spec (ws := wsM m_L_drawn.2.1 m_L_drawn.2.2.1 m_L_drawn.2.2.2.1 m_L_drawn.2.2.2.2) B.pre
  have hC : Cx 12 cL_drawn 2 false p s m cvs.toArray meth c (AFr [] s.heap.size) D cI cZ :=
    ⟨B.exec, B.bytes, hml, findClass_of_methodNamed B.named, fun w hw => hts w (List.mem_cons_of_mem _ hw), B.notSynchronized, (fun h => by cases h), hK, fun q h => Or.inr h⟩
  have hbl : b < s.heap.size := by
    obtain ⟨scr, h1, -⟩ := hX
    exact (Array.getElem?_eq_some_iff.mp h1).1
  have hbA : ¬ AFr [] s.heap.size b := by
    rintro (⟨f, hf, -⟩ | h)
    · cases hf
    · omega
  have fin : ∀ (y : Int) (Lx : List (Option AV)), jand y 2147483647 = drawnF xs L9 k → Rg p l e (headSpec (wsM m_L_drawn.2.1 m_L_drawn.2.2.1 m_L_drawn.2.2.2.1 m_L_drawn.2.2.2.2) (rmD d 0 (6 * 0))).room s m cvs.toArray below meth c (fun ads H locs => ads = [b] ∧ va_S (AFr [] s.heap.size) s.heap H locs) 0 0 (MQ below (QF D cI cZ [] s.heap.size (some (drawnF xs L9 k)) []) cvs.toArray s 0 (6 * 0) (AFr [] s.heap.size)) 2 22 Lx [.inl y] := fun y Lx hy => by
    refine rl_ldc hC dd_22 (n := 2147483647) (by decide +kernel) (by unfold inR; omega) ?_
    refine rg_iand ⟨hC.1, hC.2.1⟩ dd_24 ?_
    rw [hy]
    intro ads H locs ls cst hW hL hvv
    match cst, hvv with
    | [cv], hvv =>
      obtain ⟨hxr, rfl⟩ := vr_int hvv.1
      exact W.iret hC.1 hC.2.1 B.returns (fun t ht hw => ⟨⟨_, (), rfl, ⟨rfl, hxr⟩, PBs_nil, RBs_nil⟩, hW.2.F ht⟩) hW.2.2.2 dd_25 hC.2.2.2.2.2.1
    | _ :: _ :: _, hvv => exact hvv.2.elim
  have body : Rg p l e (headSpec (wsM m_L_drawn.2.1 m_L_drawn.2.2.1 m_L_drawn.2.2.2.1 m_L_drawn.2.2.2.2) (rmD d 0 (6 * 0))).room s m cvs.toArray below meth c (fun ads H locs => ads = [b] ∧ va_S (AFr [] s.heap.size) s.heap H locs) 0 0 (MQ below (QF D cI cZ [] s.heap.size (some (drawnF xs L9 k)) []) cvs.toArray s 0 (6 * 0) (AFr [] s.heap.size)) 2 0 [some (.inr 0), some (.inl k)] [] := by
    refine rg_iload_n ⟨hC.1, hC.2.1⟩ dd_0 (x := k) rfl ?_
    refine rg_aload_n ⟨hC.1, hC.2.1⟩ dd_1 (x := 0) rfl ?_
    have alen : Rg p l e (headSpec (wsM m_L_drawn.2.1 m_L_drawn.2.2.1 m_L_drawn.2.2.2.1 m_L_drawn.2.2.2.2) (rmD d 0 (6 * 0))).room s m cvs.toArray below meth c (fun ads H locs => ads = [b] ∧ va_S (AFr [] s.heap.size) s.heap H locs) 0 0 (MQ below (QF D cI cZ [] s.heap.size (some (drawnF xs L9 k)) []) cvs.toArray s 0 (6 * 0) (AFr [] s.heap.size)) 2 3 [some (.inr 0), some (.inl k)] [.inl (L9 : Int), .inl k] := by
      refine rl_icmp_ge hC dd_3 (tgt := 12) (by rfl) (fun hc => ?_) (fun hc => ?_)
      · refine rl_ops (ops := [(.ldc 100, 2, (0, 0, 15526279)), (.iload_n 1, 1, (0, 0, 0)), (.iconst 3, 1, (0, 0, 0)), (.iadd, 1, (0, 0, 0)), (.imul, 1, (0, 0, 0)), (.sipush 14281, 3, (0, 0, 0)), (.iadd, 1, (0, 0, 0))]) (S := ([], fun _ _ => 0)) (S' := ([], fun _ _ => 0)) hC (pc' := 22) (by decide +kernel) (by decide) (L' := [some (.inr 0), some (.inl k)]) (st' := [.inl (wrap (wrap (15526279 * wrap (k + 3)) + 14281))]) rfl ?_
        exact fin _ _ (by unfold drawnF; rw [if_pos hc])
      · refine rl_ops (ops := [(.aload_n 0, 1, (0, 0, 0)), (.iload_n 1, 1, (0, 0, 0))]) (S := ([], fun _ _ => 0)) (S' := ([], fun _ _ => 0)) hC (pc' := 8) (by decide +kernel) (by decide) (L' := [some (.inr 0), some (.inl k)]) (st' := [.inl k, .inr 0]) rfl ?_
        have k2 := rl_goto hC dd_9 (tgt := 22) (by rfl) (fin (xs k.toNat).toInt [some (.inr 0), some (.inl k)] (by unfold drawnF; rw [if_neg hc]))
        intro ads H locs ls cst hW hL hvv
        match cst, hvv with
        | c1 :: c2 :: crest, hvv =>
          obtain ⟨hir, rfl⟩ := vr_int hvv.1
          obtain ⟨a, ha, rfl⟩ := id hvv.2.1
          have : a = b := by rw [hW.1] at ha; exact (Option.some.inj ha).symm
          subst this
          have hnat : (Int32.ofInt k).toNatClampNeg = k.toNat := by
            rw [Int32.toNatClampNeg, i32_ofInt_toInt hir]
          refine va_sld (i := Int32.ofInt k) hC.1 hC.2.1 hX hbl hbA hW.2 ?_ dd_8 ?_
          · unfold vp_in
            rintro (h | h)
            · exact absurd ((i32_lt hir in0).mp h) (by omega)
            · rw [hnat] at h; omega
          · rw [hnat]
            exact k2 ads H locs ls _ hW hL ⟨⟨i32_toInt_in _, by rw [Int32.ofInt_toInt]⟩, hvv.2.2⟩
        | [c1], hvv => exact hvv.2.elim
    intro ads H locs ls cst hW hL hvv
    match cst, hvv with
    | c1 :: crest, hvv =>
      obtain ⟨a, ha, rfl⟩ := id hvv.1
      have : a = b := by rw [hW.1] at ha; exact (Option.some.inj ha).symm
      subst this
      refine va_slen hC.1 hC.2.1 hX hbl hbA hW.2 dd_2 ?_
      exact alen ads H locs ls _ hW hL ⟨⟨⟨by omega, by omega⟩, rfl⟩, hvv.2⟩
  have hw := body [b] s.heap [] _ [] ⟨rfl, va_S.rf⟩ (ent_lrs hv (Nat.le_of_ble_eq_true rfl)) trivial
  rw [lg_entry_eq]
  exact hw
theorem vr_rr {rs rs' : List Nat} {k k' a : Nat} (h : rs[k]? = some a) (h' : rs'[k']? = some a) : ∀ c, vr rs (.inr k) c → vr rs' (.inr k') c := fun c hc => by
  obtain ⟨b, hb, hq⟩ := hc
  rw [h] at hb
  obtain rfl : a = b := Option.some.inj hb
  exact ⟨a, h', hq⟩
theorem vrs_c {rs rs' : List Nat} {v v' : AV} {vs vs' : List AV} (h1 : ∀ c, vr rs v c → vr rs' v' c) (h2 : ∀ cas, vrs rs vs cas → vrs rs' vs' cas) : ∀ cas, vrs rs (v :: vs) cas → vrs rs' (v' :: vs') cas := fun cas h => by
  match cas, h with
  | c :: cas, h => exact ⟨h1 c h.1, h2 cas h.2⟩
