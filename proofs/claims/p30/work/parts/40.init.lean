/-! the constructors: a run in which the world grows -/
def Gi (l : Launch) (M : Mr) (d : Nat) (l0 lf : List Lay) (σf : Sg) (pc : Nat) (L : List (Option AV)) (st : List AV) (lay : List Lay) (σ : Sg) : Prop :=
  ∀ (p : Program) (e : Env) (R : Room) (s : State) (m : MethodId) (args : Array Value) (below : List Frame) (meth : Method) (c : Code) (A : Nat → Prop) (D : va_G) (cI cZ : ClassId) (ads0 : List Nat),
    Cx M.1 M.2.2.1 M.2.2.2.1 (M.2.1.name == "<init>") p s m args meth c A D cI cZ → R.frames = d → R.locals = 40 * d → R.cells = lf.length - l0.length → R.slots = nSl lf - nSl l0 → meth.sig.returnType = M.2.2.2.2 →
    Rn p l e R s m args below meth c A D cI cZ (MQ below (QR D cI cZ A ads0 none (lf, σf)) args s (lf.length - l0.length) (nSl lf - nSl l0) A) M.2.2.2.1 ads0 l0.length (nSl l0) pc L st (lay, σ)
def gck (l0 lf lay : List Lay) (n k : Nat) : Bool := layOK lay && Nat.ble l0.length lay.length && Nat.ble (nSl l0) (nSl lay) && Nat.ble (lay.length + n) lf.length && Nat.ble (nSl lay + k) (nSl lf)
theorem gck_spec {l0 lf lay : List Lay} {n k : Nat} (h : gck l0 lf lay n k = true) : layOK lay = true ∧ l0.length ≤ lay.length ∧ nSl l0 ≤ nSl lay ∧ lay.length + n ≤ l0.length + (lf.length - l0.length) ∧ nSl lay + k ≤ nSl l0 + (nSl lf - nSl l0) := by
  unfold gck at h
  simp only [Bool.and_eq_true, Nat.ble_eq] at h
  obtain ⟨⟨⟨⟨h1, h2⟩, h3⟩, h4⟩, h5⟩ := h
  exact ⟨h1, h2, h3, by omega, by omega⟩
theorem gi_ct {l : Launch} {M : Mr} {d n : Nat} {l0 lf : List Lay} {σ σf : Sg} {as : List AV} (hm : MOK M.2.1 M.2.2.1 M.2.2.2.1 M.2.2.2.2 n) (hy : M.2.1.cls = ownN M.1) (hn : as.length ≤ M.2.2.2.1) (k : Gi l M d l0 lf σf 0 (entL M.2.2.2.1 as) [] l0 σ) :
    CT l d M.2.1 M.2.2.1 M.2.2.2.1 M.2.2.2.2 as (l0, σ) none (lf, σf) :=
  ct_of hm hy hn (fun p e R s m args below meth c A D cI cZ ads0 hC hR hr => k p e R s m args below meth c A D cI cZ ads0 hC (by rw [hR]; rfl) (by rw [hR]; rfl) (by rw [hR]; rfl) (by rw [hR]; rfl) hr)
section GI
variable {l : Launch} {M : Mr} {d : Nat} {l0 lf : List Lay} {σf : Sg} {pc : Nat} {L : List (Option AV)} {st : List AV} {lay : List Lay} {σ : Sg}
theorem gi_ops {ops : List OpR} {pc' : Nat} {L' : List (Option AV)} {st' : List AV} {σ1 : Sg} (ho : oks M.1 M.2.2.1 pc ops = true ∧ plen pc ops = pc') (hx : exs ops (L, st, (lay, σ)) = some (L', st', (lay, σ1)))
    (k : Gi l M d l0 lf σf pc' L' st' lay σ1) : Gi l M d l0 lf σf pc L st lay σ :=
  fun p e R s m args below meth c A D cI cZ ads0 hC h1 h2 h3 h4 h5 => rn_ops hC ho hx (k p e R s m args below meth c A D cI cZ ads0 hC h1 h2 h3 h4 h5)
theorem gi_goto {off : Int} {tgt : Nat} (hd : decode M.2.2.1 pc = .ok (.goto off, 3)) (ht : (pc : Int) + off = (tgt : Int)) (k : Gi l M d l0 lf σf tgt L st lay σ) : Gi l M d l0 lf σf pc L st lay σ :=
  fun p e R s m args below meth c A D cI cZ ads0 hC h1 h2 h3 h4 h5 => rn_goto hC hd ht (k p e R s m args below meth c A D cI cZ ads0 hC h1 h2 h3 h4 h5)
theorem gi_icmp_ge {x y : Int} {off : Int} {tgt : Nat} (hd : decode M.2.2.1 pc = .ok (.if_icmp .ge off, 3)) (ht : (pc : Int) + off = (tgt : Int)) (kt : y ≤ x → Gi l M d l0 lf σf tgt L st lay σ) (kf : ¬ (y ≤ x) → Gi l M d l0 lf σf (pc + 3) L st lay σ) : Gi l M d l0 lf σf pc L (.inl y :: .inl x :: st) lay σ :=
  fun p e R s m args below meth c A D cI cZ ads0 hC h1 h2 h3 h4 h5 => rn_icmp_ge hC hd ht (fun h => kt h p e R s m args below meth c A D cI cZ ads0 hC h1 h2 h3 h4 h5) (fun h => kf h p e R s m args below meth c A D cI cZ ads0 hC h1 h2 h3 h4 h5)
theorem gi_vret (hd : decode M.2.2.1 pc = .ok (.return_, 1)) (hr : M.2.2.2.2 = none) : Gi l M d l0 lf σ pc L [] lf σ :=
  fun p e R s m args below meth c A D cI cZ ads0 hC h1 h2 h3 h4 h5 => rn_vret (S := (lf, σ)) hC hd (h5.trans hr)
theorem gi_obj {idx k : Nat} (hd : decode M.2.2.1 pc = .ok (.invokespecial idx, 3)) (hf : (M.1, idx) ∈ olk) (hst : st.length ≤ 20) (hd1 : 1 ≤ d) (kk : Gi l M d l0 lf σf (pc + 3) L st lay σ) : Gi l M d l0 lf σf pc L (.inr k :: st) lay σ :=
  fun p e R s m args below meth c A D cI cZ ads0 hC h1 h2 h3 h4 h5 => rn_obj (d := d) hC hd hf (by omega) (by rw [h2]; omega) (kk p e R s m args below meth c A D cI cZ ads0 hC h1 h2 h3 h4 h5)
theorem gi_newI {n : Int} {lay' : List Lay} {σ1 : Sg} (hd : decode M.2.2.1 pc = .ok (.newarray .int, 2)) (h01 : 0 ≤ n ∧ n < 100000) (hg : gck l0 lf lay 1 n.toNat = true) (he : lay ++ [(12, [n.toNat])] = lay') (hs : σ1 = fresh σ lay.length) (kk : Gi l M d l0 lf σf (pc + 2) L (.inr lay.length :: st) lay' σ1) : Gi l M d l0 lf σf pc L (.inl n :: st) lay σ := by
  subst he hs
  obtain ⟨g1, g2, g3, g4, g5⟩ := gck_spec hg
  exact fun p e R s m args below meth c A D cI cZ ads0 hC h1 h2 h3 h4 h5 => rn_newaI (S := (lay, σ)) hC hd h01.1 h01.2 g1 g2 g3 (by rw [h3]; exact g4) (by rw [h4]; exact g5) (kk p e R s m args below meth c A D cI cZ ads0 hC h1 h2 h3 h4 h5)
theorem gi_new {idx ci : Nat} {lay' : List Lay} {σ1 : Sg} (hd : decode M.2.2.1 pc = .ok (.new idx, 3)) (hf : (M.1, idx, ci) ∈ nlk) (hci : ci < 12) (hg : gck l0 lf lay 1 (fN.getD ci 0) = true) (he : lay ++ [(ci, sl0 ci)] = lay') (hs : σ1 = fresh σ lay.length) (kk : Gi l M d l0 lf σf (pc + 3) L (.inr lay.length :: st) lay' σ1) : Gi l M d l0 lf σf pc L st lay σ := by
  subst he hs
  obtain ⟨g1, g2, g3, g4, g5⟩ := gck_spec hg
  exact fun p e R s m args below meth c A D cI cZ ads0 hC h1 h2 h3 h4 h5 => rn_new (S := (lay, σ)) hC hd hf hci g1 g2 g3 (by rw [h3]; exact g4) (by rw [h4]; exact g5) (kk p e R s m args below meth c A D cI cZ ads0 hC h1 h2 h3 h4 h5)
theorem gi_putR {idx ci sl k r : Nat} {q : List Nat} {lay' : List Lay} (hd : decode M.2.2.1 pc = .ok (.putfield idx, 3)) (hf : (M.1, idx, ci, sl) ∈ flk) (hci : ci < 12) (hk : lay[k]? = some (ci, q)) (hs : sl < q.length) (ht : ftc ci sl = 2) (hfin : fFin ci sl = false ∨ ((M.2.1.name == "<init>") = true ∧ M.1 = ci)) (he : lay.set k (ci, q.set sl (r + 2)) = lay')
    (kk : Gi l M d l0 lf σf (pc + 3) L st lay' σ) : Gi l M d l0 lf σf pc L (.inr r :: .inr k :: st) lay σ := by
  subst he
  exact fun p e R s m args below meth c A D cI cZ ads0 hC h1 h2 h3 h4 h5 => rn_putR (S := (lay, σ)) hC hd hf hci hk hs ht hfin (kk p e R s m args below meth c A D cI cZ ads0 hC h1 h2 h3 h4 h5)
/-- a number or a truth value into a field, also a final one -/
theorem gi_putI {idx ci sl k : Nat} {q : List Nat} {x : Int} {σ1 : Sg} (hd : decode M.2.2.1 pc = .ok (.putfield idx, 3)) (hf : (M.1, idx, ci, sl) ∈ flk) (hci : ci < 12) (hk : lay[k]? = some (ci, q)) (hs : q[sl]? = some 0) (ht : ftc ci sl = 0 ∨ (ftc ci sl = 1 ∧ (x = 0 ∨ x = 1))) (hfin : fFin ci sl = false ∨ ((M.2.1.name == "<init>") = true ∧ M.1 = ci)) (he : σ1 = up2 σ k sl x)
    (kk : Gi l M d l0 lf σf (pc + 3) L st lay σ1) : Gi l M d l0 lf σf pc L (.inl x :: .inr k :: st) lay σ := by
  subst he
  exact fun p e R s m args below meth c A D cI cZ ads0 hC h1 h2 h3 h4 h5 => rn_putI (S := (lay, σ)) hC hd hf hci hk hs ht hfin (kk p e R s m args below meth c A D cI cZ ads0 hC h1 h2 h3 h4 h5)
theorem gi_iast {k n : Nat} {i x : Int} {σ1 : Sg} (hd : decode M.2.2.1 pc = .ok (.iastore, 1)) (hk : lay[k]? = some (12, [n])) (he : σ1 = up2 σ k i.toNat x) (h01 : 0 ≤ i ∧ i < n) (kk : Gi l M d l0 lf σf (pc + 1) L st lay σ1) : Gi l M d l0 lf σf pc L (.inl x :: .inl i :: .inr k :: st) lay σ := by
  subst he
  exact fun p e R s m args below meth c A D cI cZ ads0 hC h1 h2 h3 h4 h5 => rn_iast (S := (lay, σ)) hC hd hk h01.1 h01.2 (kk p e R s m args below meth c A D cI cZ ads0 hC h1 h2 h3 h4 h5)
section CALL
variable {M1 : Mr} {n idx d1 : Nat} {as : List AV} {lay1 : List Lay} {σ1 : Sg}
theorem gi_S (hd : decode M.2.2.1 pc = .ok (.invokestatic idx, 3)) (hl : Cond.methodLink (ownN M.1) idx M1.2.1 ∈ TB) (hs : Cond.static M1.2.1 ∈ TB) (hm : MOK M1.2.1 M1.2.2.1 M1.2.2.2.1 M1.2.2.2.2 n) (hr : M1.2.2.2.2 = none) (hn : as.length = n) (hst : st.length ≤ 8) (hd1 : d1 + 1 ≤ d) (hg : gck l0 lf lay 0 0 = true) (hg1 : gck lay lf lay1 0 0 = true) (hct : CT l d1 M1.2.1 M1.2.2.1 M1.2.2.2.1 M1.2.2.2.2 as (lay, σ) none (lay1, σ1)) (st0 : List AV) (hs0 : st0 = List.reverse as ++ st) (kk : Gi l M d l0 lf σf (pc + 3) L st lay1 σ1) : Gi l M d l0 lf σf pc L st0 lay σ := by
  rw [hr] at hm hct
  obtain ⟨g1, g2, g3, g4, g5⟩ := gck_spec hg
  obtain ⟨q1, q2, q3, q4, q5⟩ := gck_spec hg1
  exact fun p e R s m args below meth c A D cI cZ ads0 hC h1 h2 h3 h4 h5 => rn_call (S := (lay, σ)) (S' := (lay1, σ1)) (v := none) hC (fun ls => callG_S hC h1 h2 hd hl hs hm hn hst hd1) hct st0 hs0 g2 g3 q2 q3 (by rw [h3]; show lay1.length ≤ _; omega) (by rw [h4]; show nSl lay1 ≤ _; omega) (kk p e R s m args below meth c A D cI cZ ads0 hC h1 h2 h3 h4 h5)
theorem gi_SN {host : String} (hd : decode M.2.2.1 pc = .ok (.invokestatic idx, 3)) (hl : (ownN M.1, idx, M1.2.1, host) ∈ NL) (hs : Cond.static M1.2.1 ∈ TB) (hm : MOK M1.2.1 M1.2.2.1 M1.2.2.2.1 M1.2.2.2.2 n) (hr : M1.2.2.2.2 = none) (hn : as.length = n) (hst : st.length ≤ 8) (hd1 : d1 + 1 ≤ d) (hg : gck l0 lf lay 0 0 = true) (hg1 : gck lay lf lay1 0 0 = true) (hct : CT l d1 M1.2.1 M1.2.2.1 M1.2.2.2.1 M1.2.2.2.2 as (lay, σ) none (lay1, σ1)) (st0 : List AV) (hs0 : st0 = List.reverse as ++ st) (kk : Gi l M d l0 lf σf (pc + 3) L st lay1 σ1) : Gi l M d l0 lf σf pc L st0 lay σ := by
  rw [hr] at hm hct
  obtain ⟨g1, g2, g3, g4, g5⟩ := gck_spec hg
  obtain ⟨q1, q2, q3, q4, q5⟩ := gck_spec hg1
  exact fun p e R s m args below meth c A D cI cZ ads0 hC h1 h2 h3 h4 h5 => rn_call (S := (lay, σ)) (S' := (lay1, σ1)) (v := none) hC (fun ls => callG_SN hC h1 h2 hd hl hs hm hn hst hd1) hct st0 hs0 g2 g3 q2 q3 (by rw [h3]; show lay1.length ≤ _; omega) (by rw [h4]; show nSl lay1 ≤ _; omega) (kk p e R s m args below meth c A D cI cZ ads0 hC h1 h2 h3 h4 h5)
theorem gi_I {k : Nat} (hd : decode M.2.2.1 pc = .ok (.invokespecial idx, 3)) (hl : Cond.methodLink (ownN M.1) idx M1.2.1 ∈ TB) (hs : Cond.instanceMethod M1.2.1 ∈ TB) (hyn : M1.2.1.name = "<init>") (hm : MOK M1.2.1 M1.2.2.1 M1.2.2.2.1 M1.2.2.2.2 n) (hr : M1.2.2.2.2 = none) (hn : as.length = n) (hst : st.length ≤ 8) (hd1 : d1 + 1 ≤ d) (hg : gck l0 lf lay 0 0 = true) (hg1 : gck lay lf lay1 0 0 = true) (hct : CT l d1 M1.2.1 M1.2.2.1 M1.2.2.2.1 M1.2.2.2.2 (.inr k :: as) (lay, σ) none (lay1, σ1)) (st0 : List AV) (hs0 : st0 = List.reverse (.inr k :: as) ++ st) (kk : Gi l M d l0 lf σf (pc + 3) L st lay1 σ1) : Gi l M d l0 lf σf pc L st0 lay σ := by
  rw [hr] at hm hct
  obtain ⟨g1, g2, g3, g4, g5⟩ := gck_spec hg
  obtain ⟨q1, q2, q3, q4, q5⟩ := gck_spec hg1
  exact fun p e R s m args below meth c A D cI cZ ads0 hC h1 h2 h3 h4 h5 => rn_call (S := (lay, σ)) (S' := (lay1, σ1)) (v := none) hC (fun ls => callG_I hC h1 h2 hd hl hs hyn hm hn hst hd1) hct st0 hs0 g2 g3 q2 q3 (by rw [h3]; show lay1.length ≤ _; omega) (by rw [h4]; show nSl lay1 ≤ _; omega) (kk p e R s m args below meth c A D cI cZ ads0 hC h1 h2 h3 h4 h5)
theorem gi_IN {host : String} {k : Nat} (hd : decode M.2.2.1 pc = .ok (.invokespecial idx, 3)) (hl : (ownN M.1, idx, M1.2.1, host) ∈ NL) (hs : Cond.instanceMethod M1.2.1 ∈ TB) (hyn : M1.2.1.name = "<init>") (hm : MOK M1.2.1 M1.2.2.1 M1.2.2.2.1 M1.2.2.2.2 n) (hr : M1.2.2.2.2 = none) (hn : as.length = n) (hst : st.length ≤ 8) (hd1 : d1 + 1 ≤ d) (hg : gck l0 lf lay 0 0 = true) (hg1 : gck lay lf lay1 0 0 = true) (hct : CT l d1 M1.2.1 M1.2.2.1 M1.2.2.2.1 M1.2.2.2.2 (.inr k :: as) (lay, σ) none (lay1, σ1)) (st0 : List AV) (hs0 : st0 = List.reverse (.inr k :: as) ++ st) (kk : Gi l M d l0 lf σf (pc + 3) L st lay1 σ1) : Gi l M d l0 lf σf pc L st0 lay σ := by
  rw [hr] at hm hct
  obtain ⟨g1, g2, g3, g4, g5⟩ := gck_spec hg
  obtain ⟨q1, q2, q3, q4, q5⟩ := gck_spec hg1
  exact fun p e R s m args below meth c A D cI cZ ads0 hC h1 h2 h3 h4 h5 => rn_call (S := (lay, σ)) (S' := (lay1, σ1)) (v := none) hC (fun ls => callG_IN hC h1 h2 hd hl hs hyn hm hn hst hd1) hct st0 hs0 g2 g3 q2 q3 (by rw [h3]; show lay1.length ≤ _; omega) (by rw [h4]; show nSl lay1 ≤ _; omega) (kk p e R s m args below meth c A D cI cZ ads0 hC h1 h2 h3 h4 h5)
end CALL
end GI
abbrev m_X0_init : Mr := (0, yX0_init, cX0_init, 4, none)
theorem mk_X0_init : MOK m_X0_init.2.1 m_X0_init.2.2.1 m_X0_init.2.2.2.1 m_X0_init.2.2.2.2 3 := mok_X0_init
abbrev m_X1_init : Mr := (1, yX1_init, cX1_init, 4, none)
theorem mk_X1_init : MOK m_X1_init.2.1 m_X1_init.2.2.1 m_X1_init.2.2.2.1 m_X1_init.2.2.2.2 3 := mok_X1_init
abbrev m_X2_init : Mr := (2, yX2_init, cX2_init, 1, none)
theorem mk_X2_init : MOK m_X2_init.2.1 m_X2_init.2.2.1 m_X2_init.2.2.2.1 m_X2_init.2.2.2.2 0 := mok_X2_init
abbrev m_X3_init : Mr := (3, yX3_init, cX3_init, 5, none)
theorem mk_X3_init : MOK m_X3_init.2.1 m_X3_init.2.2.1 m_X3_init.2.2.2.1 m_X3_init.2.2.2.2 4 := mok_X3_init
abbrev m_X4_init : Mr := (4, yX4_init, cX4_init, 1, none)
theorem mk_X4_init : MOK m_X4_init.2.1 m_X4_init.2.2.1 m_X4_init.2.2.2.1 m_X4_init.2.2.2.2 0 := mok_X4_init
abbrev m_X5_init : Mr := (5, yX5_init, cX5_init, 1, none)
theorem mk_X5_init : MOK m_X5_init.2.1 m_X5_init.2.2.1 m_X5_init.2.2.2.1 m_X5_init.2.2.2.2 0 := mok_X5_init
abbrev m_X6_init : Mr := (6, yX6_init, cX6_init, 4, none)
theorem mk_X6_init : MOK m_X6_init.2.1 m_X6_init.2.2.1 m_X6_init.2.2.2.1 m_X6_init.2.2.2.2 3 := mok_X6_init
abbrev m_X7_init : Mr := (7, yX7_init, cX7_init, 4, none)
theorem mk_X7_init : MOK m_X7_init.2.1 m_X7_init.2.2.1 m_X7_init.2.2.2.1 m_X7_init.2.2.2.2 3 := mok_X7_init
abbrev m_X8_init : Mr := (8, yX8_init, cX8_init, 2, none)
theorem mk_X8_init : MOK m_X8_init.2.1 m_X8_init.2.2.1 m_X8_init.2.2.2.1 m_X8_init.2.2.2.2 0 := mok_X8_init
abbrev m_X9_init : Mr := (9, yX9_init, cX9_init, 2, none)
theorem mk_X9_init : MOK m_X9_init.2.1 m_X9_init.2.2.1 m_X9_init.2.2.2.1 m_X9_init.2.2.2.2 0 := mok_X9_init
abbrev m_X10_init : Mr := (10, yX10_init, cX10_init, 2, none)
theorem mk_X10_init : MOK m_X10_init.2.1 m_X10_init.2.2.1 m_X10_init.2.2.2.1 m_X10_init.2.2.2.2 0 := mok_X10_init
theorem dci_X0_init_1 : decode m_X0_init.2.2.1 1 = .ok (.invokespecial 3, 3) := by decide +kernel
theorem dci_X0_init_6 : decode m_X0_init.2.2.1 6 = .ok (.putfield 9, 3) := by decide +kernel
theorem dci_X0_init_11 : decode m_X0_init.2.2.1 11 = .ok (.putfield 15, 3) := by decide +kernel
theorem dci_X0_init_16 : decode m_X0_init.2.2.1 16 = .ok (.putfield 19, 3) := by decide +kernel
theorem dci_X0_init_23 : decode m_X0_init.2.2.1 23 = .ok (.newarray .int, 2) := by decide +kernel
theorem dci_X0_init_25 : decode m_X0_init.2.2.1 25 = .ok (.putfield 22, 3) := by decide +kernel
theorem dci_X0_init_32 : decode m_X0_init.2.2.1 32 = .ok (.newarray .int, 2) := by decide +kernel
theorem dci_X0_init_34 : decode m_X0_init.2.2.1 34 = .ok (.putfield 26, 3) := by decide +kernel
theorem dci_X0_init_39 : decode m_X0_init.2.2.1 39 = .ok (.newarray .int, 2) := by decide +kernel
theorem dci_X0_init_41 : decode m_X0_init.2.2.1 41 = .ok (.putfield 29, 3) := by decide +kernel
theorem dci_X0_init_46 : decode m_X0_init.2.2.1 46 = .ok (.putfield 32, 3) := by decide +kernel
theorem dci_X0_init_51 : decode m_X0_init.2.2.1 51 = .ok (.putfield 36, 3) := by decide +kernel
theorem dci_X0_init_56 : decode m_X0_init.2.2.1 56 = .ok (.putfield 40, 3) := by decide +kernel
theorem dci_X0_init_59 : decode m_X0_init.2.2.1 59 = .ok (.return_, 1) := by decide +kernel
theorem dci_X10_init_1 : decode m_X10_init.2.2.1 1 = .ok (.invokespecial 1, 3) := by decide +kernel
theorem dci_X10_init_5 : decode m_X10_init.2.2.1 5 = .ok (.new 7, 3) := by decide +kernel
theorem dci_X10_init_9 : decode m_X10_init.2.2.1 9 = .ok (.invokespecial 9, 3) := by decide +kernel
theorem dci_X10_init_12 : decode m_X10_init.2.2.1 12 = .ok (.putfield 10, 3) := by decide +kernel
theorem dci_X10_init_16 : decode m_X10_init.2.2.1 16 = .ok (.new 16, 3) := by decide +kernel
theorem dci_X10_init_20 : decode m_X10_init.2.2.1 20 = .ok (.invokespecial 18, 3) := by decide +kernel
theorem dci_X10_init_23 : decode m_X10_init.2.2.1 23 = .ok (.putfield 19, 3) := by decide +kernel
theorem dci_X10_init_27 : decode m_X10_init.2.2.1 27 = .ok (.new 23, 3) := by decide +kernel
theorem dci_X10_init_31 : decode m_X10_init.2.2.1 31 = .ok (.invokespecial 25, 3) := by decide +kernel
theorem dci_X10_init_34 : decode m_X10_init.2.2.1 34 = .ok (.putfield 26, 3) := by decide +kernel
theorem dci_X10_init_38 : decode m_X10_init.2.2.1 38 = .ok (.new 30, 3) := by decide +kernel
theorem dci_X10_init_42 : decode m_X10_init.2.2.1 42 = .ok (.invokespecial 32, 3) := by decide +kernel
theorem dci_X10_init_45 : decode m_X10_init.2.2.1 45 = .ok (.putfield 33, 3) := by decide +kernel
theorem dci_X10_init_49 : decode m_X10_init.2.2.1 49 = .ok (.new 37, 3) := by decide +kernel
theorem dci_X10_init_53 : decode m_X10_init.2.2.1 53 = .ok (.invokespecial 39, 3) := by decide +kernel
theorem dci_X10_init_56 : decode m_X10_init.2.2.1 56 = .ok (.putfield 40, 3) := by decide +kernel
theorem dci_X10_init_60 : decode m_X10_init.2.2.1 60 = .ok (.new 44, 3) := by decide +kernel
theorem dci_X10_init_76 : decode m_X10_init.2.2.1 76 = .ok (.invokespecial 46, 3) := by decide +kernel
theorem dci_X10_init_79 : decode m_X10_init.2.2.1 79 = .ok (.putfield 49, 3) := by decide +kernel
theorem dci_X10_init_83 : decode m_X10_init.2.2.1 83 = .ok (.new 53, 3) := by decide +kernel
theorem dci_X10_init_99 : decode m_X10_init.2.2.1 99 = .ok (.invokespecial 55, 3) := by decide +kernel
theorem dci_X10_init_102 : decode m_X10_init.2.2.1 102 = .ok (.putfield 58, 3) := by decide +kernel
theorem dci_X10_init_106 : decode m_X10_init.2.2.1 106 = .ok (.new 62, 3) := by decide +kernel
theorem dci_X10_init_122 : decode m_X10_init.2.2.1 122 = .ok (.invokespecial 64, 3) := by decide +kernel
theorem dci_X10_init_125 : decode m_X10_init.2.2.1 125 = .ok (.putfield 65, 3) := by decide +kernel
theorem dci_X10_init_128 : decode m_X10_init.2.2.1 128 = .ok (.new 69, 3) := by decide +kernel
theorem dci_X10_init_148 : decode m_X10_init.2.2.1 148 = .ok (.invokespecial 71, 3) := by decide +kernel
theorem dci_X10_init_153 : decode m_X10_init.2.2.1 153 = .ok (.new 74, 3) := by decide +kernel
theorem dci_X10_init_163 : decode m_X10_init.2.2.1 163 = .ok (.invokespecial 76, 3) := by decide +kernel
theorem dci_X10_init_166 : decode m_X10_init.2.2.1 166 = .ok (.putfield 79, 3) := by decide +kernel
theorem dci_X10_init_170 : decode m_X10_init.2.2.1 170 = .ok (.new 74, 3) := by decide +kernel
theorem dci_X10_init_180 : decode m_X10_init.2.2.1 180 = .ok (.invokespecial 76, 3) := by decide +kernel
theorem dci_X10_init_183 : decode m_X10_init.2.2.1 183 = .ok (.putfield 83, 3) := by decide +kernel
theorem dci_X10_init_186 : decode m_X10_init.2.2.1 186 = .ok (.return_, 1) := by decide +kernel
theorem dci_X1_init_1 : decode m_X1_init.2.2.1 1 = .ok (.invokespecial 3, 3) := by decide +kernel
theorem dci_X1_init_6 : decode m_X1_init.2.2.1 6 = .ok (.putfield 9, 3) := by decide +kernel
theorem dci_X1_init_11 : decode m_X1_init.2.2.1 11 = .ok (.putfield 15, 3) := by decide +kernel
theorem dci_X1_init_18 : decode m_X1_init.2.2.1 18 = .ok (.newarray .int, 2) := by decide +kernel
theorem dci_X1_init_20 : decode m_X1_init.2.2.1 20 = .ok (.putfield 18, 3) := by decide +kernel
theorem dci_X1_init_27 : decode m_X1_init.2.2.1 27 = .ok (.newarray .int, 2) := by decide +kernel
theorem dci_X1_init_29 : decode m_X1_init.2.2.1 29 = .ok (.putfield 22, 3) := by decide +kernel
theorem dci_X1_init_36 : decode m_X1_init.2.2.1 36 = .ok (.newarray .int, 2) := by decide +kernel
theorem dci_X1_init_38 : decode m_X1_init.2.2.1 38 = .ok (.putfield 25, 3) := by decide +kernel
theorem dci_X1_init_44 : decode m_X1_init.2.2.1 44 = .ok (.newarray .int, 2) := by decide +kernel
theorem dci_X1_init_46 : decode m_X1_init.2.2.1 46 = .ok (.putfield 28, 3) := by decide +kernel
theorem dci_X1_init_51 : decode m_X1_init.2.2.1 51 = .ok (.putfield 31, 3) := by decide +kernel
theorem dci_X1_init_56 : decode m_X1_init.2.2.1 56 = .ok (.putfield 35, 3) := by decide +kernel
theorem dci_X1_init_61 : decode m_X1_init.2.2.1 61 = .ok (.putfield 39, 3) := by decide +kernel
theorem dci_X1_init_69 : decode m_X1_init.2.2.1 69 = .ok (.invokestatic 43, 3) := by decide +kernel
theorem dci_X1_init_72 : decode m_X1_init.2.2.1 72 = .ok (.return_, 1) := by decide +kernel
theorem dci_X2_init_1 : decode m_X2_init.2.2.1 1 = .ok (.invokespecial 3, 3) := by decide +kernel
theorem dci_X2_init_6 : decode m_X2_init.2.2.1 6 = .ok (.newarray .int, 2) := by decide +kernel
theorem dci_X2_init_8 : decode m_X2_init.2.2.1 8 = .ok (.putfield 9, 3) := by decide +kernel
theorem dci_X2_init_14 : decode m_X2_init.2.2.1 14 = .ok (.newarray .int, 2) := by decide +kernel
theorem dci_X2_init_16 : decode m_X2_init.2.2.1 16 = .ok (.putfield 15, 3) := by decide +kernel
theorem dci_X2_init_22 : decode m_X2_init.2.2.1 22 = .ok (.newarray .int, 2) := by decide +kernel
theorem dci_X2_init_24 : decode m_X2_init.2.2.1 24 = .ok (.putfield 18, 3) := by decide +kernel
theorem dci_X2_init_27 : decode m_X2_init.2.2.1 27 = .ok (.return_, 1) := by decide +kernel
theorem dci_X3_init_1 : decode m_X3_init.2.2.1 1 = .ok (.invokespecial 3, 3) := by decide +kernel
theorem dci_X3_init_6 : decode m_X3_init.2.2.1 6 = .ok (.putfield 9, 3) := by decide +kernel
theorem dci_X3_init_11 : decode m_X3_init.2.2.1 11 = .ok (.putfield 15, 3) := by decide +kernel
theorem dci_X3_init_16 : decode m_X3_init.2.2.1 16 = .ok (.putfield 18, 3) := by decide +kernel
theorem dci_X3_init_21 : decode m_X3_init.2.2.1 21 = .ok (.putfield 21, 3) := by decide +kernel
theorem dci_X3_init_26 : decode m_X3_init.2.2.1 26 = .ok (.putfield 24, 3) := by decide +kernel
theorem dci_X3_init_33 : decode m_X3_init.2.2.1 33 = .ok (.newarray .int, 2) := by decide +kernel
theorem dci_X3_init_35 : decode m_X3_init.2.2.1 35 = .ok (.putfield 27, 3) := by decide +kernel
theorem dci_X3_init_42 : decode m_X3_init.2.2.1 42 = .ok (.newarray .int, 2) := by decide +kernel
theorem dci_X3_init_44 : decode m_X3_init.2.2.1 44 = .ok (.putfield 31, 3) := by decide +kernel
theorem dci_X3_init_50 : decode m_X3_init.2.2.1 50 = .ok (.newarray .int, 2) := by decide +kernel
theorem dci_X3_init_52 : decode m_X3_init.2.2.1 52 = .ok (.putfield 34, 3) := by decide +kernel
theorem dci_X3_init_58 : decode m_X3_init.2.2.1 58 = .ok (.newarray .int, 2) := by decide +kernel
theorem dci_X3_init_60 : decode m_X3_init.2.2.1 60 = .ok (.putfield 37, 3) := by decide +kernel
theorem dci_X3_init_67 : decode m_X3_init.2.2.1 67 = .ok (.newarray .int, 2) := by decide +kernel
theorem dci_X3_init_69 : decode m_X3_init.2.2.1 69 = .ok (.putfield 40, 3) := by decide +kernel
theorem dci_X3_init_74 : decode m_X3_init.2.2.1 74 = .ok (.putfield 43, 3) := by decide +kernel
theorem dci_X3_init_79 : decode m_X3_init.2.2.1 79 = .ok (.putfield 47, 3) := by decide +kernel
theorem dci_X3_init_84 : decode m_X3_init.2.2.1 84 = .ok (.putfield 51, 3) := by decide +kernel
theorem dci_X3_init_90 : decode m_X3_init.2.2.1 90 = .ok (.putfield 55, 3) := by decide +kernel
theorem dci_X3_init_93 : decode m_X3_init.2.2.1 93 = .ok (.return_, 1) := by decide +kernel
theorem dci_X4_init_1 : decode m_X4_init.2.2.1 1 = .ok (.invokespecial 3, 3) := by decide +kernel
theorem dci_X4_init_6 : decode m_X4_init.2.2.1 6 = .ok (.putfield 9, 3) := by decide +kernel
theorem dci_X4_init_11 : decode m_X4_init.2.2.1 11 = .ok (.putfield 15, 3) := by decide +kernel
theorem dci_X4_init_16 : decode m_X4_init.2.2.1 16 = .ok (.newarray .int, 2) := by decide +kernel
theorem dci_X4_init_18 : decode m_X4_init.2.2.1 18 = .ok (.putfield 18, 3) := by decide +kernel
theorem dci_X4_init_24 : decode m_X4_init.2.2.1 24 = .ok (.newarray .int, 2) := by decide +kernel
theorem dci_X4_init_26 : decode m_X4_init.2.2.1 26 = .ok (.putfield 22, 3) := by decide +kernel
theorem dci_X4_init_29 : decode m_X4_init.2.2.1 29 = .ok (.return_, 1) := by decide +kernel
theorem dci_X5_init_1 : decode m_X5_init.2.2.1 1 = .ok (.invokespecial 3, 3) := by decide +kernel
theorem dci_X5_init_6 : decode m_X5_init.2.2.1 6 = .ok (.putfield 9, 3) := by decide +kernel
theorem dci_X5_init_12 : decode m_X5_init.2.2.1 12 = .ok (.newarray .int, 2) := by decide +kernel
theorem dci_X5_init_14 : decode m_X5_init.2.2.1 14 = .ok (.putfield 15, 3) := by decide +kernel
theorem dci_X5_init_20 : decode m_X5_init.2.2.1 20 = .ok (.newarray .int, 2) := by decide +kernel
theorem dci_X5_init_22 : decode m_X5_init.2.2.1 22 = .ok (.putfield 19, 3) := by decide +kernel
theorem dci_X5_init_28 : decode m_X5_init.2.2.1 28 = .ok (.newarray .int, 2) := by decide +kernel
theorem dci_X5_init_30 : decode m_X5_init.2.2.1 30 = .ok (.putfield 22, 3) := by decide +kernel
theorem dci_X5_init_36 : decode m_X5_init.2.2.1 36 = .ok (.newarray .int, 2) := by decide +kernel
theorem dci_X5_init_38 : decode m_X5_init.2.2.1 38 = .ok (.putfield 25, 3) := by decide +kernel
theorem dci_X5_init_45 : decode m_X5_init.2.2.1 45 = .ok (.newarray .int, 2) := by decide +kernel
theorem dci_X5_init_47 : decode m_X5_init.2.2.1 47 = .ok (.putfield 28, 3) := by decide +kernel
theorem dci_X5_init_53 : decode m_X5_init.2.2.1 53 = .ok (.newarray .int, 2) := by decide +kernel
theorem dci_X5_init_55 : decode m_X5_init.2.2.1 55 = .ok (.putfield 31, 3) := by decide +kernel
theorem dci_X5_init_61 : decode m_X5_init.2.2.1 61 = .ok (.newarray .int, 2) := by decide +kernel
theorem dci_X5_init_63 : decode m_X5_init.2.2.1 63 = .ok (.putfield 34, 3) := by decide +kernel
theorem dci_X5_init_69 : decode m_X5_init.2.2.1 69 = .ok (.newarray .int, 2) := by decide +kernel
theorem dci_X5_init_71 : decode m_X5_init.2.2.1 71 = .ok (.putfield 37, 3) := by decide +kernel
theorem dci_X5_init_77 : decode m_X5_init.2.2.1 77 = .ok (.newarray .int, 2) := by decide +kernel
theorem dci_X5_init_79 : decode m_X5_init.2.2.1 79 = .ok (.putfield 40, 3) := by decide +kernel
theorem dci_X5_init_85 : decode m_X5_init.2.2.1 85 = .ok (.newarray .int, 2) := by decide +kernel
theorem dci_X5_init_87 : decode m_X5_init.2.2.1 87 = .ok (.putfield 43, 3) := by decide +kernel
theorem dci_X5_init_93 : decode m_X5_init.2.2.1 93 = .ok (.newarray .int, 2) := by decide +kernel
theorem dci_X5_init_95 : decode m_X5_init.2.2.1 95 = .ok (.putfield 46, 3) := by decide +kernel
theorem dci_X5_init_98 : decode m_X5_init.2.2.1 98 = .ok (.return_, 1) := by decide +kernel
theorem dci_X6_init_1 : decode m_X6_init.2.2.1 1 = .ok (.invokespecial 3, 3) := by decide +kernel
theorem dci_X6_init_6 : decode m_X6_init.2.2.1 6 = .ok (.putfield 9, 3) := by decide +kernel
theorem dci_X6_init_11 : decode m_X6_init.2.2.1 11 = .ok (.putfield 15, 3) := by decide +kernel
theorem dci_X6_init_16 : decode m_X6_init.2.2.1 16 = .ok (.putfield 19, 3) := by decide +kernel
theorem dci_X6_init_19 : decode m_X6_init.2.2.1 19 = .ok (.return_, 1) := by decide +kernel
theorem dci_X7_init_1 : decode m_X7_init.2.2.1 1 = .ok (.invokespecial 3, 3) := by decide +kernel
theorem dci_X7_init_6 : decode m_X7_init.2.2.1 6 = .ok (.putfield 9, 3) := by decide +kernel
theorem dci_X7_init_11 : decode m_X7_init.2.2.1 11 = .ok (.putfield 15, 3) := by decide +kernel
theorem dci_X7_init_16 : decode m_X7_init.2.2.1 16 = .ok (.putfield 19, 3) := by decide +kernel
theorem dci_X7_init_21 : decode m_X7_init.2.2.1 21 = .ok (.putfield 22, 3) := by decide +kernel
theorem dci_X7_init_26 : decode m_X7_init.2.2.1 26 = .ok (.putfield 25, 3) := by decide +kernel
theorem dci_X7_init_31 : decode m_X7_init.2.2.1 31 = .ok (.putfield 28, 3) := by decide +kernel
theorem dci_X7_init_36 : decode m_X7_init.2.2.1 36 = .ok (.putfield 31, 3) := by decide +kernel
theorem dci_X7_init_43 : decode m_X7_init.2.2.1 43 = .ok (.newarray .int, 2) := by decide +kernel
theorem dci_X7_init_45 : decode m_X7_init.2.2.1 45 = .ok (.putfield 34, 3) := by decide +kernel
theorem dci_X7_init_52 : decode m_X7_init.2.2.1 52 = .ok (.newarray .int, 2) := by decide +kernel
theorem dci_X7_init_54 : decode m_X7_init.2.2.1 54 = .ok (.putfield 38, 3) := by decide +kernel
theorem dci_X7_init_61 : decode m_X7_init.2.2.1 61 = .ok (.newarray .int, 2) := by decide +kernel
theorem dci_X7_init_63 : decode m_X7_init.2.2.1 63 = .ok (.putfield 41, 3) := by decide +kernel
theorem dci_X7_init_70 : decode m_X7_init.2.2.1 70 = .ok (.newarray .int, 2) := by decide +kernel
theorem dci_X7_init_72 : decode m_X7_init.2.2.1 72 = .ok (.putfield 44, 3) := by decide +kernel
theorem dci_X7_init_79 : decode m_X7_init.2.2.1 79 = .ok (.newarray .int, 2) := by decide +kernel
theorem dci_X7_init_81 : decode m_X7_init.2.2.1 81 = .ok (.putfield 47, 3) := by decide +kernel
theorem dci_X7_init_86 : decode m_X7_init.2.2.1 86 = .ok (.putfield 50, 3) := by decide +kernel
theorem dci_X7_init_91 : decode m_X7_init.2.2.1 91 = .ok (.putfield 54, 3) := by decide +kernel
theorem dci_X7_init_96 : decode m_X7_init.2.2.1 96 = .ok (.putfield 58, 3) := by decide +kernel
theorem dci_X7_init_99 : decode m_X7_init.2.2.1 99 = .ok (.return_, 1) := by decide +kernel
theorem dci_X8_init_1 : decode m_X8_init.2.2.1 1 = .ok (.invokespecial 3, 3) := by decide +kernel
theorem dci_X8_init_6 : decode m_X8_init.2.2.1 6 = .ok (.putfield 9, 3) := by decide +kernel
theorem dci_X8_init_12 : decode m_X8_init.2.2.1 12 = .ok (.newarray .int, 2) := by decide +kernel
theorem dci_X8_init_14 : decode m_X8_init.2.2.1 14 = .ok (.putfield 15, 3) := by decide +kernel
theorem dci_X8_init_20 : decode m_X8_init.2.2.1 20 = .ok (.newarray .int, 2) := by decide +kernel
theorem dci_X8_init_22 : decode m_X8_init.2.2.1 22 = .ok (.putfield 19, 3) := by decide +kernel
theorem dci_X8_init_28 : decode m_X8_init.2.2.1 28 = .ok (.newarray .int, 2) := by decide +kernel
theorem dci_X8_init_30 : decode m_X8_init.2.2.1 30 = .ok (.putfield 22, 3) := by decide +kernel
theorem dci_X8_init_37 : decode m_X8_init.2.2.1 37 = .ok (.newarray .int, 2) := by decide +kernel
theorem dci_X8_init_39 : decode m_X8_init.2.2.1 39 = .ok (.putfield 25, 3) := by decide +kernel
theorem dci_X8_init_47 : decode m_X8_init.2.2.1 47 = .ok (.invokestatic 28, 3) := by decide +kernel
theorem dci_X8_init_55 : decode m_X8_init.2.2.1 55 = .ok (.if_icmp .ge 45, 3) := by decide +kernel
theorem dci_X8_init_67 : decode m_X8_init.2.2.1 67 = .ok (.invokestatic 34, 3) := by decide +kernel
theorem dci_X8_init_79 : decode m_X8_init.2.2.1 79 = .ok (.invokestatic 34, 3) := by decide +kernel
theorem dci_X8_init_91 : decode m_X8_init.2.2.1 91 = .ok (.invokestatic 34, 3) := by decide +kernel
theorem dci_X8_init_97 : decode m_X8_init.2.2.1 97 = .ok (.goto (-45), 3) := by decide +kernel
theorem dci_X8_init_100 : decode m_X8_init.2.2.1 100 = .ok (.return_, 1) := by decide +kernel
theorem dci_X9_init_1 : decode m_X9_init.2.2.1 1 = .ok (.invokespecial 3, 3) := by decide +kernel
theorem dci_X9_init_7 : decode m_X9_init.2.2.1 7 = .ok (.newarray .int, 2) := by decide +kernel
theorem dci_X9_init_9 : decode m_X9_init.2.2.1 9 = .ok (.putfield 11, 3) := by decide +kernel
theorem dci_X9_init_16 : decode m_X9_init.2.2.1 16 = .ok (.if_icmp .ge 36, 3) := by decide +kernel
theorem dci_X9_init_29 : decode m_X9_init.2.2.1 29 = .ok (.invokestatic 15, 3) := by decide +kernel
theorem dci_X9_init_43 : decode m_X9_init.2.2.1 43 = .ok (.invokestatic 15, 3) := by decide +kernel
theorem dci_X9_init_49 : decode m_X9_init.2.2.1 49 = .ok (.goto (-35), 3) := by decide +kernel
theorem dci_X9_init_52 : decode m_X9_init.2.2.1 52 = .ok (.return_, 1) := by decide +kernel
theorem oki_X0_init_0_1 : oks m_X0_init.1 m_X0_init.2.2.1 0 [(.aload_n 0, 1, (0, 0, 0))] = true ∧ plen 0 [(.aload_n 0, 1, (0, 0, 0))] = 1 := by decide +kernel
theorem oki_X0_init_4_2 : oks m_X0_init.1 m_X0_init.2.2.1 4 [(.aload_n 0, 1, (0, 0, 0)), (.iconst 0, 1, (0, 0, 0))] = true ∧ plen 4 [(.aload_n 0, 1, (0, 0, 0)), (.iconst 0, 1, (0, 0, 0))] = 6 := by decide +kernel
theorem oki_X0_init_9_2 : oks m_X0_init.1 m_X0_init.2.2.1 9 [(.aload_n 0, 1, (0, 0, 0)), (.iconst 0, 1, (0, 0, 0))] = true ∧ plen 9 [(.aload_n 0, 1, (0, 0, 0)), (.iconst 0, 1, (0, 0, 0))] = 11 := by decide +kernel
theorem oki_X0_init_14_2 : oks m_X0_init.1 m_X0_init.2.2.1 14 [(.aload_n 0, 1, (0, 0, 0)), (.iconst 0, 1, (0, 0, 0))] = true ∧ plen 14 [(.aload_n 0, 1, (0, 0, 0)), (.iconst 0, 1, (0, 0, 0))] = 16 := by decide +kernel
theorem oki_X0_init_19_2 : oks m_X0_init.1 m_X0_init.2.2.1 19 [(.aload_n 0, 1, (0, 0, 0)), (.sipush 1969, 3, (0, 0, 0))] = true ∧ plen 19 [(.aload_n 0, 1, (0, 0, 0)), (.sipush 1969, 3, (0, 0, 0))] = 23 := by decide +kernel
theorem oki_X0_init_28_2 : oks m_X0_init.1 m_X0_init.2.2.1 28 [(.aload_n 0, 1, (0, 0, 0)), (.sipush 1969, 3, (0, 0, 0))] = true ∧ plen 28 [(.aload_n 0, 1, (0, 0, 0)), (.sipush 1969, 3, (0, 0, 0))] = 32 := by decide +kernel
theorem oki_X0_init_37_2 : oks m_X0_init.1 m_X0_init.2.2.1 37 [(.aload_n 0, 1, (0, 0, 0)), (.iconst 5, 1, (0, 0, 0))] = true ∧ plen 37 [(.aload_n 0, 1, (0, 0, 0)), (.iconst 5, 1, (0, 0, 0))] = 39 := by decide +kernel
theorem oki_X0_init_44_2 : oks m_X0_init.1 m_X0_init.2.2.1 44 [(.aload_n 0, 1, (0, 0, 0)), (.aload_n 1, 1, (0, 0, 0))] = true ∧ plen 44 [(.aload_n 0, 1, (0, 0, 0)), (.aload_n 1, 1, (0, 0, 0))] = 46 := by decide +kernel
theorem oki_X0_init_49_2 : oks m_X0_init.1 m_X0_init.2.2.1 49 [(.aload_n 0, 1, (0, 0, 0)), (.aload_n 2, 1, (0, 0, 0))] = true ∧ plen 49 [(.aload_n 0, 1, (0, 0, 0)), (.aload_n 2, 1, (0, 0, 0))] = 51 := by decide +kernel
theorem oki_X0_init_54_2 : oks m_X0_init.1 m_X0_init.2.2.1 54 [(.aload_n 0, 1, (0, 0, 0)), (.aload_n 3, 1, (0, 0, 0))] = true ∧ plen 54 [(.aload_n 0, 1, (0, 0, 0)), (.aload_n 3, 1, (0, 0, 0))] = 56 := by decide +kernel
theorem oki_X10_init_0_1 : oks m_X10_init.1 m_X10_init.2.2.1 0 [(.aload_n 0, 1, (0, 0, 0))] = true ∧ plen 0 [(.aload_n 0, 1, (0, 0, 0))] = 1 := by decide +kernel
theorem oki_X10_init_4_1 : oks m_X10_init.1 m_X10_init.2.2.1 4 [(.aload_n 0, 1, (0, 0, 0))] = true ∧ plen 4 [(.aload_n 0, 1, (0, 0, 0))] = 5 := by decide +kernel
theorem oki_X10_init_8_1 : oks m_X10_init.1 m_X10_init.2.2.1 8 [(.dup, 1, (0, 0, 0))] = true ∧ plen 8 [(.dup, 1, (0, 0, 0))] = 9 := by decide +kernel
theorem oki_X10_init_15_1 : oks m_X10_init.1 m_X10_init.2.2.1 15 [(.aload_n 0, 1, (0, 0, 0))] = true ∧ plen 15 [(.aload_n 0, 1, (0, 0, 0))] = 16 := by decide +kernel
theorem oki_X10_init_19_1 : oks m_X10_init.1 m_X10_init.2.2.1 19 [(.dup, 1, (0, 0, 0))] = true ∧ plen 19 [(.dup, 1, (0, 0, 0))] = 20 := by decide +kernel
theorem oki_X10_init_26_1 : oks m_X10_init.1 m_X10_init.2.2.1 26 [(.aload_n 0, 1, (0, 0, 0))] = true ∧ plen 26 [(.aload_n 0, 1, (0, 0, 0))] = 27 := by decide +kernel
theorem oki_X10_init_30_1 : oks m_X10_init.1 m_X10_init.2.2.1 30 [(.dup, 1, (0, 0, 0))] = true ∧ plen 30 [(.dup, 1, (0, 0, 0))] = 31 := by decide +kernel
theorem oki_X10_init_37_1 : oks m_X10_init.1 m_X10_init.2.2.1 37 [(.aload_n 0, 1, (0, 0, 0))] = true ∧ plen 37 [(.aload_n 0, 1, (0, 0, 0))] = 38 := by decide +kernel
theorem oki_X10_init_41_1 : oks m_X10_init.1 m_X10_init.2.2.1 41 [(.dup, 1, (0, 0, 0))] = true ∧ plen 41 [(.dup, 1, (0, 0, 0))] = 42 := by decide +kernel
theorem oki_X10_init_48_1 : oks m_X10_init.1 m_X10_init.2.2.1 48 [(.aload_n 0, 1, (0, 0, 0))] = true ∧ plen 48 [(.aload_n 0, 1, (0, 0, 0))] = 49 := by decide +kernel
theorem oki_X10_init_52_1 : oks m_X10_init.1 m_X10_init.2.2.1 52 [(.dup, 1, (0, 0, 0))] = true ∧ plen 52 [(.dup, 1, (0, 0, 0))] = 53 := by decide +kernel
theorem oki_X10_init_59_1 : oks m_X10_init.1 m_X10_init.2.2.1 59 [(.aload_n 0, 1, (0, 0, 0))] = true ∧ plen 59 [(.aload_n 0, 1, (0, 0, 0))] = 60 := by decide +kernel
theorem oki_X10_init_63_7 : oks m_X10_init.1 m_X10_init.2.2.1 63 [(.dup, 1, (0, 0, 0)), (.aload_n 0, 1, (0, 0, 0)), (.getfield 19, 3, (10, 1, 0)), (.aload_n 0, 1, (0, 0, 0)), (.getfield 33, 3, (10, 3, 0)), (.aload_n 0, 1, (0, 0, 0)), (.getfield 40, 3, (10, 4, 0))] = true ∧ plen 63 [(.dup, 1, (0, 0, 0)), (.aload_n 0, 1, (0, 0, 0)), (.getfield 19, 3, (10, 1, 0)), (.aload_n 0, 1, (0, 0, 0)), (.getfield 33, 3, (10, 3, 0)), (.aload_n 0, 1, (0, 0, 0)), (.getfield 40, 3, (10, 4, 0))] = 76 := by decide +kernel
theorem oki_X10_init_82_1 : oks m_X10_init.1 m_X10_init.2.2.1 82 [(.aload_n 0, 1, (0, 0, 0))] = true ∧ plen 82 [(.aload_n 0, 1, (0, 0, 0))] = 83 := by decide +kernel
theorem oki_X10_init_86_7 : oks m_X10_init.1 m_X10_init.2.2.1 86 [(.dup, 1, (0, 0, 0)), (.aload_n 0, 1, (0, 0, 0)), (.getfield 26, 3, (10, 2, 0)), (.aload_n 0, 1, (0, 0, 0)), (.getfield 40, 3, (10, 4, 0)), (.aload_n 0, 1, (0, 0, 0)), (.getfield 49, 3, (10, 5, 0))] = true ∧ plen 86 [(.dup, 1, (0, 0, 0)), (.aload_n 0, 1, (0, 0, 0)), (.getfield 26, 3, (10, 2, 0)), (.aload_n 0, 1, (0, 0, 0)), (.getfield 40, 3, (10, 4, 0)), (.aload_n 0, 1, (0, 0, 0)), (.getfield 49, 3, (10, 5, 0))] = 99 := by decide +kernel
theorem oki_X10_init_105_1 : oks m_X10_init.1 m_X10_init.2.2.1 105 [(.aload_n 0, 1, (0, 0, 0))] = true ∧ plen 105 [(.aload_n 0, 1, (0, 0, 0))] = 106 := by decide +kernel
theorem oki_X10_init_109_7 : oks m_X10_init.1 m_X10_init.2.2.1 109 [(.dup, 1, (0, 0, 0)), (.aload_n 0, 1, (0, 0, 0)), (.getfield 26, 3, (10, 2, 0)), (.aload_n 0, 1, (0, 0, 0)), (.getfield 40, 3, (10, 4, 0)), (.aload_n 0, 1, (0, 0, 0)), (.getfield 49, 3, (10, 5, 0))] = true ∧ plen 109 [(.dup, 1, (0, 0, 0)), (.aload_n 0, 1, (0, 0, 0)), (.getfield 26, 3, (10, 2, 0)), (.aload_n 0, 1, (0, 0, 0)), (.getfield 40, 3, (10, 4, 0)), (.aload_n 0, 1, (0, 0, 0)), (.getfield 49, 3, (10, 5, 0))] = 122 := by decide +kernel
theorem oki_X10_init_131_9 : oks m_X10_init.1 m_X10_init.2.2.1 131 [(.dup, 1, (0, 0, 0)), (.aload_n 0, 1, (0, 0, 0)), (.getfield 10, 3, (10, 0, 0)), (.aload_n 0, 1, (0, 0, 0)), (.getfield 26, 3, (10, 2, 0)), (.aload_n 0, 1, (0, 0, 0)), (.getfield 33, 3, (10, 3, 0)), (.aload_n 0, 1, (0, 0, 0)), (.getfield 40, 3, (10, 4, 0))] = true ∧ plen 131 [(.dup, 1, (0, 0, 0)), (.aload_n 0, 1, (0, 0, 0)), (.getfield 10, 3, (10, 0, 0)), (.aload_n 0, 1, (0, 0, 0)), (.getfield 26, 3, (10, 2, 0)), (.aload_n 0, 1, (0, 0, 0)), (.getfield 33, 3, (10, 3, 0)), (.aload_n 0, 1, (0, 0, 0)), (.getfield 40, 3, (10, 4, 0))] = 148 := by decide +kernel
theorem oki_X10_init_151_2 : oks m_X10_init.1 m_X10_init.2.2.1 151 [(.astore_n 1, 1, (0, 0, 0)), (.aload_n 0, 1, (0, 0, 0))] = true ∧ plen 151 [(.astore_n 1, 1, (0, 0, 0)), (.aload_n 0, 1, (0, 0, 0))] = 153 := by decide +kernel
theorem oki_X10_init_156_5 : oks m_X10_init.1 m_X10_init.2.2.1 156 [(.dup, 1, (0, 0, 0)), (.aload_n 1, 1, (0, 0, 0)), (.aload_n 0, 1, (0, 0, 0)), (.getfield 49, 3, (10, 5, 0)), (.iconst 0, 1, (0, 0, 0))] = true ∧ plen 156 [(.dup, 1, (0, 0, 0)), (.aload_n 1, 1, (0, 0, 0)), (.aload_n 0, 1, (0, 0, 0)), (.getfield 49, 3, (10, 5, 0)), (.iconst 0, 1, (0, 0, 0))] = 163 := by decide +kernel
theorem oki_X10_init_169_1 : oks m_X10_init.1 m_X10_init.2.2.1 169 [(.aload_n 0, 1, (0, 0, 0))] = true ∧ plen 169 [(.aload_n 0, 1, (0, 0, 0))] = 170 := by decide +kernel
theorem oki_X10_init_173_5 : oks m_X10_init.1 m_X10_init.2.2.1 173 [(.dup, 1, (0, 0, 0)), (.aload_n 1, 1, (0, 0, 0)), (.aload_n 0, 1, (0, 0, 0)), (.getfield 49, 3, (10, 5, 0)), (.iconst 1, 1, (0, 0, 0))] = true ∧ plen 173 [(.dup, 1, (0, 0, 0)), (.aload_n 1, 1, (0, 0, 0)), (.aload_n 0, 1, (0, 0, 0)), (.getfield 49, 3, (10, 5, 0)), (.iconst 1, 1, (0, 0, 0))] = 180 := by decide +kernel
theorem oki_X1_init_0_1 : oks m_X1_init.1 m_X1_init.2.2.1 0 [(.aload_n 0, 1, (0, 0, 0))] = true ∧ plen 0 [(.aload_n 0, 1, (0, 0, 0))] = 1 := by decide +kernel
theorem oki_X1_init_4_2 : oks m_X1_init.1 m_X1_init.2.2.1 4 [(.aload_n 0, 1, (0, 0, 0)), (.iconst 0, 1, (0, 0, 0))] = true ∧ plen 4 [(.aload_n 0, 1, (0, 0, 0)), (.iconst 0, 1, (0, 0, 0))] = 6 := by decide +kernel
theorem oki_X1_init_9_2 : oks m_X1_init.1 m_X1_init.2.2.1 9 [(.aload_n 0, 1, (0, 0, 0)), (.iconst 0, 1, (0, 0, 0))] = true ∧ plen 9 [(.aload_n 0, 1, (0, 0, 0)), (.iconst 0, 1, (0, 0, 0))] = 11 := by decide +kernel
theorem oki_X1_init_14_2 : oks m_X1_init.1 m_X1_init.2.2.1 14 [(.aload_n 0, 1, (0, 0, 0)), (.sipush 469, 3, (0, 0, 0))] = true ∧ plen 14 [(.aload_n 0, 1, (0, 0, 0)), (.sipush 469, 3, (0, 0, 0))] = 18 := by decide +kernel
theorem oki_X1_init_23_2 : oks m_X1_init.1 m_X1_init.2.2.1 23 [(.aload_n 0, 1, (0, 0, 0)), (.sipush 469, 3, (0, 0, 0))] = true ∧ plen 23 [(.aload_n 0, 1, (0, 0, 0)), (.sipush 469, 3, (0, 0, 0))] = 27 := by decide +kernel
theorem oki_X1_init_32_2 : oks m_X1_init.1 m_X1_init.2.2.1 32 [(.aload_n 0, 1, (0, 0, 0)), (.sipush 360, 3, (0, 0, 0))] = true ∧ plen 32 [(.aload_n 0, 1, (0, 0, 0)), (.sipush 360, 3, (0, 0, 0))] = 36 := by decide +kernel
theorem oki_X1_init_41_2 : oks m_X1_init.1 m_X1_init.2.2.1 41 [(.aload_n 0, 1, (0, 0, 0)), (.bipush 6, 2, (0, 0, 0))] = true ∧ plen 41 [(.aload_n 0, 1, (0, 0, 0)), (.bipush 6, 2, (0, 0, 0))] = 44 := by decide +kernel
theorem oki_X1_init_49_2 : oks m_X1_init.1 m_X1_init.2.2.1 49 [(.aload_n 0, 1, (0, 0, 0)), (.aload_n 1, 1, (0, 0, 0))] = true ∧ plen 49 [(.aload_n 0, 1, (0, 0, 0)), (.aload_n 1, 1, (0, 0, 0))] = 51 := by decide +kernel
theorem oki_X1_init_54_2 : oks m_X1_init.1 m_X1_init.2.2.1 54 [(.aload_n 0, 1, (0, 0, 0)), (.aload_n 2, 1, (0, 0, 0))] = true ∧ plen 54 [(.aload_n 0, 1, (0, 0, 0)), (.aload_n 2, 1, (0, 0, 0))] = 56 := by decide +kernel
theorem oki_X1_init_59_2 : oks m_X1_init.1 m_X1_init.2.2.1 59 [(.aload_n 0, 1, (0, 0, 0)), (.aload_n 3, 1, (0, 0, 0))] = true ∧ plen 59 [(.aload_n 0, 1, (0, 0, 0)), (.aload_n 3, 1, (0, 0, 0))] = 61 := by decide +kernel
theorem oki_X1_init_64_3 : oks m_X1_init.1 m_X1_init.2.2.1 64 [(.aload_n 0, 1, (0, 0, 0)), (.getfield 28, 3, (1, 8, 0)), (.iconst (-1), 1, (0, 0, 0))] = true ∧ plen 64 [(.aload_n 0, 1, (0, 0, 0)), (.getfield 28, 3, (1, 8, 0)), (.iconst (-1), 1, (0, 0, 0))] = 69 := by decide +kernel
theorem oki_X2_init_0_1 : oks m_X2_init.1 m_X2_init.2.2.1 0 [(.aload_n 0, 1, (0, 0, 0))] = true ∧ plen 0 [(.aload_n 0, 1, (0, 0, 0))] = 1 := by decide +kernel
theorem oki_X2_init_4_2 : oks m_X2_init.1 m_X2_init.2.2.1 4 [(.aload_n 0, 1, (0, 0, 0)), (.iconst 4, 1, (0, 0, 0))] = true ∧ plen 4 [(.aload_n 0, 1, (0, 0, 0)), (.iconst 4, 1, (0, 0, 0))] = 6 := by decide +kernel
theorem oki_X2_init_11_2 : oks m_X2_init.1 m_X2_init.2.2.1 11 [(.aload_n 0, 1, (0, 0, 0)), (.bipush 16, 2, (0, 0, 0))] = true ∧ plen 11 [(.aload_n 0, 1, (0, 0, 0)), (.bipush 16, 2, (0, 0, 0))] = 14 := by decide +kernel
theorem oki_X2_init_19_2 : oks m_X2_init.1 m_X2_init.2.2.1 19 [(.aload_n 0, 1, (0, 0, 0)), (.bipush 48, 2, (0, 0, 0))] = true ∧ plen 19 [(.aload_n 0, 1, (0, 0, 0)), (.bipush 48, 2, (0, 0, 0))] = 22 := by decide +kernel
theorem oki_X3_init_0_1 : oks m_X3_init.1 m_X3_init.2.2.1 0 [(.aload_n 0, 1, (0, 0, 0))] = true ∧ plen 0 [(.aload_n 0, 1, (0, 0, 0))] = 1 := by decide +kernel
theorem oki_X3_init_4_2 : oks m_X3_init.1 m_X3_init.2.2.1 4 [(.aload_n 0, 1, (0, 0, 0)), (.iconst 0, 1, (0, 0, 0))] = true ∧ plen 4 [(.aload_n 0, 1, (0, 0, 0)), (.iconst 0, 1, (0, 0, 0))] = 6 := by decide +kernel
theorem oki_X3_init_9_2 : oks m_X3_init.1 m_X3_init.2.2.1 9 [(.aload_n 0, 1, (0, 0, 0)), (.iconst 2, 1, (0, 0, 0))] = true ∧ plen 9 [(.aload_n 0, 1, (0, 0, 0)), (.iconst 2, 1, (0, 0, 0))] = 11 := by decide +kernel
theorem oki_X3_init_14_2 : oks m_X3_init.1 m_X3_init.2.2.1 14 [(.aload_n 0, 1, (0, 0, 0)), (.iconst 0, 1, (0, 0, 0))] = true ∧ plen 14 [(.aload_n 0, 1, (0, 0, 0)), (.iconst 0, 1, (0, 0, 0))] = 16 := by decide +kernel
theorem oki_X3_init_19_2 : oks m_X3_init.1 m_X3_init.2.2.1 19 [(.aload_n 0, 1, (0, 0, 0)), (.iconst 0, 1, (0, 0, 0))] = true ∧ plen 19 [(.aload_n 0, 1, (0, 0, 0)), (.iconst 0, 1, (0, 0, 0))] = 21 := by decide +kernel
theorem oki_X3_init_24_2 : oks m_X3_init.1 m_X3_init.2.2.1 24 [(.aload_n 0, 1, (0, 0, 0)), (.iconst 0, 1, (0, 0, 0))] = true ∧ plen 24 [(.aload_n 0, 1, (0, 0, 0)), (.iconst 0, 1, (0, 0, 0))] = 26 := by decide +kernel
theorem oki_X3_init_29_2 : oks m_X3_init.1 m_X3_init.2.2.1 29 [(.aload_n 0, 1, (0, 0, 0)), (.sipush 469, 3, (0, 0, 0))] = true ∧ plen 29 [(.aload_n 0, 1, (0, 0, 0)), (.sipush 469, 3, (0, 0, 0))] = 33 := by decide +kernel
theorem oki_X3_init_38_2 : oks m_X3_init.1 m_X3_init.2.2.1 38 [(.aload_n 0, 1, (0, 0, 0)), (.sipush 469, 3, (0, 0, 0))] = true ∧ plen 38 [(.aload_n 0, 1, (0, 0, 0)), (.sipush 469, 3, (0, 0, 0))] = 42 := by decide +kernel
theorem oki_X3_init_47_2 : oks m_X3_init.1 m_X3_init.2.2.1 47 [(.aload_n 0, 1, (0, 0, 0)), (.bipush 6, 2, (0, 0, 0))] = true ∧ plen 47 [(.aload_n 0, 1, (0, 0, 0)), (.bipush 6, 2, (0, 0, 0))] = 50 := by decide +kernel
theorem oki_X3_init_55_2 : oks m_X3_init.1 m_X3_init.2.2.1 55 [(.aload_n 0, 1, (0, 0, 0)), (.bipush 120, 2, (0, 0, 0))] = true ∧ plen 55 [(.aload_n 0, 1, (0, 0, 0)), (.bipush 120, 2, (0, 0, 0))] = 58 := by decide +kernel
theorem oki_X3_init_63_2 : oks m_X3_init.1 m_X3_init.2.2.1 63 [(.aload_n 0, 1, (0, 0, 0)), (.sipush 469, 3, (0, 0, 0))] = true ∧ plen 63 [(.aload_n 0, 1, (0, 0, 0)), (.sipush 469, 3, (0, 0, 0))] = 67 := by decide +kernel
theorem oki_X3_init_72_2 : oks m_X3_init.1 m_X3_init.2.2.1 72 [(.aload_n 0, 1, (0, 0, 0)), (.aload_n 1, 1, (0, 0, 0))] = true ∧ plen 72 [(.aload_n 0, 1, (0, 0, 0)), (.aload_n 1, 1, (0, 0, 0))] = 74 := by decide +kernel
theorem oki_X3_init_77_2 : oks m_X3_init.1 m_X3_init.2.2.1 77 [(.aload_n 0, 1, (0, 0, 0)), (.aload_n 2, 1, (0, 0, 0))] = true ∧ plen 77 [(.aload_n 0, 1, (0, 0, 0)), (.aload_n 2, 1, (0, 0, 0))] = 79 := by decide +kernel
theorem oki_X3_init_82_2 : oks m_X3_init.1 m_X3_init.2.2.1 82 [(.aload_n 0, 1, (0, 0, 0)), (.aload_n 3, 1, (0, 0, 0))] = true ∧ plen 82 [(.aload_n 0, 1, (0, 0, 0)), (.aload_n 3, 1, (0, 0, 0))] = 84 := by decide +kernel
theorem oki_X3_init_87_2 : oks m_X3_init.1 m_X3_init.2.2.1 87 [(.aload_n 0, 1, (0, 0, 0)), (.aload 4, 2, (0, 0, 0))] = true ∧ plen 87 [(.aload_n 0, 1, (0, 0, 0)), (.aload 4, 2, (0, 0, 0))] = 90 := by decide +kernel
theorem oki_X4_init_0_1 : oks m_X4_init.1 m_X4_init.2.2.1 0 [(.aload_n 0, 1, (0, 0, 0))] = true ∧ plen 0 [(.aload_n 0, 1, (0, 0, 0))] = 1 := by decide +kernel
theorem oki_X4_init_4_2 : oks m_X4_init.1 m_X4_init.2.2.1 4 [(.aload_n 0, 1, (0, 0, 0)), (.iconst 0, 1, (0, 0, 0))] = true ∧ plen 4 [(.aload_n 0, 1, (0, 0, 0)), (.iconst 0, 1, (0, 0, 0))] = 6 := by decide +kernel
theorem oki_X4_init_9_2 : oks m_X4_init.1 m_X4_init.2.2.1 9 [(.aload_n 0, 1, (0, 0, 0)), (.iconst 0, 1, (0, 0, 0))] = true ∧ plen 9 [(.aload_n 0, 1, (0, 0, 0)), (.iconst 0, 1, (0, 0, 0))] = 11 := by decide +kernel
theorem oki_X4_init_14_2 : oks m_X4_init.1 m_X4_init.2.2.1 14 [(.aload_n 0, 1, (0, 0, 0)), (.iconst 3, 1, (0, 0, 0))] = true ∧ plen 14 [(.aload_n 0, 1, (0, 0, 0)), (.iconst 3, 1, (0, 0, 0))] = 16 := by decide +kernel
theorem oki_X4_init_21_2 : oks m_X4_init.1 m_X4_init.2.2.1 21 [(.aload_n 0, 1, (0, 0, 0)), (.bipush 64, 2, (0, 0, 0))] = true ∧ plen 21 [(.aload_n 0, 1, (0, 0, 0)), (.bipush 64, 2, (0, 0, 0))] = 24 := by decide +kernel
theorem oki_X5_init_0_1 : oks m_X5_init.1 m_X5_init.2.2.1 0 [(.aload_n 0, 1, (0, 0, 0))] = true ∧ plen 0 [(.aload_n 0, 1, (0, 0, 0))] = 1 := by decide +kernel
theorem oki_X5_init_4_2 : oks m_X5_init.1 m_X5_init.2.2.1 4 [(.aload_n 0, 1, (0, 0, 0)), (.iconst 0, 1, (0, 0, 0))] = true ∧ plen 4 [(.aload_n 0, 1, (0, 0, 0)), (.iconst 0, 1, (0, 0, 0))] = 6 := by decide +kernel
theorem oki_X5_init_9_2 : oks m_X5_init.1 m_X5_init.2.2.1 9 [(.aload_n 0, 1, (0, 0, 0)), (.bipush 60, 2, (0, 0, 0))] = true ∧ plen 9 [(.aload_n 0, 1, (0, 0, 0)), (.bipush 60, 2, (0, 0, 0))] = 12 := by decide +kernel
theorem oki_X5_init_17_2 : oks m_X5_init.1 m_X5_init.2.2.1 17 [(.aload_n 0, 1, (0, 0, 0)), (.bipush 60, 2, (0, 0, 0))] = true ∧ plen 17 [(.aload_n 0, 1, (0, 0, 0)), (.bipush 60, 2, (0, 0, 0))] = 20 := by decide +kernel
theorem oki_X5_init_25_2 : oks m_X5_init.1 m_X5_init.2.2.1 25 [(.aload_n 0, 1, (0, 0, 0)), (.bipush 60, 2, (0, 0, 0))] = true ∧ plen 25 [(.aload_n 0, 1, (0, 0, 0)), (.bipush 60, 2, (0, 0, 0))] = 28 := by decide +kernel
theorem oki_X5_init_33_2 : oks m_X5_init.1 m_X5_init.2.2.1 33 [(.aload_n 0, 1, (0, 0, 0)), (.bipush 60, 2, (0, 0, 0))] = true ∧ plen 33 [(.aload_n 0, 1, (0, 0, 0)), (.bipush 60, 2, (0, 0, 0))] = 36 := by decide +kernel
theorem oki_X5_init_41_2 : oks m_X5_init.1 m_X5_init.2.2.1 41 [(.aload_n 0, 1, (0, 0, 0)), (.sipush 180, 3, (0, 0, 0))] = true ∧ plen 41 [(.aload_n 0, 1, (0, 0, 0)), (.sipush 180, 3, (0, 0, 0))] = 45 := by decide +kernel
theorem oki_X5_init_50_2 : oks m_X5_init.1 m_X5_init.2.2.1 50 [(.aload_n 0, 1, (0, 0, 0)), (.bipush 60, 2, (0, 0, 0))] = true ∧ plen 50 [(.aload_n 0, 1, (0, 0, 0)), (.bipush 60, 2, (0, 0, 0))] = 53 := by decide +kernel
theorem oki_X5_init_58_2 : oks m_X5_init.1 m_X5_init.2.2.1 58 [(.aload_n 0, 1, (0, 0, 0)), (.bipush 60, 2, (0, 0, 0))] = true ∧ plen 58 [(.aload_n 0, 1, (0, 0, 0)), (.bipush 60, 2, (0, 0, 0))] = 61 := by decide +kernel
theorem oki_X5_init_66_2 : oks m_X5_init.1 m_X5_init.2.2.1 66 [(.aload_n 0, 1, (0, 0, 0)), (.bipush 60, 2, (0, 0, 0))] = true ∧ plen 66 [(.aload_n 0, 1, (0, 0, 0)), (.bipush 60, 2, (0, 0, 0))] = 69 := by decide +kernel
theorem oki_X5_init_74_2 : oks m_X5_init.1 m_X5_init.2.2.1 74 [(.aload_n 0, 1, (0, 0, 0)), (.bipush 60, 2, (0, 0, 0))] = true ∧ plen 74 [(.aload_n 0, 1, (0, 0, 0)), (.bipush 60, 2, (0, 0, 0))] = 77 := by decide +kernel
theorem oki_X5_init_82_2 : oks m_X5_init.1 m_X5_init.2.2.1 82 [(.aload_n 0, 1, (0, 0, 0)), (.bipush 60, 2, (0, 0, 0))] = true ∧ plen 82 [(.aload_n 0, 1, (0, 0, 0)), (.bipush 60, 2, (0, 0, 0))] = 85 := by decide +kernel
theorem oki_X5_init_90_2 : oks m_X5_init.1 m_X5_init.2.2.1 90 [(.aload_n 0, 1, (0, 0, 0)), (.bipush 60, 2, (0, 0, 0))] = true ∧ plen 90 [(.aload_n 0, 1, (0, 0, 0)), (.bipush 60, 2, (0, 0, 0))] = 93 := by decide +kernel
theorem oki_X6_init_0_1 : oks m_X6_init.1 m_X6_init.2.2.1 0 [(.aload_n 0, 1, (0, 0, 0))] = true ∧ plen 0 [(.aload_n 0, 1, (0, 0, 0))] = 1 := by decide +kernel
theorem oki_X6_init_4_2 : oks m_X6_init.1 m_X6_init.2.2.1 4 [(.aload_n 0, 1, (0, 0, 0)), (.aload_n 1, 1, (0, 0, 0))] = true ∧ plen 4 [(.aload_n 0, 1, (0, 0, 0)), (.aload_n 1, 1, (0, 0, 0))] = 6 := by decide +kernel
theorem oki_X6_init_9_2 : oks m_X6_init.1 m_X6_init.2.2.1 9 [(.aload_n 0, 1, (0, 0, 0)), (.aload_n 2, 1, (0, 0, 0))] = true ∧ plen 9 [(.aload_n 0, 1, (0, 0, 0)), (.aload_n 2, 1, (0, 0, 0))] = 11 := by decide +kernel
theorem oki_X6_init_14_2 : oks m_X6_init.1 m_X6_init.2.2.1 14 [(.aload_n 0, 1, (0, 0, 0)), (.aload_n 3, 1, (0, 0, 0))] = true ∧ plen 14 [(.aload_n 0, 1, (0, 0, 0)), (.aload_n 3, 1, (0, 0, 0))] = 16 := by decide +kernel
theorem oki_X7_init_0_1 : oks m_X7_init.1 m_X7_init.2.2.1 0 [(.aload_n 0, 1, (0, 0, 0))] = true ∧ plen 0 [(.aload_n 0, 1, (0, 0, 0))] = 1 := by decide +kernel
theorem oki_X7_init_4_2 : oks m_X7_init.1 m_X7_init.2.2.1 4 [(.aload_n 0, 1, (0, 0, 0)), (.iconst 0, 1, (0, 0, 0))] = true ∧ plen 4 [(.aload_n 0, 1, (0, 0, 0)), (.iconst 0, 1, (0, 0, 0))] = 6 := by decide +kernel
theorem oki_X7_init_9_2 : oks m_X7_init.1 m_X7_init.2.2.1 9 [(.aload_n 0, 1, (0, 0, 0)), (.iconst 0, 1, (0, 0, 0))] = true ∧ plen 9 [(.aload_n 0, 1, (0, 0, 0)), (.iconst 0, 1, (0, 0, 0))] = 11 := by decide +kernel
theorem oki_X7_init_14_2 : oks m_X7_init.1 m_X7_init.2.2.1 14 [(.aload_n 0, 1, (0, 0, 0)), (.iconst 0, 1, (0, 0, 0))] = true ∧ plen 14 [(.aload_n 0, 1, (0, 0, 0)), (.iconst 0, 1, (0, 0, 0))] = 16 := by decide +kernel
theorem oki_X7_init_19_2 : oks m_X7_init.1 m_X7_init.2.2.1 19 [(.aload_n 0, 1, (0, 0, 0)), (.iconst (-1), 1, (0, 0, 0))] = true ∧ plen 19 [(.aload_n 0, 1, (0, 0, 0)), (.iconst (-1), 1, (0, 0, 0))] = 21 := by decide +kernel
theorem oki_X7_init_24_2 : oks m_X7_init.1 m_X7_init.2.2.1 24 [(.aload_n 0, 1, (0, 0, 0)), (.iconst 0, 1, (0, 0, 0))] = true ∧ plen 24 [(.aload_n 0, 1, (0, 0, 0)), (.iconst 0, 1, (0, 0, 0))] = 26 := by decide +kernel
theorem oki_X7_init_29_2 : oks m_X7_init.1 m_X7_init.2.2.1 29 [(.aload_n 0, 1, (0, 0, 0)), (.iconst (-1), 1, (0, 0, 0))] = true ∧ plen 29 [(.aload_n 0, 1, (0, 0, 0)), (.iconst (-1), 1, (0, 0, 0))] = 31 := by decide +kernel
theorem oki_X7_init_34_2 : oks m_X7_init.1 m_X7_init.2.2.1 34 [(.aload_n 0, 1, (0, 0, 0)), (.iconst 0, 1, (0, 0, 0))] = true ∧ plen 34 [(.aload_n 0, 1, (0, 0, 0)), (.iconst 0, 1, (0, 0, 0))] = 36 := by decide +kernel
theorem oki_X7_init_39_2 : oks m_X7_init.1 m_X7_init.2.2.1 39 [(.aload_n 0, 1, (0, 0, 0)), (.sipush 500, 3, (0, 0, 0))] = true ∧ plen 39 [(.aload_n 0, 1, (0, 0, 0)), (.sipush 500, 3, (0, 0, 0))] = 43 := by decide +kernel
theorem oki_X7_init_48_2 : oks m_X7_init.1 m_X7_init.2.2.1 48 [(.aload_n 0, 1, (0, 0, 0)), (.sipush 500, 3, (0, 0, 0))] = true ∧ plen 48 [(.aload_n 0, 1, (0, 0, 0)), (.sipush 500, 3, (0, 0, 0))] = 52 := by decide +kernel
theorem oki_X7_init_57_2 : oks m_X7_init.1 m_X7_init.2.2.1 57 [(.aload_n 0, 1, (0, 0, 0)), (.sipush 500, 3, (0, 0, 0))] = true ∧ plen 57 [(.aload_n 0, 1, (0, 0, 0)), (.sipush 500, 3, (0, 0, 0))] = 61 := by decide +kernel
theorem oki_X7_init_66_2 : oks m_X7_init.1 m_X7_init.2.2.1 66 [(.aload_n 0, 1, (0, 0, 0)), (.sipush 500, 3, (0, 0, 0))] = true ∧ plen 66 [(.aload_n 0, 1, (0, 0, 0)), (.sipush 500, 3, (0, 0, 0))] = 70 := by decide +kernel
theorem oki_X7_init_75_2 : oks m_X7_init.1 m_X7_init.2.2.1 75 [(.aload_n 0, 1, (0, 0, 0)), (.sipush 500, 3, (0, 0, 0))] = true ∧ plen 75 [(.aload_n 0, 1, (0, 0, 0)), (.sipush 500, 3, (0, 0, 0))] = 79 := by decide +kernel
theorem oki_X7_init_84_2 : oks m_X7_init.1 m_X7_init.2.2.1 84 [(.aload_n 0, 1, (0, 0, 0)), (.aload_n 1, 1, (0, 0, 0))] = true ∧ plen 84 [(.aload_n 0, 1, (0, 0, 0)), (.aload_n 1, 1, (0, 0, 0))] = 86 := by decide +kernel
theorem oki_X7_init_89_2 : oks m_X7_init.1 m_X7_init.2.2.1 89 [(.aload_n 0, 1, (0, 0, 0)), (.aload_n 2, 1, (0, 0, 0))] = true ∧ plen 89 [(.aload_n 0, 1, (0, 0, 0)), (.aload_n 2, 1, (0, 0, 0))] = 91 := by decide +kernel
theorem oki_X7_init_94_2 : oks m_X7_init.1 m_X7_init.2.2.1 94 [(.aload_n 0, 1, (0, 0, 0)), (.iload_n 3, 1, (0, 0, 0))] = true ∧ plen 94 [(.aload_n 0, 1, (0, 0, 0)), (.iload_n 3, 1, (0, 0, 0))] = 96 := by decide +kernel
theorem oki_X8_init_0_1 : oks m_X8_init.1 m_X8_init.2.2.1 0 [(.aload_n 0, 1, (0, 0, 0))] = true ∧ plen 0 [(.aload_n 0, 1, (0, 0, 0))] = 1 := by decide +kernel
theorem oki_X8_init_4_2 : oks m_X8_init.1 m_X8_init.2.2.1 4 [(.aload_n 0, 1, (0, 0, 0)), (.iconst 0, 1, (0, 0, 0))] = true ∧ plen 4 [(.aload_n 0, 1, (0, 0, 0)), (.iconst 0, 1, (0, 0, 0))] = 6 := by decide +kernel
theorem oki_X8_init_9_2 : oks m_X8_init.1 m_X8_init.2.2.1 9 [(.aload_n 0, 1, (0, 0, 0)), (.bipush 50, 2, (0, 0, 0))] = true ∧ plen 9 [(.aload_n 0, 1, (0, 0, 0)), (.bipush 50, 2, (0, 0, 0))] = 12 := by decide +kernel
theorem oki_X8_init_17_2 : oks m_X8_init.1 m_X8_init.2.2.1 17 [(.aload_n 0, 1, (0, 0, 0)), (.bipush 50, 2, (0, 0, 0))] = true ∧ plen 17 [(.aload_n 0, 1, (0, 0, 0)), (.bipush 50, 2, (0, 0, 0))] = 20 := by decide +kernel
theorem oki_X8_init_25_2 : oks m_X8_init.1 m_X8_init.2.2.1 25 [(.aload_n 0, 1, (0, 0, 0)), (.bipush 50, 2, (0, 0, 0))] = true ∧ plen 25 [(.aload_n 0, 1, (0, 0, 0)), (.bipush 50, 2, (0, 0, 0))] = 28 := by decide +kernel
theorem oki_X8_init_33_2 : oks m_X8_init.1 m_X8_init.2.2.1 33 [(.aload_n 0, 1, (0, 0, 0)), (.sipush 150, 3, (0, 0, 0))] = true ∧ plen 33 [(.aload_n 0, 1, (0, 0, 0)), (.sipush 150, 3, (0, 0, 0))] = 37 := by decide +kernel
theorem oki_X8_init_42_3 : oks m_X8_init.1 m_X8_init.2.2.1 42 [(.aload_n 0, 1, (0, 0, 0)), (.getfield 25, 3, (8, 4, 0)), (.iconst (-1), 1, (0, 0, 0))] = true ∧ plen 42 [(.aload_n 0, 1, (0, 0, 0)), (.getfield 25, 3, (8, 4, 0)), (.iconst (-1), 1, (0, 0, 0))] = 47 := by decide +kernel
theorem oki_X8_init_50_4 : oks m_X8_init.1 m_X8_init.2.2.1 50 [(.iconst 0, 1, (0, 0, 0)), (.istore_n 1, 1, (0, 0, 0)), (.iload_n 1, 1, (0, 0, 0)), (.bipush 10, 2, (0, 0, 0))] = true ∧ plen 50 [(.iconst 0, 1, (0, 0, 0)), (.istore_n 1, 1, (0, 0, 0)), (.iload_n 1, 1, (0, 0, 0)), (.bipush 10, 2, (0, 0, 0))] = 55 := by decide +kernel
theorem oki_X8_init_52_2 : oks m_X8_init.1 m_X8_init.2.2.1 52 [(.iload_n 1, 1, (0, 0, 0)), (.bipush 10, 2, (0, 0, 0))] = true ∧ plen 52 [(.iload_n 1, 1, (0, 0, 0)), (.bipush 10, 2, (0, 0, 0))] = 55 := by decide +kernel
theorem oki_X8_init_58_6 : oks m_X8_init.1 m_X8_init.2.2.1 58 [(.aload_n 0, 1, (0, 0, 0)), (.getfield 15, 3, (8, 1, 0)), (.bipush 40, 2, (0, 0, 0)), (.iload_n 1, 1, (0, 0, 0)), (.iadd, 1, (0, 0, 0)), (.iconst 4, 1, (0, 0, 0))] = true ∧ plen 58 [(.aload_n 0, 1, (0, 0, 0)), (.getfield 15, 3, (8, 1, 0)), (.bipush 40, 2, (0, 0, 0)), (.iload_n 1, 1, (0, 0, 0)), (.iadd, 1, (0, 0, 0)), (.iconst 4, 1, (0, 0, 0))] = 67 := by decide +kernel
theorem oki_X8_init_70_6 : oks m_X8_init.1 m_X8_init.2.2.1 70 [(.aload_n 0, 1, (0, 0, 0)), (.getfield 19, 3, (8, 2, 0)), (.bipush 40, 2, (0, 0, 0)), (.iload_n 1, 1, (0, 0, 0)), (.iadd, 1, (0, 0, 0)), (.iload_n 1, 1, (0, 0, 0))] = true ∧ plen 70 [(.aload_n 0, 1, (0, 0, 0)), (.getfield 19, 3, (8, 2, 0)), (.bipush 40, 2, (0, 0, 0)), (.iload_n 1, 1, (0, 0, 0)), (.iadd, 1, (0, 0, 0)), (.iload_n 1, 1, (0, 0, 0))] = 79 := by decide +kernel
theorem oki_X8_init_82_6 : oks m_X8_init.1 m_X8_init.2.2.1 82 [(.aload_n 0, 1, (0, 0, 0)), (.getfield 22, 3, (8, 3, 0)), (.bipush 40, 2, (0, 0, 0)), (.iload_n 1, 1, (0, 0, 0)), (.iadd, 1, (0, 0, 0)), (.iload_n 1, 1, (0, 0, 0))] = true ∧ plen 82 [(.aload_n 0, 1, (0, 0, 0)), (.getfield 22, 3, (8, 3, 0)), (.bipush 40, 2, (0, 0, 0)), (.iload_n 1, 1, (0, 0, 0)), (.iadd, 1, (0, 0, 0)), (.iload_n 1, 1, (0, 0, 0))] = 91 := by decide +kernel
theorem oki_X8_init_94_1 : oks m_X8_init.1 m_X8_init.2.2.1 94 [(.iinc 1 1, 3, (0, 0, 0))] = true ∧ plen 94 [(.iinc 1 1, 3, (0, 0, 0))] = 97 := by decide +kernel
theorem oki_X9_init_0_1 : oks m_X9_init.1 m_X9_init.2.2.1 0 [(.aload_n 0, 1, (0, 0, 0))] = true ∧ plen 0 [(.aload_n 0, 1, (0, 0, 0))] = 1 := by decide +kernel
theorem oki_X9_init_4_2 : oks m_X9_init.1 m_X9_init.2.2.1 4 [(.aload_n 0, 1, (0, 0, 0)), (.bipush 12, 2, (0, 0, 0))] = true ∧ plen 4 [(.aload_n 0, 1, (0, 0, 0)), (.bipush 12, 2, (0, 0, 0))] = 7 := by decide +kernel
theorem oki_X9_init_12_4 : oks m_X9_init.1 m_X9_init.2.2.1 12 [(.iconst 0, 1, (0, 0, 0)), (.istore_n 1, 1, (0, 0, 0)), (.iload_n 1, 1, (0, 0, 0)), (.iconst 3, 1, (0, 0, 0))] = true ∧ plen 12 [(.iconst 0, 1, (0, 0, 0)), (.istore_n 1, 1, (0, 0, 0)), (.iload_n 1, 1, (0, 0, 0)), (.iconst 3, 1, (0, 0, 0))] = 16 := by decide +kernel
theorem oki_X9_init_14_2 : oks m_X9_init.1 m_X9_init.2.2.1 14 [(.iload_n 1, 1, (0, 0, 0)), (.iconst 3, 1, (0, 0, 0))] = true ∧ plen 14 [(.iload_n 1, 1, (0, 0, 0)), (.iconst 3, 1, (0, 0, 0))] = 16 := by decide +kernel
theorem oki_X9_init_19_8 : oks m_X9_init.1 m_X9_init.2.2.1 19 [(.aload_n 0, 1, (0, 0, 0)), (.getfield 11, 3, (9, 0, 0)), (.iload_n 1, 1, (0, 0, 0)), (.iconst 4, 1, (0, 0, 0)), (.imul, 1, (0, 0, 0)), (.iconst 0, 1, (0, 0, 0)), (.iadd, 1, (0, 0, 0)), (.iconst 1, 1, (0, 0, 0))] = true ∧ plen 19 [(.aload_n 0, 1, (0, 0, 0)), (.getfield 11, 3, (9, 0, 0)), (.iload_n 1, 1, (0, 0, 0)), (.iconst 4, 1, (0, 0, 0)), (.imul, 1, (0, 0, 0)), (.iconst 0, 1, (0, 0, 0)), (.iadd, 1, (0, 0, 0)), (.iconst 1, 1, (0, 0, 0))] = 29 := by decide +kernel
theorem oki_X9_init_32_8 : oks m_X9_init.1 m_X9_init.2.2.1 32 [(.aload_n 0, 1, (0, 0, 0)), (.getfield 11, 3, (9, 0, 0)), (.iload_n 1, 1, (0, 0, 0)), (.iconst 4, 1, (0, 0, 0)), (.imul, 1, (0, 0, 0)), (.iconst 3, 1, (0, 0, 0)), (.iadd, 1, (0, 0, 0)), (.bipush 10, 2, (0, 0, 0))] = true ∧ plen 32 [(.aload_n 0, 1, (0, 0, 0)), (.getfield 11, 3, (9, 0, 0)), (.iload_n 1, 1, (0, 0, 0)), (.iconst 4, 1, (0, 0, 0)), (.imul, 1, (0, 0, 0)), (.iconst 3, 1, (0, 0, 0)), (.iadd, 1, (0, 0, 0)), (.bipush 10, 2, (0, 0, 0))] = 43 := by decide +kernel
theorem oki_X9_init_46_1 : oks m_X9_init.1 m_X9_init.2.2.1 46 [(.iinc 1 1, 3, (0, 0, 0))] = true ∧ plen 46 [(.iinc 1 1, 3, (0, 0, 0))] = 49 := by decide +kernel
def LY0 : List Lay := [(10, [1, 1, 1, 1, 1, 1, 1, 1, 1, 1])]
def LY1 : List Lay := [(10, [1, 1, 1, 1, 1, 1, 1, 1, 1, 1]), (2, [1, 1, 1])]
def LY2 : List Lay := [(10, [1, 1, 1, 1, 1, 1, 1, 1, 1, 1]), (2, [1, 1, 1]), (12, [4])]
def LY3 : List Lay := [(10, [1, 1, 1, 1, 1, 1, 1, 1, 1, 1]), (2, [4, 1, 1]), (12, [4])]
def LY4 : List Lay := [(10, [1, 1, 1, 1, 1, 1, 1, 1, 1, 1]), (2, [4, 1, 1]), (12, [4]), (12, [16])]
def LY5 : List Lay := [(10, [1, 1, 1, 1, 1, 1, 1, 1, 1, 1]), (2, [4, 5, 1]), (12, [4]), (12, [16])]
def LY6 : List Lay := [(10, [1, 1, 1, 1, 1, 1, 1, 1, 1, 1]), (2, [4, 5, 1]), (12, [4]), (12, [16]), (12, [48])]
def LY7 : List Lay := [(10, [1, 1, 1, 1, 1, 1, 1, 1, 1, 1]), (2, [4, 5, 6]), (12, [4]), (12, [16]), (12, [48])]
def I_X2_init_0 (σ : Sg) : Sg :=
bnd (fresh σ 2) fun s1 =>
bnd (fresh s1 3) fun s3 =>
bnd (fresh s3 4) fun s5 =>
s5
theorem ci_X2_init_0 (l : Launch) (d : Nat) (hd : 1 ≤ d) (σ q : Sg) (h : I_X2_init_0 σ = q) : CT l d m_X2_init.2.1 m_X2_init.2.2.1 m_X2_init.2.2.2.1 m_X2_init.2.2.2.2 [.inr 1] (LY1, σ) none (LY7, q) := by
  obtain ⟨d, rfl⟩ : ∃ e, d = e + 1 := ⟨d - 1, by omega⟩
  have key : Gi l m_X2_init (d + 1) LY1 LY7 q 0 [some (.inr 1)] [] LY1 σ := by
    unfold I_X2_init_0 at h
    refine gi_ops oki_X2_init_0_1 (L' := [some (.inr 1)]) (st' := [.inr 1]) (σ1 := σ) (by rfl) ?_
    refine gi_obj dci_X2_init_1 (by decide +kernel) (Nat.le_of_ble_eq_true rfl) (by omega) ?_
    refine gi_ops oki_X2_init_4_2 (L' := [some (.inr 1)]) (st' := [.inl 4, .inr 1]) (σ1 := σ) (by rfl) ?_
    obtain ⟨s1, e2, h⟩ := bnd_inv h
    refine gi_newI (lay' := LY2) dci_X2_init_6 (by decide) (by decide +kernel) (by rfl) e2 ?_
    refine gi_putR (sl := 0) (lay' := LY3) dci_X2_init_8 (by decide +kernel) (by decide) rfl (by decide) (by decide +kernel) (Or.inr ⟨by decide +kernel, rfl⟩) (by rfl) ?_
    refine gi_ops oki_X2_init_11_2 (L' := [some (.inr 1)]) (st' := [.inl 16, .inr 1]) (σ1 := s1) (by rfl) ?_
    obtain ⟨s3, e4, h⟩ := bnd_inv h
    refine gi_newI (lay' := LY4) dci_X2_init_14 (by decide) (by decide +kernel) (by rfl) e4 ?_
    refine gi_putR (sl := 1) (lay' := LY5) dci_X2_init_16 (by decide +kernel) (by decide) rfl (by decide) (by decide +kernel) (Or.inr ⟨by decide +kernel, rfl⟩) (by rfl) ?_
    refine gi_ops oki_X2_init_19_2 (L' := [some (.inr 1)]) (st' := [.inl 48, .inr 1]) (σ1 := s3) (by rfl) ?_
    obtain ⟨s5, e6, h⟩ := bnd_inv h
    refine gi_newI (lay' := LY6) dci_X2_init_22 (by decide) (by decide +kernel) (by rfl) e6 ?_
    refine gi_putR (sl := 2) (lay' := LY7) dci_X2_init_24 (by decide +kernel) (by decide) rfl (by decide) (by decide +kernel) (Or.inr ⟨by decide +kernel, rfl⟩) (by rfl) ?_
    subst h
    exact gi_vret dci_X2_init_27 rfl
  exact gi_ct (as := [.inr 1]) mk_X2_init (by rfl) (Nat.le_of_ble_eq_true rfl) key
def LY8 : List Lay := [(10, [3, 1, 1, 1, 1, 1, 1, 1, 1, 1]), (2, [4, 5, 6]), (12, [4]), (12, [16]), (12, [48])]
def LY9 : List Lay := [(10, [3, 1, 1, 1, 1, 1, 1, 1, 1, 1]), (2, [4, 5, 6]), (12, [4]), (12, [16]), (12, [48]), (8, [0, 1, 1, 1, 1])]
def LY10 : List Lay := [(10, [3, 1, 1, 1, 1, 1, 1, 1, 1, 1]), (2, [4, 5, 6]), (12, [4]), (12, [16]), (12, [48]), (8, [0, 1, 1, 1, 1]), (12, [50])]
def LY11 : List Lay := [(10, [3, 1, 1, 1, 1, 1, 1, 1, 1, 1]), (2, [4, 5, 6]), (12, [4]), (12, [16]), (12, [48]), (8, [0, 8, 1, 1, 1]), (12, [50])]
def LY12 : List Lay := [(10, [3, 1, 1, 1, 1, 1, 1, 1, 1, 1]), (2, [4, 5, 6]), (12, [4]), (12, [16]), (12, [48]), (8, [0, 8, 1, 1, 1]), (12, [50]), (12, [50])]
def LY13 : List Lay := [(10, [3, 1, 1, 1, 1, 1, 1, 1, 1, 1]), (2, [4, 5, 6]), (12, [4]), (12, [16]), (12, [48]), (8, [0, 8, 9, 1, 1]), (12, [50]), (12, [50])]
def LY14 : List Lay := [(10, [3, 1, 1, 1, 1, 1, 1, 1, 1, 1]), (2, [4, 5, 6]), (12, [4]), (12, [16]), (12, [48]), (8, [0, 8, 9, 1, 1]), (12, [50]), (12, [50]), (12, [50])]
def LY15 : List Lay := [(10, [3, 1, 1, 1, 1, 1, 1, 1, 1, 1]), (2, [4, 5, 6]), (12, [4]), (12, [16]), (12, [48]), (8, [0, 8, 9, 10, 1]), (12, [50]), (12, [50]), (12, [50])]
def LY16 : List Lay := [(10, [3, 1, 1, 1, 1, 1, 1, 1, 1, 1]), (2, [4, 5, 6]), (12, [4]), (12, [16]), (12, [48]), (8, [0, 8, 9, 10, 1]), (12, [50]), (12, [50]), (12, [50]), (12, [150])]
def LY17 : List Lay := [(10, [3, 1, 1, 1, 1, 1, 1, 1, 1, 1]), (2, [4, 5, 6]), (12, [4]), (12, [16]), (12, [48]), (8, [0, 8, 9, 10, 11]), (12, [50]), (12, [50]), (12, [50]), (12, [150])]
def I_X8_init_0 (σ : Sg) : Sg :=
bnd (up2 σ 5 0 0) fun s1 =>
bnd (fresh s1 6) fun s3 =>
bnd (fresh s3 7) fun s5 =>
bnd (fresh s5 8) fun s7 =>
bnd (fresh s7 9) fun s9 =>
bnd (fillF s9 9 150 (-1)) fun s11 =>
bnd (wrD s11 6 50 40 4) fun s13 =>
bnd (wrD s13 7 50 40 0) fun s15 =>
bnd (wrD s15 8 50 40 0) fun s17 =>
bnd (wrD s17 6 50 41 4) fun s19 =>
bnd (wrD s19 7 50 41 1) fun s21 =>
bnd (wrD s21 8 50 41 1) fun s23 =>
bnd (wrD s23 6 50 42 4) fun s25 =>
bnd (wrD s25 7 50 42 2) fun s27 =>
bnd (wrD s27 8 50 42 2) fun s29 =>
bnd (wrD s29 6 50 43 4) fun s31 =>
bnd (wrD s31 7 50 43 3) fun s33 =>
bnd (wrD s33 8 50 43 3) fun s35 =>
bnd (wrD s35 6 50 44 4) fun s37 =>
bnd (wrD s37 7 50 44 4) fun s39 =>
bnd (wrD s39 8 50 44 4) fun s41 =>
bnd (wrD s41 6 50 45 4) fun s43 =>
bnd (wrD s43 7 50 45 5) fun s45 =>
bnd (wrD s45 8 50 45 5) fun s47 =>
bnd (wrD s47 6 50 46 4) fun s49 =>
bnd (wrD s49 7 50 46 6) fun s51 =>
bnd (wrD s51 8 50 46 6) fun s53 =>
bnd (wrD s53 6 50 47 4) fun s55 =>
bnd (wrD s55 7 50 47 7) fun s57 =>
bnd (wrD s57 8 50 47 7) fun s59 =>
bnd (wrD s59 6 50 48 4) fun s61 =>
bnd (wrD s61 7 50 48 8) fun s63 =>
bnd (wrD s63 8 50 48 8) fun s65 =>
bnd (wrD s65 6 50 49 4) fun s67 =>
bnd (wrD s67 7 50 49 9) fun s69 =>
bnd (wrD s69 8 50 49 9) fun s71 =>
s71
theorem ci_X8_init_0 (l : Launch) (d : Nat) (hd : 1 ≤ d) (σ q : Sg) (h : I_X8_init_0 σ = q) : CT l d m_X8_init.2.1 m_X8_init.2.2.1 m_X8_init.2.2.2.1 m_X8_init.2.2.2.2 [.inr 5] (LY9, σ) none (LY17, q) := by
  obtain ⟨d, rfl⟩ : ∃ e, d = e + 1 := ⟨d - 1, by omega⟩
  have key : Gi l m_X8_init (d + 1) LY9 LY17 q 0 [some (.inr 5), none] [] LY9 σ := by
    unfold I_X8_init_0 at h
    refine gi_ops oki_X8_init_0_1 (L' := [some (.inr 5), none]) (st' := [.inr 5]) (σ1 := σ) (by rfl) ?_
    refine gi_obj dci_X8_init_1 (by decide +kernel) (Nat.le_of_ble_eq_true rfl) (by omega) ?_
    refine gi_ops oki_X8_init_4_2 (L' := [some (.inr 5), none]) (st' := [.inl 0, .inr 5]) (σ1 := σ) (by rfl) ?_
    obtain ⟨s1, e2, h⟩ := bnd_inv h
    refine gi_putI dci_X8_init_6 (by decide +kernel) (by decide) rfl rfl (Or.inl (by decide +kernel)) (Or.inr ⟨by decide +kernel, rfl⟩) e2 ?_
    refine gi_ops oki_X8_init_9_2 (L' := [some (.inr 5), none]) (st' := [.inl 50, .inr 5]) (σ1 := s1) (by rfl) ?_
    obtain ⟨s3, e4, h⟩ := bnd_inv h
    refine gi_newI (lay' := LY10) dci_X8_init_12 (by decide) (by decide +kernel) (by rfl) e4 ?_
    refine gi_putR (sl := 1) (lay' := LY11) dci_X8_init_14 (by decide +kernel) (by decide) rfl (by decide) (by decide +kernel) (Or.inr ⟨by decide +kernel, rfl⟩) (by rfl) ?_
    refine gi_ops oki_X8_init_17_2 (L' := [some (.inr 5), none]) (st' := [.inl 50, .inr 5]) (σ1 := s3) (by rfl) ?_
    obtain ⟨s5, e6, h⟩ := bnd_inv h
    refine gi_newI (lay' := LY12) dci_X8_init_20 (by decide) (by decide +kernel) (by rfl) e6 ?_
    refine gi_putR (sl := 2) (lay' := LY13) dci_X8_init_22 (by decide +kernel) (by decide) rfl (by decide) (by decide +kernel) (Or.inr ⟨by decide +kernel, rfl⟩) (by rfl) ?_
    refine gi_ops oki_X8_init_25_2 (L' := [some (.inr 5), none]) (st' := [.inl 50, .inr 5]) (σ1 := s5) (by rfl) ?_
    obtain ⟨s7, e8, h⟩ := bnd_inv h
    refine gi_newI (lay' := LY14) dci_X8_init_28 (by decide) (by decide +kernel) (by rfl) e8 ?_
    refine gi_putR (sl := 3) (lay' := LY15) dci_X8_init_30 (by decide +kernel) (by decide) rfl (by decide) (by decide +kernel) (Or.inr ⟨by decide +kernel, rfl⟩) (by rfl) ?_
    refine gi_ops oki_X8_init_33_2 (L' := [some (.inr 5), none]) (st' := [.inl 150, .inr 5]) (σ1 := s7) (by rfl) ?_
    obtain ⟨s9, e10, h⟩ := bnd_inv h
    refine gi_newI (lay' := LY16) dci_X8_init_37 (by decide) (by decide +kernel) (by rfl) e10 ?_
    refine gi_putR (sl := 4) (lay' := LY17) dci_X8_init_39 (by decide +kernel) (by decide) rfl (by decide) (by decide +kernel) (Or.inr ⟨by decide +kernel, rfl⟩) (by rfl) ?_
    refine gi_ops oki_X8_init_42_3 (L' := [some (.inr 5), none]) (st' := [.inl (-1), .inr 9]) (σ1 := s9) (by rfl) ?_
    obtain ⟨s11, e12, h⟩ := bnd_inv h
    refine gi_S (M1 := m_J7_fill_53178) (as := [.inr 9, .inl (-1)]) (st := []) (lay1 := LY17) (σ1 := s11) dci_X8_init_47 ln_8_28 sm_J7_fill_53178 mk_J7_fill_53178 rfl rfl (Nat.le_of_ble_eq_true rfl) (Nat.le_refl _) (by decide +kernel) (by decide +kernel) (lk_J7_fill_53178 l d LY17 9 150 rfl _ s11 e12) _ rfl ?_
    refine gi_ops oki_X8_init_50_4 (L' := [some (.inr 5), some (.inl 0)]) (st' := [.inl 10, .inl 0]) (σ1 := s11) (by rfl) ?_
    refine gi_icmp_ge dci_X8_init_55 (by rfl) (fun hc => absurd hc (by decide)) (fun _ => ?_)
    refine gi_ops oki_X8_init_58_6 (L' := [some (.inr 5), some (.inl 0)]) (st' := [.inl 4, .inl 40, .inr 6]) (σ1 := s11) (by rfl) ?_
    obtain ⟨s13, e14, h⟩ := bnd_inv h
    refine gi_SN (M1 := m_X10_put) (as := [.inr 6, .inl 40, .inl 4]) (st := []) (lay1 := LY17) (σ1 := s13) dci_X8_init_67 ln_8_34 sm_X10_put mk_X10_put rfl rfl (Nat.le_of_ble_eq_true rfl) (Nat.le_refl _) (by decide +kernel) (by decide +kernel) (lk_X10_put l d LY17 6 50 rfl _ _ s13 e14) _ rfl ?_
    refine gi_ops oki_X8_init_70_6 (L' := [some (.inr 5), some (.inl 0)]) (st' := [.inl 0, .inl 40, .inr 7]) (σ1 := s13) (by rfl) ?_
    obtain ⟨s15, e16, h⟩ := bnd_inv h
    refine gi_SN (M1 := m_X10_put) (as := [.inr 7, .inl 40, .inl 0]) (st := []) (lay1 := LY17) (σ1 := s15) dci_X8_init_79 ln_8_34 sm_X10_put mk_X10_put rfl rfl (Nat.le_of_ble_eq_true rfl) (Nat.le_refl _) (by decide +kernel) (by decide +kernel) (lk_X10_put l d LY17 7 50 rfl _ _ s15 e16) _ rfl ?_
    refine gi_ops oki_X8_init_82_6 (L' := [some (.inr 5), some (.inl 0)]) (st' := [.inl 0, .inl 40, .inr 8]) (σ1 := s15) (by rfl) ?_
    obtain ⟨s17, e18, h⟩ := bnd_inv h
    refine gi_SN (M1 := m_X10_put) (as := [.inr 8, .inl 40, .inl 0]) (st := []) (lay1 := LY17) (σ1 := s17) dci_X8_init_91 ln_8_34 sm_X10_put mk_X10_put rfl rfl (Nat.le_of_ble_eq_true rfl) (Nat.le_refl _) (by decide +kernel) (by decide +kernel) (lk_X10_put l d LY17 8 50 rfl _ _ s17 e18) _ rfl ?_
    refine gi_ops oki_X8_init_94_1 (L' := [some (.inr 5), some (.inl 1)]) (st' := []) (σ1 := s17) (by rfl) ?_
    refine gi_goto dci_X8_init_97 (by rfl) ?_
    refine gi_ops oki_X8_init_52_2 (L' := [some (.inr 5), some (.inl 1)]) (st' := [.inl 10, .inl 1]) (σ1 := s17) (by rfl) ?_
    refine gi_icmp_ge dci_X8_init_55 (by rfl) (fun hc => absurd hc (by decide)) (fun _ => ?_)
    refine gi_ops oki_X8_init_58_6 (L' := [some (.inr 5), some (.inl 1)]) (st' := [.inl 4, .inl 41, .inr 6]) (σ1 := s17) (by rfl) ?_
    obtain ⟨s19, e20, h⟩ := bnd_inv h
    refine gi_SN (M1 := m_X10_put) (as := [.inr 6, .inl 41, .inl 4]) (st := []) (lay1 := LY17) (σ1 := s19) dci_X8_init_67 ln_8_34 sm_X10_put mk_X10_put rfl rfl (Nat.le_of_ble_eq_true rfl) (Nat.le_refl _) (by decide +kernel) (by decide +kernel) (lk_X10_put l d LY17 6 50 rfl _ _ s19 e20) _ rfl ?_
    refine gi_ops oki_X8_init_70_6 (L' := [some (.inr 5), some (.inl 1)]) (st' := [.inl 1, .inl 41, .inr 7]) (σ1 := s19) (by rfl) ?_
    obtain ⟨s21, e22, h⟩ := bnd_inv h
    refine gi_SN (M1 := m_X10_put) (as := [.inr 7, .inl 41, .inl 1]) (st := []) (lay1 := LY17) (σ1 := s21) dci_X8_init_79 ln_8_34 sm_X10_put mk_X10_put rfl rfl (Nat.le_of_ble_eq_true rfl) (Nat.le_refl _) (by decide +kernel) (by decide +kernel) (lk_X10_put l d LY17 7 50 rfl _ _ s21 e22) _ rfl ?_
    refine gi_ops oki_X8_init_82_6 (L' := [some (.inr 5), some (.inl 1)]) (st' := [.inl 1, .inl 41, .inr 8]) (σ1 := s21) (by rfl) ?_
    obtain ⟨s23, e24, h⟩ := bnd_inv h
    refine gi_SN (M1 := m_X10_put) (as := [.inr 8, .inl 41, .inl 1]) (st := []) (lay1 := LY17) (σ1 := s23) dci_X8_init_91 ln_8_34 sm_X10_put mk_X10_put rfl rfl (Nat.le_of_ble_eq_true rfl) (Nat.le_refl _) (by decide +kernel) (by decide +kernel) (lk_X10_put l d LY17 8 50 rfl _ _ s23 e24) _ rfl ?_
    refine gi_ops oki_X8_init_94_1 (L' := [some (.inr 5), some (.inl 2)]) (st' := []) (σ1 := s23) (by rfl) ?_
    refine gi_goto dci_X8_init_97 (by rfl) ?_
    refine gi_ops oki_X8_init_52_2 (L' := [some (.inr 5), some (.inl 2)]) (st' := [.inl 10, .inl 2]) (σ1 := s23) (by rfl) ?_
    refine gi_icmp_ge dci_X8_init_55 (by rfl) (fun hc => absurd hc (by decide)) (fun _ => ?_)
    refine gi_ops oki_X8_init_58_6 (L' := [some (.inr 5), some (.inl 2)]) (st' := [.inl 4, .inl 42, .inr 6]) (σ1 := s23) (by rfl) ?_
    obtain ⟨s25, e26, h⟩ := bnd_inv h
    refine gi_SN (M1 := m_X10_put) (as := [.inr 6, .inl 42, .inl 4]) (st := []) (lay1 := LY17) (σ1 := s25) dci_X8_init_67 ln_8_34 sm_X10_put mk_X10_put rfl rfl (Nat.le_of_ble_eq_true rfl) (Nat.le_refl _) (by decide +kernel) (by decide +kernel) (lk_X10_put l d LY17 6 50 rfl _ _ s25 e26) _ rfl ?_
    refine gi_ops oki_X8_init_70_6 (L' := [some (.inr 5), some (.inl 2)]) (st' := [.inl 2, .inl 42, .inr 7]) (σ1 := s25) (by rfl) ?_
    obtain ⟨s27, e28, h⟩ := bnd_inv h
    refine gi_SN (M1 := m_X10_put) (as := [.inr 7, .inl 42, .inl 2]) (st := []) (lay1 := LY17) (σ1 := s27) dci_X8_init_79 ln_8_34 sm_X10_put mk_X10_put rfl rfl (Nat.le_of_ble_eq_true rfl) (Nat.le_refl _) (by decide +kernel) (by decide +kernel) (lk_X10_put l d LY17 7 50 rfl _ _ s27 e28) _ rfl ?_
    refine gi_ops oki_X8_init_82_6 (L' := [some (.inr 5), some (.inl 2)]) (st' := [.inl 2, .inl 42, .inr 8]) (σ1 := s27) (by rfl) ?_
    obtain ⟨s29, e30, h⟩ := bnd_inv h
    refine gi_SN (M1 := m_X10_put) (as := [.inr 8, .inl 42, .inl 2]) (st := []) (lay1 := LY17) (σ1 := s29) dci_X8_init_91 ln_8_34 sm_X10_put mk_X10_put rfl rfl (Nat.le_of_ble_eq_true rfl) (Nat.le_refl _) (by decide +kernel) (by decide +kernel) (lk_X10_put l d LY17 8 50 rfl _ _ s29 e30) _ rfl ?_
    refine gi_ops oki_X8_init_94_1 (L' := [some (.inr 5), some (.inl 3)]) (st' := []) (σ1 := s29) (by rfl) ?_
    refine gi_goto dci_X8_init_97 (by rfl) ?_
    refine gi_ops oki_X8_init_52_2 (L' := [some (.inr 5), some (.inl 3)]) (st' := [.inl 10, .inl 3]) (σ1 := s29) (by rfl) ?_
    refine gi_icmp_ge dci_X8_init_55 (by rfl) (fun hc => absurd hc (by decide)) (fun _ => ?_)
    refine gi_ops oki_X8_init_58_6 (L' := [some (.inr 5), some (.inl 3)]) (st' := [.inl 4, .inl 43, .inr 6]) (σ1 := s29) (by rfl) ?_
    obtain ⟨s31, e32, h⟩ := bnd_inv h
    refine gi_SN (M1 := m_X10_put) (as := [.inr 6, .inl 43, .inl 4]) (st := []) (lay1 := LY17) (σ1 := s31) dci_X8_init_67 ln_8_34 sm_X10_put mk_X10_put rfl rfl (Nat.le_of_ble_eq_true rfl) (Nat.le_refl _) (by decide +kernel) (by decide +kernel) (lk_X10_put l d LY17 6 50 rfl _ _ s31 e32) _ rfl ?_
    refine gi_ops oki_X8_init_70_6 (L' := [some (.inr 5), some (.inl 3)]) (st' := [.inl 3, .inl 43, .inr 7]) (σ1 := s31) (by rfl) ?_
    obtain ⟨s33, e34, h⟩ := bnd_inv h
    refine gi_SN (M1 := m_X10_put) (as := [.inr 7, .inl 43, .inl 3]) (st := []) (lay1 := LY17) (σ1 := s33) dci_X8_init_79 ln_8_34 sm_X10_put mk_X10_put rfl rfl (Nat.le_of_ble_eq_true rfl) (Nat.le_refl _) (by decide +kernel) (by decide +kernel) (lk_X10_put l d LY17 7 50 rfl _ _ s33 e34) _ rfl ?_
    refine gi_ops oki_X8_init_82_6 (L' := [some (.inr 5), some (.inl 3)]) (st' := [.inl 3, .inl 43, .inr 8]) (σ1 := s33) (by rfl) ?_
    obtain ⟨s35, e36, h⟩ := bnd_inv h
    refine gi_SN (M1 := m_X10_put) (as := [.inr 8, .inl 43, .inl 3]) (st := []) (lay1 := LY17) (σ1 := s35) dci_X8_init_91 ln_8_34 sm_X10_put mk_X10_put rfl rfl (Nat.le_of_ble_eq_true rfl) (Nat.le_refl _) (by decide +kernel) (by decide +kernel) (lk_X10_put l d LY17 8 50 rfl _ _ s35 e36) _ rfl ?_
    refine gi_ops oki_X8_init_94_1 (L' := [some (.inr 5), some (.inl 4)]) (st' := []) (σ1 := s35) (by rfl) ?_
    refine gi_goto dci_X8_init_97 (by rfl) ?_
    refine gi_ops oki_X8_init_52_2 (L' := [some (.inr 5), some (.inl 4)]) (st' := [.inl 10, .inl 4]) (σ1 := s35) (by rfl) ?_
    refine gi_icmp_ge dci_X8_init_55 (by rfl) (fun hc => absurd hc (by decide)) (fun _ => ?_)
    refine gi_ops oki_X8_init_58_6 (L' := [some (.inr 5), some (.inl 4)]) (st' := [.inl 4, .inl 44, .inr 6]) (σ1 := s35) (by rfl) ?_
    obtain ⟨s37, e38, h⟩ := bnd_inv h
    refine gi_SN (M1 := m_X10_put) (as := [.inr 6, .inl 44, .inl 4]) (st := []) (lay1 := LY17) (σ1 := s37) dci_X8_init_67 ln_8_34 sm_X10_put mk_X10_put rfl rfl (Nat.le_of_ble_eq_true rfl) (Nat.le_refl _) (by decide +kernel) (by decide +kernel) (lk_X10_put l d LY17 6 50 rfl _ _ s37 e38) _ rfl ?_
    refine gi_ops oki_X8_init_70_6 (L' := [some (.inr 5), some (.inl 4)]) (st' := [.inl 4, .inl 44, .inr 7]) (σ1 := s37) (by rfl) ?_
    obtain ⟨s39, e40, h⟩ := bnd_inv h
    refine gi_SN (M1 := m_X10_put) (as := [.inr 7, .inl 44, .inl 4]) (st := []) (lay1 := LY17) (σ1 := s39) dci_X8_init_79 ln_8_34 sm_X10_put mk_X10_put rfl rfl (Nat.le_of_ble_eq_true rfl) (Nat.le_refl _) (by decide +kernel) (by decide +kernel) (lk_X10_put l d LY17 7 50 rfl _ _ s39 e40) _ rfl ?_
    refine gi_ops oki_X8_init_82_6 (L' := [some (.inr 5), some (.inl 4)]) (st' := [.inl 4, .inl 44, .inr 8]) (σ1 := s39) (by rfl) ?_
    obtain ⟨s41, e42, h⟩ := bnd_inv h
    refine gi_SN (M1 := m_X10_put) (as := [.inr 8, .inl 44, .inl 4]) (st := []) (lay1 := LY17) (σ1 := s41) dci_X8_init_91 ln_8_34 sm_X10_put mk_X10_put rfl rfl (Nat.le_of_ble_eq_true rfl) (Nat.le_refl _) (by decide +kernel) (by decide +kernel) (lk_X10_put l d LY17 8 50 rfl _ _ s41 e42) _ rfl ?_
    refine gi_ops oki_X8_init_94_1 (L' := [some (.inr 5), some (.inl 5)]) (st' := []) (σ1 := s41) (by rfl) ?_
    refine gi_goto dci_X8_init_97 (by rfl) ?_
    refine gi_ops oki_X8_init_52_2 (L' := [some (.inr 5), some (.inl 5)]) (st' := [.inl 10, .inl 5]) (σ1 := s41) (by rfl) ?_
    refine gi_icmp_ge dci_X8_init_55 (by rfl) (fun hc => absurd hc (by decide)) (fun _ => ?_)
    refine gi_ops oki_X8_init_58_6 (L' := [some (.inr 5), some (.inl 5)]) (st' := [.inl 4, .inl 45, .inr 6]) (σ1 := s41) (by rfl) ?_
    obtain ⟨s43, e44, h⟩ := bnd_inv h
    refine gi_SN (M1 := m_X10_put) (as := [.inr 6, .inl 45, .inl 4]) (st := []) (lay1 := LY17) (σ1 := s43) dci_X8_init_67 ln_8_34 sm_X10_put mk_X10_put rfl rfl (Nat.le_of_ble_eq_true rfl) (Nat.le_refl _) (by decide +kernel) (by decide +kernel) (lk_X10_put l d LY17 6 50 rfl _ _ s43 e44) _ rfl ?_
    refine gi_ops oki_X8_init_70_6 (L' := [some (.inr 5), some (.inl 5)]) (st' := [.inl 5, .inl 45, .inr 7]) (σ1 := s43) (by rfl) ?_
    obtain ⟨s45, e46, h⟩ := bnd_inv h
    refine gi_SN (M1 := m_X10_put) (as := [.inr 7, .inl 45, .inl 5]) (st := []) (lay1 := LY17) (σ1 := s45) dci_X8_init_79 ln_8_34 sm_X10_put mk_X10_put rfl rfl (Nat.le_of_ble_eq_true rfl) (Nat.le_refl _) (by decide +kernel) (by decide +kernel) (lk_X10_put l d LY17 7 50 rfl _ _ s45 e46) _ rfl ?_
    refine gi_ops oki_X8_init_82_6 (L' := [some (.inr 5), some (.inl 5)]) (st' := [.inl 5, .inl 45, .inr 8]) (σ1 := s45) (by rfl) ?_
    obtain ⟨s47, e48, h⟩ := bnd_inv h
    refine gi_SN (M1 := m_X10_put) (as := [.inr 8, .inl 45, .inl 5]) (st := []) (lay1 := LY17) (σ1 := s47) dci_X8_init_91 ln_8_34 sm_X10_put mk_X10_put rfl rfl (Nat.le_of_ble_eq_true rfl) (Nat.le_refl _) (by decide +kernel) (by decide +kernel) (lk_X10_put l d LY17 8 50 rfl _ _ s47 e48) _ rfl ?_
    refine gi_ops oki_X8_init_94_1 (L' := [some (.inr 5), some (.inl 6)]) (st' := []) (σ1 := s47) (by rfl) ?_
    refine gi_goto dci_X8_init_97 (by rfl) ?_
    refine gi_ops oki_X8_init_52_2 (L' := [some (.inr 5), some (.inl 6)]) (st' := [.inl 10, .inl 6]) (σ1 := s47) (by rfl) ?_
    refine gi_icmp_ge dci_X8_init_55 (by rfl) (fun hc => absurd hc (by decide)) (fun _ => ?_)
    refine gi_ops oki_X8_init_58_6 (L' := [some (.inr 5), some (.inl 6)]) (st' := [.inl 4, .inl 46, .inr 6]) (σ1 := s47) (by rfl) ?_
    obtain ⟨s49, e50, h⟩ := bnd_inv h
    refine gi_SN (M1 := m_X10_put) (as := [.inr 6, .inl 46, .inl 4]) (st := []) (lay1 := LY17) (σ1 := s49) dci_X8_init_67 ln_8_34 sm_X10_put mk_X10_put rfl rfl (Nat.le_of_ble_eq_true rfl) (Nat.le_refl _) (by decide +kernel) (by decide +kernel) (lk_X10_put l d LY17 6 50 rfl _ _ s49 e50) _ rfl ?_
    refine gi_ops oki_X8_init_70_6 (L' := [some (.inr 5), some (.inl 6)]) (st' := [.inl 6, .inl 46, .inr 7]) (σ1 := s49) (by rfl) ?_
    obtain ⟨s51, e52, h⟩ := bnd_inv h
    refine gi_SN (M1 := m_X10_put) (as := [.inr 7, .inl 46, .inl 6]) (st := []) (lay1 := LY17) (σ1 := s51) dci_X8_init_79 ln_8_34 sm_X10_put mk_X10_put rfl rfl (Nat.le_of_ble_eq_true rfl) (Nat.le_refl _) (by decide +kernel) (by decide +kernel) (lk_X10_put l d LY17 7 50 rfl _ _ s51 e52) _ rfl ?_
    refine gi_ops oki_X8_init_82_6 (L' := [some (.inr 5), some (.inl 6)]) (st' := [.inl 6, .inl 46, .inr 8]) (σ1 := s51) (by rfl) ?_
    obtain ⟨s53, e54, h⟩ := bnd_inv h
    refine gi_SN (M1 := m_X10_put) (as := [.inr 8, .inl 46, .inl 6]) (st := []) (lay1 := LY17) (σ1 := s53) dci_X8_init_91 ln_8_34 sm_X10_put mk_X10_put rfl rfl (Nat.le_of_ble_eq_true rfl) (Nat.le_refl _) (by decide +kernel) (by decide +kernel) (lk_X10_put l d LY17 8 50 rfl _ _ s53 e54) _ rfl ?_
    refine gi_ops oki_X8_init_94_1 (L' := [some (.inr 5), some (.inl 7)]) (st' := []) (σ1 := s53) (by rfl) ?_
    refine gi_goto dci_X8_init_97 (by rfl) ?_
    refine gi_ops oki_X8_init_52_2 (L' := [some (.inr 5), some (.inl 7)]) (st' := [.inl 10, .inl 7]) (σ1 := s53) (by rfl) ?_
    refine gi_icmp_ge dci_X8_init_55 (by rfl) (fun hc => absurd hc (by decide)) (fun _ => ?_)
    refine gi_ops oki_X8_init_58_6 (L' := [some (.inr 5), some (.inl 7)]) (st' := [.inl 4, .inl 47, .inr 6]) (σ1 := s53) (by rfl) ?_
    obtain ⟨s55, e56, h⟩ := bnd_inv h
    refine gi_SN (M1 := m_X10_put) (as := [.inr 6, .inl 47, .inl 4]) (st := []) (lay1 := LY17) (σ1 := s55) dci_X8_init_67 ln_8_34 sm_X10_put mk_X10_put rfl rfl (Nat.le_of_ble_eq_true rfl) (Nat.le_refl _) (by decide +kernel) (by decide +kernel) (lk_X10_put l d LY17 6 50 rfl _ _ s55 e56) _ rfl ?_
    refine gi_ops oki_X8_init_70_6 (L' := [some (.inr 5), some (.inl 7)]) (st' := [.inl 7, .inl 47, .inr 7]) (σ1 := s55) (by rfl) ?_
    obtain ⟨s57, e58, h⟩ := bnd_inv h
    refine gi_SN (M1 := m_X10_put) (as := [.inr 7, .inl 47, .inl 7]) (st := []) (lay1 := LY17) (σ1 := s57) dci_X8_init_79 ln_8_34 sm_X10_put mk_X10_put rfl rfl (Nat.le_of_ble_eq_true rfl) (Nat.le_refl _) (by decide +kernel) (by decide +kernel) (lk_X10_put l d LY17 7 50 rfl _ _ s57 e58) _ rfl ?_
    refine gi_ops oki_X8_init_82_6 (L' := [some (.inr 5), some (.inl 7)]) (st' := [.inl 7, .inl 47, .inr 8]) (σ1 := s57) (by rfl) ?_
    obtain ⟨s59, e60, h⟩ := bnd_inv h
    refine gi_SN (M1 := m_X10_put) (as := [.inr 8, .inl 47, .inl 7]) (st := []) (lay1 := LY17) (σ1 := s59) dci_X8_init_91 ln_8_34 sm_X10_put mk_X10_put rfl rfl (Nat.le_of_ble_eq_true rfl) (Nat.le_refl _) (by decide +kernel) (by decide +kernel) (lk_X10_put l d LY17 8 50 rfl _ _ s59 e60) _ rfl ?_
    refine gi_ops oki_X8_init_94_1 (L' := [some (.inr 5), some (.inl 8)]) (st' := []) (σ1 := s59) (by rfl) ?_
    refine gi_goto dci_X8_init_97 (by rfl) ?_
    refine gi_ops oki_X8_init_52_2 (L' := [some (.inr 5), some (.inl 8)]) (st' := [.inl 10, .inl 8]) (σ1 := s59) (by rfl) ?_
    refine gi_icmp_ge dci_X8_init_55 (by rfl) (fun hc => absurd hc (by decide)) (fun _ => ?_)
    refine gi_ops oki_X8_init_58_6 (L' := [some (.inr 5), some (.inl 8)]) (st' := [.inl 4, .inl 48, .inr 6]) (σ1 := s59) (by rfl) ?_
    obtain ⟨s61, e62, h⟩ := bnd_inv h
    refine gi_SN (M1 := m_X10_put) (as := [.inr 6, .inl 48, .inl 4]) (st := []) (lay1 := LY17) (σ1 := s61) dci_X8_init_67 ln_8_34 sm_X10_put mk_X10_put rfl rfl (Nat.le_of_ble_eq_true rfl) (Nat.le_refl _) (by decide +kernel) (by decide +kernel) (lk_X10_put l d LY17 6 50 rfl _ _ s61 e62) _ rfl ?_
    refine gi_ops oki_X8_init_70_6 (L' := [some (.inr 5), some (.inl 8)]) (st' := [.inl 8, .inl 48, .inr 7]) (σ1 := s61) (by rfl) ?_
    obtain ⟨s63, e64, h⟩ := bnd_inv h
    refine gi_SN (M1 := m_X10_put) (as := [.inr 7, .inl 48, .inl 8]) (st := []) (lay1 := LY17) (σ1 := s63) dci_X8_init_79 ln_8_34 sm_X10_put mk_X10_put rfl rfl (Nat.le_of_ble_eq_true rfl) (Nat.le_refl _) (by decide +kernel) (by decide +kernel) (lk_X10_put l d LY17 7 50 rfl _ _ s63 e64) _ rfl ?_
    refine gi_ops oki_X8_init_82_6 (L' := [some (.inr 5), some (.inl 8)]) (st' := [.inl 8, .inl 48, .inr 8]) (σ1 := s63) (by rfl) ?_
    obtain ⟨s65, e66, h⟩ := bnd_inv h
    refine gi_SN (M1 := m_X10_put) (as := [.inr 8, .inl 48, .inl 8]) (st := []) (lay1 := LY17) (σ1 := s65) dci_X8_init_91 ln_8_34 sm_X10_put mk_X10_put rfl rfl (Nat.le_of_ble_eq_true rfl) (Nat.le_refl _) (by decide +kernel) (by decide +kernel) (lk_X10_put l d LY17 8 50 rfl _ _ s65 e66) _ rfl ?_
    refine gi_ops oki_X8_init_94_1 (L' := [some (.inr 5), some (.inl 9)]) (st' := []) (σ1 := s65) (by rfl) ?_
    refine gi_goto dci_X8_init_97 (by rfl) ?_
    refine gi_ops oki_X8_init_52_2 (L' := [some (.inr 5), some (.inl 9)]) (st' := [.inl 10, .inl 9]) (σ1 := s65) (by rfl) ?_
    refine gi_icmp_ge dci_X8_init_55 (by rfl) (fun hc => absurd hc (by decide)) (fun _ => ?_)
    refine gi_ops oki_X8_init_58_6 (L' := [some (.inr 5), some (.inl 9)]) (st' := [.inl 4, .inl 49, .inr 6]) (σ1 := s65) (by rfl) ?_
    obtain ⟨s67, e68, h⟩ := bnd_inv h
    refine gi_SN (M1 := m_X10_put) (as := [.inr 6, .inl 49, .inl 4]) (st := []) (lay1 := LY17) (σ1 := s67) dci_X8_init_67 ln_8_34 sm_X10_put mk_X10_put rfl rfl (Nat.le_of_ble_eq_true rfl) (Nat.le_refl _) (by decide +kernel) (by decide +kernel) (lk_X10_put l d LY17 6 50 rfl _ _ s67 e68) _ rfl ?_
    refine gi_ops oki_X8_init_70_6 (L' := [some (.inr 5), some (.inl 9)]) (st' := [.inl 9, .inl 49, .inr 7]) (σ1 := s67) (by rfl) ?_
    obtain ⟨s69, e70, h⟩ := bnd_inv h
    refine gi_SN (M1 := m_X10_put) (as := [.inr 7, .inl 49, .inl 9]) (st := []) (lay1 := LY17) (σ1 := s69) dci_X8_init_79 ln_8_34 sm_X10_put mk_X10_put rfl rfl (Nat.le_of_ble_eq_true rfl) (Nat.le_refl _) (by decide +kernel) (by decide +kernel) (lk_X10_put l d LY17 7 50 rfl _ _ s69 e70) _ rfl ?_
    refine gi_ops oki_X8_init_82_6 (L' := [some (.inr 5), some (.inl 9)]) (st' := [.inl 9, .inl 49, .inr 8]) (σ1 := s69) (by rfl) ?_
    obtain ⟨s71, e72, h⟩ := bnd_inv h
    refine gi_SN (M1 := m_X10_put) (as := [.inr 8, .inl 49, .inl 9]) (st := []) (lay1 := LY17) (σ1 := s71) dci_X8_init_91 ln_8_34 sm_X10_put mk_X10_put rfl rfl (Nat.le_of_ble_eq_true rfl) (Nat.le_refl _) (by decide +kernel) (by decide +kernel) (lk_X10_put l d LY17 8 50 rfl _ _ s71 e72) _ rfl ?_
    refine gi_ops oki_X8_init_94_1 (L' := [some (.inr 5), some (.inl 10)]) (st' := []) (σ1 := s71) (by rfl) ?_
    refine gi_goto dci_X8_init_97 (by rfl) ?_
    refine gi_ops oki_X8_init_52_2 (L' := [some (.inr 5), some (.inl 10)]) (st' := [.inl 10, .inl 10]) (σ1 := s71) (by rfl) ?_
    refine gi_icmp_ge dci_X8_init_55 (by rfl) (fun _ => ?_) (fun hc => absurd (by decide) hc)
    subst h
    exact gi_vret dci_X8_init_100 rfl
  exact gi_ct (as := [.inr 5]) mk_X8_init (by rfl) (Nat.le_of_ble_eq_true rfl) key
def LY18 : List Lay := [(10, [3, 7, 1, 1, 1, 1, 1, 1, 1, 1]), (2, [4, 5, 6]), (12, [4]), (12, [16]), (12, [48]), (8, [0, 8, 9, 10, 11]), (12, [50]), (12, [50]), (12, [50]), (12, [150])]
def LY19 : List Lay := [(10, [3, 7, 1, 1, 1, 1, 1, 1, 1, 1]), (2, [4, 5, 6]), (12, [4]), (12, [16]), (12, [48]), (8, [0, 8, 9, 10, 11]), (12, [50]), (12, [50]), (12, [50]), (12, [150]), (5, [0, 1, 1, 1, 1, 1, 1, 1, 1, 1, 1, 1])]
def LY20 : List Lay := [(10, [3, 7, 1, 1, 1, 1, 1, 1, 1, 1]), (2, [4, 5, 6]), (12, [4]), (12, [16]), (12, [48]), (8, [0, 8, 9, 10, 11]), (12, [50]), (12, [50]), (12, [50]), (12, [150]), (5, [0, 1, 1, 1, 1, 1, 1, 1, 1, 1, 1, 1]), (12, [60])]
def LY21 : List Lay := [(10, [3, 7, 1, 1, 1, 1, 1, 1, 1, 1]), (2, [4, 5, 6]), (12, [4]), (12, [16]), (12, [48]), (8, [0, 8, 9, 10, 11]), (12, [50]), (12, [50]), (12, [50]), (12, [150]), (5, [0, 13, 1, 1, 1, 1, 1, 1, 1, 1, 1, 1]), (12, [60])]
def LY22 : List Lay := [(10, [3, 7, 1, 1, 1, 1, 1, 1, 1, 1]), (2, [4, 5, 6]), (12, [4]), (12, [16]), (12, [48]), (8, [0, 8, 9, 10, 11]), (12, [50]), (12, [50]), (12, [50]), (12, [150]), (5, [0, 13, 1, 1, 1, 1, 1, 1, 1, 1, 1, 1]), (12, [60]), (12, [60])]
def LY23 : List Lay := [(10, [3, 7, 1, 1, 1, 1, 1, 1, 1, 1]), (2, [4, 5, 6]), (12, [4]), (12, [16]), (12, [48]), (8, [0, 8, 9, 10, 11]), (12, [50]), (12, [50]), (12, [50]), (12, [150]), (5, [0, 13, 14, 1, 1, 1, 1, 1, 1, 1, 1, 1]), (12, [60]), (12, [60])]
def LY24 : List Lay := [(10, [3, 7, 1, 1, 1, 1, 1, 1, 1, 1]), (2, [4, 5, 6]), (12, [4]), (12, [16]), (12, [48]), (8, [0, 8, 9, 10, 11]), (12, [50]), (12, [50]), (12, [50]), (12, [150]), (5, [0, 13, 14, 1, 1, 1, 1, 1, 1, 1, 1, 1]), (12, [60]), (12, [60]), (12, [60])]
def LY25 : List Lay := [(10, [3, 7, 1, 1, 1, 1, 1, 1, 1, 1]), (2, [4, 5, 6]), (12, [4]), (12, [16]), (12, [48]), (8, [0, 8, 9, 10, 11]), (12, [50]), (12, [50]), (12, [50]), (12, [150]), (5, [0, 13, 14, 15, 1, 1, 1, 1, 1, 1, 1, 1]), (12, [60]), (12, [60]), (12, [60])]
def LY26 : List Lay := [(10, [3, 7, 1, 1, 1, 1, 1, 1, 1, 1]), (2, [4, 5, 6]), (12, [4]), (12, [16]), (12, [48]), (8, [0, 8, 9, 10, 11]), (12, [50]), (12, [50]), (12, [50]), (12, [150]), (5, [0, 13, 14, 15, 1, 1, 1, 1, 1, 1, 1, 1]), (12, [60]), (12, [60]), (12, [60]), (12, [60])]
def LY27 : List Lay := [(10, [3, 7, 1, 1, 1, 1, 1, 1, 1, 1]), (2, [4, 5, 6]), (12, [4]), (12, [16]), (12, [48]), (8, [0, 8, 9, 10, 11]), (12, [50]), (12, [50]), (12, [50]), (12, [150]), (5, [0, 13, 14, 15, 16, 1, 1, 1, 1, 1, 1, 1]), (12, [60]), (12, [60]), (12, [60]), (12, [60])]
def LY28 : List Lay := [(10, [3, 7, 1, 1, 1, 1, 1, 1, 1, 1]), (2, [4, 5, 6]), (12, [4]), (12, [16]), (12, [48]), (8, [0, 8, 9, 10, 11]), (12, [50]), (12, [50]), (12, [50]), (12, [150]), (5, [0, 13, 14, 15, 16, 1, 1, 1, 1, 1, 1, 1]), (12, [60]), (12, [60]), (12, [60]), (12, [60]), (12, [180])]
def LY29 : List Lay := [(10, [3, 7, 1, 1, 1, 1, 1, 1, 1, 1]), (2, [4, 5, 6]), (12, [4]), (12, [16]), (12, [48]), (8, [0, 8, 9, 10, 11]), (12, [50]), (12, [50]), (12, [50]), (12, [150]), (5, [0, 13, 14, 15, 16, 17, 1, 1, 1, 1, 1, 1]), (12, [60]), (12, [60]), (12, [60]), (12, [60]), (12, [180])]
def LY30 : List Lay := [(10, [3, 7, 1, 1, 1, 1, 1, 1, 1, 1]), (2, [4, 5, 6]), (12, [4]), (12, [16]), (12, [48]), (8, [0, 8, 9, 10, 11]), (12, [50]), (12, [50]), (12, [50]), (12, [150]), (5, [0, 13, 14, 15, 16, 17, 1, 1, 1, 1, 1, 1]), (12, [60]), (12, [60]), (12, [60]), (12, [60]), (12, [180]), (12, [60])]
def LY31 : List Lay := [(10, [3, 7, 1, 1, 1, 1, 1, 1, 1, 1]), (2, [4, 5, 6]), (12, [4]), (12, [16]), (12, [48]), (8, [0, 8, 9, 10, 11]), (12, [50]), (12, [50]), (12, [50]), (12, [150]), (5, [0, 13, 14, 15, 16, 17, 18, 1, 1, 1, 1, 1]), (12, [60]), (12, [60]), (12, [60]), (12, [60]), (12, [180]), (12, [60])]
def LY32 : List Lay := [(10, [3, 7, 1, 1, 1, 1, 1, 1, 1, 1]), (2, [4, 5, 6]), (12, [4]), (12, [16]), (12, [48]), (8, [0, 8, 9, 10, 11]), (12, [50]), (12, [50]), (12, [50]), (12, [150]), (5, [0, 13, 14, 15, 16, 17, 18, 1, 1, 1, 1, 1]), (12, [60]), (12, [60]), (12, [60]), (12, [60]), (12, [180]), (12, [60]), (12, [60])]
def LY33 : List Lay := [(10, [3, 7, 1, 1, 1, 1, 1, 1, 1, 1]), (2, [4, 5, 6]), (12, [4]), (12, [16]), (12, [48]), (8, [0, 8, 9, 10, 11]), (12, [50]), (12, [50]), (12, [50]), (12, [150]), (5, [0, 13, 14, 15, 16, 17, 18, 19, 1, 1, 1, 1]), (12, [60]), (12, [60]), (12, [60]), (12, [60]), (12, [180]), (12, [60]), (12, [60])]
def LY34 : List Lay := [(10, [3, 7, 1, 1, 1, 1, 1, 1, 1, 1]), (2, [4, 5, 6]), (12, [4]), (12, [16]), (12, [48]), (8, [0, 8, 9, 10, 11]), (12, [50]), (12, [50]), (12, [50]), (12, [150]), (5, [0, 13, 14, 15, 16, 17, 18, 19, 1, 1, 1, 1]), (12, [60]), (12, [60]), (12, [60]), (12, [60]), (12, [180]), (12, [60]), (12, [60]), (12, [60])]
def LY35 : List Lay := [(10, [3, 7, 1, 1, 1, 1, 1, 1, 1, 1]), (2, [4, 5, 6]), (12, [4]), (12, [16]), (12, [48]), (8, [0, 8, 9, 10, 11]), (12, [50]), (12, [50]), (12, [50]), (12, [150]), (5, [0, 13, 14, 15, 16, 17, 18, 19, 20, 1, 1, 1]), (12, [60]), (12, [60]), (12, [60]), (12, [60]), (12, [180]), (12, [60]), (12, [60]), (12, [60])]
def LY36 : List Lay := [(10, [3, 7, 1, 1, 1, 1, 1, 1, 1, 1]), (2, [4, 5, 6]), (12, [4]), (12, [16]), (12, [48]), (8, [0, 8, 9, 10, 11]), (12, [50]), (12, [50]), (12, [50]), (12, [150]), (5, [0, 13, 14, 15, 16, 17, 18, 19, 20, 1, 1, 1]), (12, [60]), (12, [60]), (12, [60]), (12, [60]), (12, [180]), (12, [60]), (12, [60]), (12, [60]), (12, [60])]
def LY37 : List Lay := [(10, [3, 7, 1, 1, 1, 1, 1, 1, 1, 1]), (2, [4, 5, 6]), (12, [4]), (12, [16]), (12, [48]), (8, [0, 8, 9, 10, 11]), (12, [50]), (12, [50]), (12, [50]), (12, [150]), (5, [0, 13, 14, 15, 16, 17, 18, 19, 20, 21, 1, 1]), (12, [60]), (12, [60]), (12, [60]), (12, [60]), (12, [180]), (12, [60]), (12, [60]), (12, [60]), (12, [60])]
def LY38 : List Lay := [(10, [3, 7, 1, 1, 1, 1, 1, 1, 1, 1]), (2, [4, 5, 6]), (12, [4]), (12, [16]), (12, [48]), (8, [0, 8, 9, 10, 11]), (12, [50]), (12, [50]), (12, [50]), (12, [150]), (5, [0, 13, 14, 15, 16, 17, 18, 19, 20, 21, 1, 1]), (12, [60]), (12, [60]), (12, [60]), (12, [60]), (12, [180]), (12, [60]), (12, [60]), (12, [60]), (12, [60]), (12, [60])]
def LY39 : List Lay := [(10, [3, 7, 1, 1, 1, 1, 1, 1, 1, 1]), (2, [4, 5, 6]), (12, [4]), (12, [16]), (12, [48]), (8, [0, 8, 9, 10, 11]), (12, [50]), (12, [50]), (12, [50]), (12, [150]), (5, [0, 13, 14, 15, 16, 17, 18, 19, 20, 21, 22, 1]), (12, [60]), (12, [60]), (12, [60]), (12, [60]), (12, [180]), (12, [60]), (12, [60]), (12, [60]), (12, [60]), (12, [60])]
def LY40 : List Lay := [(10, [3, 7, 1, 1, 1, 1, 1, 1, 1, 1]), (2, [4, 5, 6]), (12, [4]), (12, [16]), (12, [48]), (8, [0, 8, 9, 10, 11]), (12, [50]), (12, [50]), (12, [50]), (12, [150]), (5, [0, 13, 14, 15, 16, 17, 18, 19, 20, 21, 22, 1]), (12, [60]), (12, [60]), (12, [60]), (12, [60]), (12, [180]), (12, [60]), (12, [60]), (12, [60]), (12, [60]), (12, [60]), (12, [60])]
def LY41 : List Lay := [(10, [3, 7, 1, 1, 1, 1, 1, 1, 1, 1]), (2, [4, 5, 6]), (12, [4]), (12, [16]), (12, [48]), (8, [0, 8, 9, 10, 11]), (12, [50]), (12, [50]), (12, [50]), (12, [150]), (5, [0, 13, 14, 15, 16, 17, 18, 19, 20, 21, 22, 23]), (12, [60]), (12, [60]), (12, [60]), (12, [60]), (12, [180]), (12, [60]), (12, [60]), (12, [60]), (12, [60]), (12, [60]), (12, [60])]
def I_X5_init_0 (σ : Sg) : Sg :=
bnd (up2 σ 10 0 0) fun s1 =>
bnd (fresh s1 11) fun s3 =>
bnd (fresh s3 12) fun s5 =>
bnd (fresh s5 13) fun s7 =>
bnd (fresh s7 14) fun s9 =>
bnd (fresh s9 15) fun s11 =>
bnd (fresh s11 16) fun s13 =>
bnd (fresh s13 17) fun s15 =>
bnd (fresh s15 18) fun s17 =>
bnd (fresh s17 19) fun s19 =>
bnd (fresh s19 20) fun s21 =>
bnd (fresh s21 21) fun s23 =>
s23
theorem ci_X5_init_0 (l : Launch) (d : Nat) (hd : 1 ≤ d) (σ q : Sg) (h : I_X5_init_0 σ = q) : CT l d m_X5_init.2.1 m_X5_init.2.2.1 m_X5_init.2.2.2.1 m_X5_init.2.2.2.2 [.inr 10] (LY19, σ) none (LY41, q) := by
  obtain ⟨d, rfl⟩ : ∃ e, d = e + 1 := ⟨d - 1, by omega⟩
  have key : Gi l m_X5_init (d + 1) LY19 LY41 q 0 [some (.inr 10)] [] LY19 σ := by
    unfold I_X5_init_0 at h
    refine gi_ops oki_X5_init_0_1 (L' := [some (.inr 10)]) (st' := [.inr 10]) (σ1 := σ) (by rfl) ?_
    refine gi_obj dci_X5_init_1 (by decide +kernel) (Nat.le_of_ble_eq_true rfl) (by omega) ?_
    refine gi_ops oki_X5_init_4_2 (L' := [some (.inr 10)]) (st' := [.inl 0, .inr 10]) (σ1 := σ) (by rfl) ?_
    obtain ⟨s1, e2, h⟩ := bnd_inv h
    refine gi_putI dci_X5_init_6 (by decide +kernel) (by decide) rfl rfl (Or.inl (by decide +kernel)) (Or.inr ⟨by decide +kernel, rfl⟩) e2 ?_
    refine gi_ops oki_X5_init_9_2 (L' := [some (.inr 10)]) (st' := [.inl 60, .inr 10]) (σ1 := s1) (by rfl) ?_
    obtain ⟨s3, e4, h⟩ := bnd_inv h
    refine gi_newI (lay' := LY20) dci_X5_init_12 (by decide) (by decide +kernel) (by rfl) e4 ?_
    refine gi_putR (sl := 1) (lay' := LY21) dci_X5_init_14 (by decide +kernel) (by decide) rfl (by decide) (by decide +kernel) (Or.inr ⟨by decide +kernel, rfl⟩) (by rfl) ?_
    refine gi_ops oki_X5_init_17_2 (L' := [some (.inr 10)]) (st' := [.inl 60, .inr 10]) (σ1 := s3) (by rfl) ?_
    obtain ⟨s5, e6, h⟩ := bnd_inv h
    refine gi_newI (lay' := LY22) dci_X5_init_20 (by decide) (by decide +kernel) (by rfl) e6 ?_
    refine gi_putR (sl := 2) (lay' := LY23) dci_X5_init_22 (by decide +kernel) (by decide) rfl (by decide) (by decide +kernel) (Or.inr ⟨by decide +kernel, rfl⟩) (by rfl) ?_
    refine gi_ops oki_X5_init_25_2 (L' := [some (.inr 10)]) (st' := [.inl 60, .inr 10]) (σ1 := s5) (by rfl) ?_
    obtain ⟨s7, e8, h⟩ := bnd_inv h
    refine gi_newI (lay' := LY24) dci_X5_init_28 (by decide) (by decide +kernel) (by rfl) e8 ?_
    refine gi_putR (sl := 3) (lay' := LY25) dci_X5_init_30 (by decide +kernel) (by decide) rfl (by decide) (by decide +kernel) (Or.inr ⟨by decide +kernel, rfl⟩) (by rfl) ?_
    refine gi_ops oki_X5_init_33_2 (L' := [some (.inr 10)]) (st' := [.inl 60, .inr 10]) (σ1 := s7) (by rfl) ?_
    obtain ⟨s9, e10, h⟩ := bnd_inv h
    refine gi_newI (lay' := LY26) dci_X5_init_36 (by decide) (by decide +kernel) (by rfl) e10 ?_
    refine gi_putR (sl := 4) (lay' := LY27) dci_X5_init_38 (by decide +kernel) (by decide) rfl (by decide) (by decide +kernel) (Or.inr ⟨by decide +kernel, rfl⟩) (by rfl) ?_
    refine gi_ops oki_X5_init_41_2 (L' := [some (.inr 10)]) (st' := [.inl 180, .inr 10]) (σ1 := s9) (by rfl) ?_
    obtain ⟨s11, e12, h⟩ := bnd_inv h
    refine gi_newI (lay' := LY28) dci_X5_init_45 (by decide) (by decide +kernel) (by rfl) e12 ?_
    refine gi_putR (sl := 5) (lay' := LY29) dci_X5_init_47 (by decide +kernel) (by decide) rfl (by decide) (by decide +kernel) (Or.inr ⟨by decide +kernel, rfl⟩) (by rfl) ?_
    refine gi_ops oki_X5_init_50_2 (L' := [some (.inr 10)]) (st' := [.inl 60, .inr 10]) (σ1 := s11) (by rfl) ?_
    obtain ⟨s13, e14, h⟩ := bnd_inv h
    refine gi_newI (lay' := LY30) dci_X5_init_53 (by decide) (by decide +kernel) (by rfl) e14 ?_
    refine gi_putR (sl := 6) (lay' := LY31) dci_X5_init_55 (by decide +kernel) (by decide) rfl (by decide) (by decide +kernel) (Or.inr ⟨by decide +kernel, rfl⟩) (by rfl) ?_
    refine gi_ops oki_X5_init_58_2 (L' := [some (.inr 10)]) (st' := [.inl 60, .inr 10]) (σ1 := s13) (by rfl) ?_
    obtain ⟨s15, e16, h⟩ := bnd_inv h
    refine gi_newI (lay' := LY32) dci_X5_init_61 (by decide) (by decide +kernel) (by rfl) e16 ?_
    refine gi_putR (sl := 7) (lay' := LY33) dci_X5_init_63 (by decide +kernel) (by decide) rfl (by decide) (by decide +kernel) (Or.inr ⟨by decide +kernel, rfl⟩) (by rfl) ?_
    refine gi_ops oki_X5_init_66_2 (L' := [some (.inr 10)]) (st' := [.inl 60, .inr 10]) (σ1 := s15) (by rfl) ?_
    obtain ⟨s17, e18, h⟩ := bnd_inv h
    refine gi_newI (lay' := LY34) dci_X5_init_69 (by decide) (by decide +kernel) (by rfl) e18 ?_
    refine gi_putR (sl := 8) (lay' := LY35) dci_X5_init_71 (by decide +kernel) (by decide) rfl (by decide) (by decide +kernel) (Or.inr ⟨by decide +kernel, rfl⟩) (by rfl) ?_
    refine gi_ops oki_X5_init_74_2 (L' := [some (.inr 10)]) (st' := [.inl 60, .inr 10]) (σ1 := s17) (by rfl) ?_
    obtain ⟨s19, e20, h⟩ := bnd_inv h
    refine gi_newI (lay' := LY36) dci_X5_init_77 (by decide) (by decide +kernel) (by rfl) e20 ?_
    refine gi_putR (sl := 9) (lay' := LY37) dci_X5_init_79 (by decide +kernel) (by decide) rfl (by decide) (by decide +kernel) (Or.inr ⟨by decide +kernel, rfl⟩) (by rfl) ?_
    refine gi_ops oki_X5_init_82_2 (L' := [some (.inr 10)]) (st' := [.inl 60, .inr 10]) (σ1 := s19) (by rfl) ?_
    obtain ⟨s21, e22, h⟩ := bnd_inv h
    refine gi_newI (lay' := LY38) dci_X5_init_85 (by decide) (by decide +kernel) (by rfl) e22 ?_
    refine gi_putR (sl := 10) (lay' := LY39) dci_X5_init_87 (by decide +kernel) (by decide) rfl (by decide) (by decide +kernel) (Or.inr ⟨by decide +kernel, rfl⟩) (by rfl) ?_
    refine gi_ops oki_X5_init_90_2 (L' := [some (.inr 10)]) (st' := [.inl 60, .inr 10]) (σ1 := s21) (by rfl) ?_
    obtain ⟨s23, e24, h⟩ := bnd_inv h
    refine gi_newI (lay' := LY40) dci_X5_init_93 (by decide) (by decide +kernel) (by rfl) e24 ?_
    refine gi_putR (sl := 11) (lay' := LY41) dci_X5_init_95 (by decide +kernel) (by decide) rfl (by decide) (by decide +kernel) (Or.inr ⟨by decide +kernel, rfl⟩) (by rfl) ?_
    subst h
    exact gi_vret dci_X5_init_98 rfl
  exact gi_ct (as := [.inr 10]) mk_X5_init (by rfl) (Nat.le_of_ble_eq_true rfl) key
def LY42 : List Lay := [(10, [3, 7, 12, 1, 1, 1, 1, 1, 1, 1]), (2, [4, 5, 6]), (12, [4]), (12, [16]), (12, [48]), (8, [0, 8, 9, 10, 11]), (12, [50]), (12, [50]), (12, [50]), (12, [150]), (5, [0, 13, 14, 15, 16, 17, 18, 19, 20, 21, 22, 23]), (12, [60]), (12, [60]), (12, [60]), (12, [60]), (12, [180]), (12, [60]), (12, [60]), (12, [60]), (12, [60]), (12, [60]), (12, [60])]
def LY43 : List Lay := [(10, [3, 7, 12, 1, 1, 1, 1, 1, 1, 1]), (2, [4, 5, 6]), (12, [4]), (12, [16]), (12, [48]), (8, [0, 8, 9, 10, 11]), (12, [50]), (12, [50]), (12, [50]), (12, [150]), (5, [0, 13, 14, 15, 16, 17, 18, 19, 20, 21, 22, 23]), (12, [60]), (12, [60]), (12, [60]), (12, [60]), (12, [180]), (12, [60]), (12, [60]), (12, [60]), (12, [60]), (12, [60]), (12, [60]), (9, [1])]
def LY44 : List Lay := [(10, [3, 7, 12, 1, 1, 1, 1, 1, 1, 1]), (2, [4, 5, 6]), (12, [4]), (12, [16]), (12, [48]), (8, [0, 8, 9, 10, 11]), (12, [50]), (12, [50]), (12, [50]), (12, [150]), (5, [0, 13, 14, 15, 16, 17, 18, 19, 20, 21, 22, 23]), (12, [60]), (12, [60]), (12, [60]), (12, [60]), (12, [180]), (12, [60]), (12, [60]), (12, [60]), (12, [60]), (12, [60]), (12, [60]), (9, [1]), (12, [12])]
def LY45 : List Lay := [(10, [3, 7, 12, 1, 1, 1, 1, 1, 1, 1]), (2, [4, 5, 6]), (12, [4]), (12, [16]), (12, [48]), (8, [0, 8, 9, 10, 11]), (12, [50]), (12, [50]), (12, [50]), (12, [150]), (5, [0, 13, 14, 15, 16, 17, 18, 19, 20, 21, 22, 23]), (12, [60]), (12, [60]), (12, [60]), (12, [60]), (12, [180]), (12, [60]), (12, [60]), (12, [60]), (12, [60]), (12, [60]), (12, [60]), (9, [25]), (12, [12])]
def I_X9_init_0 (σ : Sg) : Sg :=
bnd (fresh σ 23) fun s1 =>
bnd (wrD s1 23 12 0 1) fun s3 =>
bnd (wrD s3 23 12 3 10) fun s5 =>
bnd (wrD s5 23 12 4 1) fun s7 =>
bnd (wrD s7 23 12 7 10) fun s9 =>
bnd (wrD s9 23 12 8 1) fun s11 =>
bnd (wrD s11 23 12 11 10) fun s13 =>
s13
theorem ci_X9_init_0 (l : Launch) (d : Nat) (hd : 1 ≤ d) (σ q : Sg) (h : I_X9_init_0 σ = q) : CT l d m_X9_init.2.1 m_X9_init.2.2.1 m_X9_init.2.2.2.1 m_X9_init.2.2.2.2 [.inr 22] (LY43, σ) none (LY45, q) := by
  obtain ⟨d, rfl⟩ : ∃ e, d = e + 1 := ⟨d - 1, by omega⟩
  have key : Gi l m_X9_init (d + 1) LY43 LY45 q 0 [some (.inr 22), none] [] LY43 σ := by
    unfold I_X9_init_0 at h
    refine gi_ops oki_X9_init_0_1 (L' := [some (.inr 22), none]) (st' := [.inr 22]) (σ1 := σ) (by rfl) ?_
    refine gi_obj dci_X9_init_1 (by decide +kernel) (Nat.le_of_ble_eq_true rfl) (by omega) ?_
    refine gi_ops oki_X9_init_4_2 (L' := [some (.inr 22), none]) (st' := [.inl 12, .inr 22]) (σ1 := σ) (by rfl) ?_
    obtain ⟨s1, e2, h⟩ := bnd_inv h
    refine gi_newI (lay' := LY44) dci_X9_init_7 (by decide) (by decide +kernel) (by rfl) e2 ?_
    refine gi_putR (sl := 0) (lay' := LY45) dci_X9_init_9 (by decide +kernel) (by decide) rfl (by decide) (by decide +kernel) (Or.inr ⟨by decide +kernel, rfl⟩) (by rfl) ?_
    refine gi_ops oki_X9_init_12_4 (L' := [some (.inr 22), some (.inl 0)]) (st' := [.inl 3, .inl 0]) (σ1 := s1) (by rfl) ?_
    refine gi_icmp_ge dci_X9_init_16 (by rfl) (fun hc => absurd hc (by decide)) (fun _ => ?_)
    refine gi_ops oki_X9_init_19_8 (L' := [some (.inr 22), some (.inl 0)]) (st' := [.inl 1, .inl 0, .inr 23]) (σ1 := s1) (by rfl) ?_
    obtain ⟨s3, e4, h⟩ := bnd_inv h
    refine gi_SN (M1 := m_X10_put) (as := [.inr 23, .inl 0, .inl 1]) (st := []) (lay1 := LY45) (σ1 := s3) dci_X9_init_29 ln_9_15 sm_X10_put mk_X10_put rfl rfl (Nat.le_of_ble_eq_true rfl) (Nat.le_refl _) (by decide +kernel) (by decide +kernel) (lk_X10_put l d LY45 23 12 rfl _ _ s3 e4) _ rfl ?_
    refine gi_ops oki_X9_init_32_8 (L' := [some (.inr 22), some (.inl 0)]) (st' := [.inl 10, .inl 3, .inr 23]) (σ1 := s3) (by rfl) ?_
    obtain ⟨s5, e6, h⟩ := bnd_inv h
    refine gi_SN (M1 := m_X10_put) (as := [.inr 23, .inl 3, .inl 10]) (st := []) (lay1 := LY45) (σ1 := s5) dci_X9_init_43 ln_9_15 sm_X10_put mk_X10_put rfl rfl (Nat.le_of_ble_eq_true rfl) (Nat.le_refl _) (by decide +kernel) (by decide +kernel) (lk_X10_put l d LY45 23 12 rfl _ _ s5 e6) _ rfl ?_
    refine gi_ops oki_X9_init_46_1 (L' := [some (.inr 22), some (.inl 1)]) (st' := []) (σ1 := s5) (by rfl) ?_
    refine gi_goto dci_X9_init_49 (by rfl) ?_
    refine gi_ops oki_X9_init_14_2 (L' := [some (.inr 22), some (.inl 1)]) (st' := [.inl 3, .inl 1]) (σ1 := s5) (by rfl) ?_
    refine gi_icmp_ge dci_X9_init_16 (by rfl) (fun hc => absurd hc (by decide)) (fun _ => ?_)
    refine gi_ops oki_X9_init_19_8 (L' := [some (.inr 22), some (.inl 1)]) (st' := [.inl 1, .inl 4, .inr 23]) (σ1 := s5) (by rfl) ?_
    obtain ⟨s7, e8, h⟩ := bnd_inv h
    refine gi_SN (M1 := m_X10_put) (as := [.inr 23, .inl 4, .inl 1]) (st := []) (lay1 := LY45) (σ1 := s7) dci_X9_init_29 ln_9_15 sm_X10_put mk_X10_put rfl rfl (Nat.le_of_ble_eq_true rfl) (Nat.le_refl _) (by decide +kernel) (by decide +kernel) (lk_X10_put l d LY45 23 12 rfl _ _ s7 e8) _ rfl ?_
    refine gi_ops oki_X9_init_32_8 (L' := [some (.inr 22), some (.inl 1)]) (st' := [.inl 10, .inl 7, .inr 23]) (σ1 := s7) (by rfl) ?_
    obtain ⟨s9, e10, h⟩ := bnd_inv h
    refine gi_SN (M1 := m_X10_put) (as := [.inr 23, .inl 7, .inl 10]) (st := []) (lay1 := LY45) (σ1 := s9) dci_X9_init_43 ln_9_15 sm_X10_put mk_X10_put rfl rfl (Nat.le_of_ble_eq_true rfl) (Nat.le_refl _) (by decide +kernel) (by decide +kernel) (lk_X10_put l d LY45 23 12 rfl _ _ s9 e10) _ rfl ?_
    refine gi_ops oki_X9_init_46_1 (L' := [some (.inr 22), some (.inl 2)]) (st' := []) (σ1 := s9) (by rfl) ?_
    refine gi_goto dci_X9_init_49 (by rfl) ?_
    refine gi_ops oki_X9_init_14_2 (L' := [some (.inr 22), some (.inl 2)]) (st' := [.inl 3, .inl 2]) (σ1 := s9) (by rfl) ?_
    refine gi_icmp_ge dci_X9_init_16 (by rfl) (fun hc => absurd hc (by decide)) (fun _ => ?_)
    refine gi_ops oki_X9_init_19_8 (L' := [some (.inr 22), some (.inl 2)]) (st' := [.inl 1, .inl 8, .inr 23]) (σ1 := s9) (by rfl) ?_
    obtain ⟨s11, e12, h⟩ := bnd_inv h
    refine gi_SN (M1 := m_X10_put) (as := [.inr 23, .inl 8, .inl 1]) (st := []) (lay1 := LY45) (σ1 := s11) dci_X9_init_29 ln_9_15 sm_X10_put mk_X10_put rfl rfl (Nat.le_of_ble_eq_true rfl) (Nat.le_refl _) (by decide +kernel) (by decide +kernel) (lk_X10_put l d LY45 23 12 rfl _ _ s11 e12) _ rfl ?_
    refine gi_ops oki_X9_init_32_8 (L' := [some (.inr 22), some (.inl 2)]) (st' := [.inl 10, .inl 11, .inr 23]) (σ1 := s11) (by rfl) ?_
    obtain ⟨s13, e14, h⟩ := bnd_inv h
    refine gi_SN (M1 := m_X10_put) (as := [.inr 23, .inl 11, .inl 10]) (st := []) (lay1 := LY45) (σ1 := s13) dci_X9_init_43 ln_9_15 sm_X10_put mk_X10_put rfl rfl (Nat.le_of_ble_eq_true rfl) (Nat.le_refl _) (by decide +kernel) (by decide +kernel) (lk_X10_put l d LY45 23 12 rfl _ _ s13 e14) _ rfl ?_
    refine gi_ops oki_X9_init_46_1 (L' := [some (.inr 22), some (.inl 3)]) (st' := []) (σ1 := s13) (by rfl) ?_
    refine gi_goto dci_X9_init_49 (by rfl) ?_
    refine gi_ops oki_X9_init_14_2 (L' := [some (.inr 22), some (.inl 3)]) (st' := [.inl 3, .inl 3]) (σ1 := s13) (by rfl) ?_
    refine gi_icmp_ge dci_X9_init_16 (by rfl) (fun _ => ?_) (fun hc => absurd (by decide) hc)
    subst h
    exact gi_vret dci_X9_init_52 rfl
  exact gi_ct (as := [.inr 22]) mk_X9_init (by rfl) (Nat.le_of_ble_eq_true rfl) key
def LY46 : List Lay := [(10, [3, 7, 12, 24, 1, 1, 1, 1, 1, 1]), (2, [4, 5, 6]), (12, [4]), (12, [16]), (12, [48]), (8, [0, 8, 9, 10, 11]), (12, [50]), (12, [50]), (12, [50]), (12, [150]), (5, [0, 13, 14, 15, 16, 17, 18, 19, 20, 21, 22, 23]), (12, [60]), (12, [60]), (12, [60]), (12, [60]), (12, [180]), (12, [60]), (12, [60]), (12, [60]), (12, [60]), (12, [60]), (12, [60]), (9, [25]), (12, [12])]
def LY47 : List Lay := [(10, [3, 7, 12, 24, 1, 1, 1, 1, 1, 1]), (2, [4, 5, 6]), (12, [4]), (12, [16]), (12, [48]), (8, [0, 8, 9, 10, 11]), (12, [50]), (12, [50]), (12, [50]), (12, [150]), (5, [0, 13, 14, 15, 16, 17, 18, 19, 20, 21, 22, 23]), (12, [60]), (12, [60]), (12, [60]), (12, [60]), (12, [180]), (12, [60]), (12, [60]), (12, [60]), (12, [60]), (12, [60]), (12, [60]), (9, [25]), (12, [12]), (4, [0, 0, 1, 1])]
def LY48 : List Lay := [(10, [3, 7, 12, 24, 1, 1, 1, 1, 1, 1]), (2, [4, 5, 6]), (12, [4]), (12, [16]), (12, [48]), (8, [0, 8, 9, 10, 11]), (12, [50]), (12, [50]), (12, [50]), (12, [150]), (5, [0, 13, 14, 15, 16, 17, 18, 19, 20, 21, 22, 23]), (12, [60]), (12, [60]), (12, [60]), (12, [60]), (12, [180]), (12, [60]), (12, [60]), (12, [60]), (12, [60]), (12, [60]), (12, [60]), (9, [25]), (12, [12]), (4, [0, 0, 1, 1]), (12, [3])]
def LY49 : List Lay := [(10, [3, 7, 12, 24, 1, 1, 1, 1, 1, 1]), (2, [4, 5, 6]), (12, [4]), (12, [16]), (12, [48]), (8, [0, 8, 9, 10, 11]), (12, [50]), (12, [50]), (12, [50]), (12, [150]), (5, [0, 13, 14, 15, 16, 17, 18, 19, 20, 21, 22, 23]), (12, [60]), (12, [60]), (12, [60]), (12, [60]), (12, [180]), (12, [60]), (12, [60]), (12, [60]), (12, [60]), (12, [60]), (12, [60]), (9, [25]), (12, [12]), (4, [0, 0, 27, 1]), (12, [3])]
def LY50 : List Lay := [(10, [3, 7, 12, 24, 1, 1, 1, 1, 1, 1]), (2, [4, 5, 6]), (12, [4]), (12, [16]), (12, [48]), (8, [0, 8, 9, 10, 11]), (12, [50]), (12, [50]), (12, [50]), (12, [150]), (5, [0, 13, 14, 15, 16, 17, 18, 19, 20, 21, 22, 23]), (12, [60]), (12, [60]), (12, [60]), (12, [60]), (12, [180]), (12, [60]), (12, [60]), (12, [60]), (12, [60]), (12, [60]), (12, [60]), (9, [25]), (12, [12]), (4, [0, 0, 27, 1]), (12, [3]), (12, [64])]
def LY51 : List Lay := [(10, [3, 7, 12, 24, 1, 1, 1, 1, 1, 1]), (2, [4, 5, 6]), (12, [4]), (12, [16]), (12, [48]), (8, [0, 8, 9, 10, 11]), (12, [50]), (12, [50]), (12, [50]), (12, [150]), (5, [0, 13, 14, 15, 16, 17, 18, 19, 20, 21, 22, 23]), (12, [60]), (12, [60]), (12, [60]), (12, [60]), (12, [180]), (12, [60]), (12, [60]), (12, [60]), (12, [60]), (12, [60]), (12, [60]), (9, [25]), (12, [12]), (4, [0, 0, 27, 28]), (12, [3]), (12, [64])]
def I_X4_init_0 (σ : Sg) : Sg :=
bnd (up2 σ 24 0 0) fun s1 =>
bnd (up2 s1 24 1 0) fun s3 =>
bnd (fresh s3 25) fun s5 =>
bnd (fresh s5 26) fun s7 =>
s7
theorem ci_X4_init_0 (l : Launch) (d : Nat) (hd : 1 ≤ d) (σ q : Sg) (h : I_X4_init_0 σ = q) : CT l d m_X4_init.2.1 m_X4_init.2.2.1 m_X4_init.2.2.2.1 m_X4_init.2.2.2.2 [.inr 24] (LY47, σ) none (LY51, q) := by
  obtain ⟨d, rfl⟩ : ∃ e, d = e + 1 := ⟨d - 1, by omega⟩
  have key : Gi l m_X4_init (d + 1) LY47 LY51 q 0 [some (.inr 24)] [] LY47 σ := by
    unfold I_X4_init_0 at h
    refine gi_ops oki_X4_init_0_1 (L' := [some (.inr 24)]) (st' := [.inr 24]) (σ1 := σ) (by rfl) ?_
    refine gi_obj dci_X4_init_1 (by decide +kernel) (Nat.le_of_ble_eq_true rfl) (by omega) ?_
    refine gi_ops oki_X4_init_4_2 (L' := [some (.inr 24)]) (st' := [.inl 0, .inr 24]) (σ1 := σ) (by rfl) ?_
    obtain ⟨s1, e2, h⟩ := bnd_inv h
    refine gi_putI dci_X4_init_6 (by decide +kernel) (by decide) rfl rfl (Or.inl (by decide +kernel)) (Or.inr ⟨by decide +kernel, rfl⟩) e2 ?_
    refine gi_ops oki_X4_init_9_2 (L' := [some (.inr 24)]) (st' := [.inl 0, .inr 24]) (σ1 := s1) (by rfl) ?_
    obtain ⟨s3, e4, h⟩ := bnd_inv h
    refine gi_putI dci_X4_init_11 (by decide +kernel) (by decide) rfl rfl (Or.inl (by decide +kernel)) (Or.inr ⟨by decide +kernel, rfl⟩) e4 ?_
    refine gi_ops oki_X4_init_14_2 (L' := [some (.inr 24)]) (st' := [.inl 3, .inr 24]) (σ1 := s3) (by rfl) ?_
    obtain ⟨s5, e6, h⟩ := bnd_inv h
    refine gi_newI (lay' := LY48) dci_X4_init_16 (by decide) (by decide +kernel) (by rfl) e6 ?_
    refine gi_putR (sl := 2) (lay' := LY49) dci_X4_init_18 (by decide +kernel) (by decide) rfl (by decide) (by decide +kernel) (Or.inr ⟨by decide +kernel, rfl⟩) (by rfl) ?_
    refine gi_ops oki_X4_init_21_2 (L' := [some (.inr 24)]) (st' := [.inl 64, .inr 24]) (σ1 := s5) (by rfl) ?_
    obtain ⟨s7, e8, h⟩ := bnd_inv h
    refine gi_newI (lay' := LY50) dci_X4_init_24 (by decide) (by decide +kernel) (by rfl) e8 ?_
    refine gi_putR (sl := 3) (lay' := LY51) dci_X4_init_26 (by decide +kernel) (by decide) rfl (by decide) (by decide +kernel) (Or.inr ⟨by decide +kernel, rfl⟩) (by rfl) ?_
    subst h
    exact gi_vret dci_X4_init_29 rfl
  exact gi_ct (as := [.inr 24]) mk_X4_init (by rfl) (Nat.le_of_ble_eq_true rfl) key
def LY52 : List Lay := [(10, [3, 7, 12, 24, 26, 1, 1, 1, 1, 1]), (2, [4, 5, 6]), (12, [4]), (12, [16]), (12, [48]), (8, [0, 8, 9, 10, 11]), (12, [50]), (12, [50]), (12, [50]), (12, [150]), (5, [0, 13, 14, 15, 16, 17, 18, 19, 20, 21, 22, 23]), (12, [60]), (12, [60]), (12, [60]), (12, [60]), (12, [180]), (12, [60]), (12, [60]), (12, [60]), (12, [60]), (12, [60]), (12, [60]), (9, [25]), (12, [12]), (4, [0, 0, 27, 28]), (12, [3]), (12, [64])]
def LY53 : List Lay := [(10, [3, 7, 12, 24, 26, 1, 1, 1, 1, 1]), (2, [4, 5, 6]), (12, [4]), (12, [16]), (12, [48]), (8, [0, 8, 9, 10, 11]), (12, [50]), (12, [50]), (12, [50]), (12, [150]), (5, [0, 13, 14, 15, 16, 17, 18, 19, 20, 21, 22, 23]), (12, [60]), (12, [60]), (12, [60]), (12, [60]), (12, [180]), (12, [60]), (12, [60]), (12, [60]), (12, [60]), (12, [60]), (12, [60]), (9, [25]), (12, [12]), (4, [0, 0, 27, 28]), (12, [3]), (12, [64]), (1, [1, 1, 1, 0, 0, 1, 1, 1, 1])]
def LY54 : List Lay := [(10, [3, 7, 12, 24, 26, 1, 1, 1, 1, 1]), (2, [4, 5, 6]), (12, [4]), (12, [16]), (12, [48]), (8, [0, 8, 9, 10, 11]), (12, [50]), (12, [50]), (12, [50]), (12, [150]), (5, [0, 13, 14, 15, 16, 17, 18, 19, 20, 21, 22, 23]), (12, [60]), (12, [60]), (12, [60]), (12, [60]), (12, [180]), (12, [60]), (12, [60]), (12, [60]), (12, [60]), (12, [60]), (12, [60]), (9, [25]), (12, [12]), (4, [0, 0, 27, 28]), (12, [3]), (12, [64]), (1, [1, 1, 1, 0, 0, 1, 1, 1, 1]), (12, [469])]
def LY55 : List Lay := [(10, [3, 7, 12, 24, 26, 1, 1, 1, 1, 1]), (2, [4, 5, 6]), (12, [4]), (12, [16]), (12, [48]), (8, [0, 8, 9, 10, 11]), (12, [50]), (12, [50]), (12, [50]), (12, [150]), (5, [0, 13, 14, 15, 16, 17, 18, 19, 20, 21, 22, 23]), (12, [60]), (12, [60]), (12, [60]), (12, [60]), (12, [180]), (12, [60]), (12, [60]), (12, [60]), (12, [60]), (12, [60]), (12, [60]), (9, [25]), (12, [12]), (4, [0, 0, 27, 28]), (12, [3]), (12, [64]), (1, [1, 1, 1, 0, 0, 30, 1, 1, 1]), (12, [469])]
def LY56 : List Lay := [(10, [3, 7, 12, 24, 26, 1, 1, 1, 1, 1]), (2, [4, 5, 6]), (12, [4]), (12, [16]), (12, [48]), (8, [0, 8, 9, 10, 11]), (12, [50]), (12, [50]), (12, [50]), (12, [150]), (5, [0, 13, 14, 15, 16, 17, 18, 19, 20, 21, 22, 23]), (12, [60]), (12, [60]), (12, [60]), (12, [60]), (12, [180]), (12, [60]), (12, [60]), (12, [60]), (12, [60]), (12, [60]), (12, [60]), (9, [25]), (12, [12]), (4, [0, 0, 27, 28]), (12, [3]), (12, [64]), (1, [1, 1, 1, 0, 0, 30, 1, 1, 1]), (12, [469]), (12, [469])]
def LY57 : List Lay := [(10, [3, 7, 12, 24, 26, 1, 1, 1, 1, 1]), (2, [4, 5, 6]), (12, [4]), (12, [16]), (12, [48]), (8, [0, 8, 9, 10, 11]), (12, [50]), (12, [50]), (12, [50]), (12, [150]), (5, [0, 13, 14, 15, 16, 17, 18, 19, 20, 21, 22, 23]), (12, [60]), (12, [60]), (12, [60]), (12, [60]), (12, [180]), (12, [60]), (12, [60]), (12, [60]), (12, [60]), (12, [60]), (12, [60]), (9, [25]), (12, [12]), (4, [0, 0, 27, 28]), (12, [3]), (12, [64]), (1, [1, 1, 1, 0, 0, 30, 31, 1, 1]), (12, [469]), (12, [469])]
def LY58 : List Lay := [(10, [3, 7, 12, 24, 26, 1, 1, 1, 1, 1]), (2, [4, 5, 6]), (12, [4]), (12, [16]), (12, [48]), (8, [0, 8, 9, 10, 11]), (12, [50]), (12, [50]), (12, [50]), (12, [150]), (5, [0, 13, 14, 15, 16, 17, 18, 19, 20, 21, 22, 23]), (12, [60]), (12, [60]), (12, [60]), (12, [60]), (12, [180]), (12, [60]), (12, [60]), (12, [60]), (12, [60]), (12, [60]), (12, [60]), (9, [25]), (12, [12]), (4, [0, 0, 27, 28]), (12, [3]), (12, [64]), (1, [1, 1, 1, 0, 0, 30, 31, 1, 1]), (12, [469]), (12, [469]), (12, [360])]
def LY59 : List Lay := [(10, [3, 7, 12, 24, 26, 1, 1, 1, 1, 1]), (2, [4, 5, 6]), (12, [4]), (12, [16]), (12, [48]), (8, [0, 8, 9, 10, 11]), (12, [50]), (12, [50]), (12, [50]), (12, [150]), (5, [0, 13, 14, 15, 16, 17, 18, 19, 20, 21, 22, 23]), (12, [60]), (12, [60]), (12, [60]), (12, [60]), (12, [180]), (12, [60]), (12, [60]), (12, [60]), (12, [60]), (12, [60]), (12, [60]), (9, [25]), (12, [12]), (4, [0, 0, 27, 28]), (12, [3]), (12, [64]), (1, [1, 1, 1, 0, 0, 30, 31, 32, 1]), (12, [469]), (12, [469]), (12, [360])]
def LY60 : List Lay := [(10, [3, 7, 12, 24, 26, 1, 1, 1, 1, 1]), (2, [4, 5, 6]), (12, [4]), (12, [16]), (12, [48]), (8, [0, 8, 9, 10, 11]), (12, [50]), (12, [50]), (12, [50]), (12, [150]), (5, [0, 13, 14, 15, 16, 17, 18, 19, 20, 21, 22, 23]), (12, [60]), (12, [60]), (12, [60]), (12, [60]), (12, [180]), (12, [60]), (12, [60]), (12, [60]), (12, [60]), (12, [60]), (12, [60]), (9, [25]), (12, [12]), (4, [0, 0, 27, 28]), (12, [3]), (12, [64]), (1, [1, 1, 1, 0, 0, 30, 31, 32, 1]), (12, [469]), (12, [469]), (12, [360]), (12, [6])]
def LY61 : List Lay := [(10, [3, 7, 12, 24, 26, 1, 1, 1, 1, 1]), (2, [4, 5, 6]), (12, [4]), (12, [16]), (12, [48]), (8, [0, 8, 9, 10, 11]), (12, [50]), (12, [50]), (12, [50]), (12, [150]), (5, [0, 13, 14, 15, 16, 17, 18, 19, 20, 21, 22, 23]), (12, [60]), (12, [60]), (12, [60]), (12, [60]), (12, [180]), (12, [60]), (12, [60]), (12, [60]), (12, [60]), (12, [60]), (12, [60]), (9, [25]), (12, [12]), (4, [0, 0, 27, 28]), (12, [3]), (12, [64]), (1, [1, 1, 1, 0, 0, 30, 31, 32, 33]), (12, [469]), (12, [469]), (12, [360]), (12, [6])]
def LY62 : List Lay := [(10, [3, 7, 12, 24, 26, 1, 1, 1, 1, 1]), (2, [4, 5, 6]), (12, [4]), (12, [16]), (12, [48]), (8, [0, 8, 9, 10, 11]), (12, [50]), (12, [50]), (12, [50]), (12, [150]), (5, [0, 13, 14, 15, 16, 17, 18, 19, 20, 21, 22, 23]), (12, [60]), (12, [60]), (12, [60]), (12, [60]), (12, [180]), (12, [60]), (12, [60]), (12, [60]), (12, [60]), (12, [60]), (12, [60]), (9, [25]), (12, [12]), (4, [0, 0, 27, 28]), (12, [3]), (12, [64]), (1, [7, 1, 1, 0, 0, 30, 31, 32, 33]), (12, [469]), (12, [469]), (12, [360]), (12, [6])]
def LY63 : List Lay := [(10, [3, 7, 12, 24, 26, 1, 1, 1, 1, 1]), (2, [4, 5, 6]), (12, [4]), (12, [16]), (12, [48]), (8, [0, 8, 9, 10, 11]), (12, [50]), (12, [50]), (12, [50]), (12, [150]), (5, [0, 13, 14, 15, 16, 17, 18, 19, 20, 21, 22, 23]), (12, [60]), (12, [60]), (12, [60]), (12, [60]), (12, [180]), (12, [60]), (12, [60]), (12, [60]), (12, [60]), (12, [60]), (12, [60]), (9, [25]), (12, [12]), (4, [0, 0, 27, 28]), (12, [3]), (12, [64]), (1, [7, 24, 1, 0, 0, 30, 31, 32, 33]), (12, [469]), (12, [469]), (12, [360]), (12, [6])]
def LY64 : List Lay := [(10, [3, 7, 12, 24, 26, 1, 1, 1, 1, 1]), (2, [4, 5, 6]), (12, [4]), (12, [16]), (12, [48]), (8, [0, 8, 9, 10, 11]), (12, [50]), (12, [50]), (12, [50]), (12, [150]), (5, [0, 13, 14, 15, 16, 17, 18, 19, 20, 21, 22, 23]), (12, [60]), (12, [60]), (12, [60]), (12, [60]), (12, [180]), (12, [60]), (12, [60]), (12, [60]), (12, [60]), (12, [60]), (12, [60]), (9, [25]), (12, [12]), (4, [0, 0, 27, 28]), (12, [3]), (12, [64]), (1, [7, 24, 26, 0, 0, 30, 31, 32, 33]), (12, [469]), (12, [469]), (12, [360]), (12, [6])]
def I_X1_init_0 (σ : Sg) : Sg :=
bnd (up2 σ 27 3 0) fun s1 =>
bnd (up2 s1 27 4 0) fun s3 =>
bnd (fresh s3 28) fun s5 =>
bnd (fresh s5 29) fun s7 =>
bnd (fresh s7 30) fun s9 =>
bnd (fresh s9 31) fun s11 =>
bnd (fillF s11 31 6 (-1)) fun s13 =>
s13
theorem ci_X1_init_0 (l : Launch) (d : Nat) (hd : 1 ≤ d) (σ q : Sg) (h : I_X1_init_0 σ = q) : CT l d m_X1_init.2.1 m_X1_init.2.2.1 m_X1_init.2.2.2.1 m_X1_init.2.2.2.2 [.inr 27, .inr 5, .inr 22, .inr 24] (LY53, σ) none (LY64, q) := by
  obtain ⟨d, rfl⟩ : ∃ e, d = e + 1 := ⟨d - 1, by omega⟩
  have key : Gi l m_X1_init (d + 1) LY53 LY64 q 0 [some (.inr 27), some (.inr 5), some (.inr 22), some (.inr 24)] [] LY53 σ := by
    unfold I_X1_init_0 at h
    refine gi_ops oki_X1_init_0_1 (L' := [some (.inr 27), some (.inr 5), some (.inr 22), some (.inr 24)]) (st' := [.inr 27]) (σ1 := σ) (by rfl) ?_
    refine gi_obj dci_X1_init_1 (by decide +kernel) (Nat.le_of_ble_eq_true rfl) (by omega) ?_
    refine gi_ops oki_X1_init_4_2 (L' := [some (.inr 27), some (.inr 5), some (.inr 22), some (.inr 24)]) (st' := [.inl 0, .inr 27]) (σ1 := σ) (by rfl) ?_
    obtain ⟨s1, e2, h⟩ := bnd_inv h
    refine gi_putI dci_X1_init_6 (by decide +kernel) (by decide) rfl rfl (Or.inl (by decide +kernel)) (Or.inr ⟨by decide +kernel, rfl⟩) e2 ?_
    refine gi_ops oki_X1_init_9_2 (L' := [some (.inr 27), some (.inr 5), some (.inr 22), some (.inr 24)]) (st' := [.inl 0, .inr 27]) (σ1 := s1) (by rfl) ?_
    obtain ⟨s3, e4, h⟩ := bnd_inv h
    refine gi_putI dci_X1_init_11 (by decide +kernel) (by decide) rfl rfl (Or.inl (by decide +kernel)) (Or.inr ⟨by decide +kernel, rfl⟩) e4 ?_
    refine gi_ops oki_X1_init_14_2 (L' := [some (.inr 27), some (.inr 5), some (.inr 22), some (.inr 24)]) (st' := [.inl 469, .inr 27]) (σ1 := s3) (by rfl) ?_
    obtain ⟨s5, e6, h⟩ := bnd_inv h
    refine gi_newI (lay' := LY54) dci_X1_init_18 (by decide) (by decide +kernel) (by rfl) e6 ?_
    refine gi_putR (sl := 5) (lay' := LY55) dci_X1_init_20 (by decide +kernel) (by decide) rfl (by decide) (by decide +kernel) (Or.inr ⟨by decide +kernel, rfl⟩) (by rfl) ?_
    refine gi_ops oki_X1_init_23_2 (L' := [some (.inr 27), some (.inr 5), some (.inr 22), some (.inr 24)]) (st' := [.inl 469, .inr 27]) (σ1 := s5) (by rfl) ?_
    obtain ⟨s7, e8, h⟩ := bnd_inv h
    refine gi_newI (lay' := LY56) dci_X1_init_27 (by decide) (by decide +kernel) (by rfl) e8 ?_
    refine gi_putR (sl := 6) (lay' := LY57) dci_X1_init_29 (by decide +kernel) (by decide) rfl (by decide) (by decide +kernel) (Or.inr ⟨by decide +kernel, rfl⟩) (by rfl) ?_
    refine gi_ops oki_X1_init_32_2 (L' := [some (.inr 27), some (.inr 5), some (.inr 22), some (.inr 24)]) (st' := [.inl 360, .inr 27]) (σ1 := s7) (by rfl) ?_
    obtain ⟨s9, e10, h⟩ := bnd_inv h
    refine gi_newI (lay' := LY58) dci_X1_init_36 (by decide) (by decide +kernel) (by rfl) e10 ?_
    refine gi_putR (sl := 7) (lay' := LY59) dci_X1_init_38 (by decide +kernel) (by decide) rfl (by decide) (by decide +kernel) (Or.inr ⟨by decide +kernel, rfl⟩) (by rfl) ?_
    refine gi_ops oki_X1_init_41_2 (L' := [some (.inr 27), some (.inr 5), some (.inr 22), some (.inr 24)]) (st' := [.inl 6, .inr 27]) (σ1 := s9) (by rfl) ?_
    obtain ⟨s11, e12, h⟩ := bnd_inv h
    refine gi_newI (lay' := LY60) dci_X1_init_44 (by decide) (by decide +kernel) (by rfl) e12 ?_
    refine gi_putR (sl := 8) (lay' := LY61) dci_X1_init_46 (by decide +kernel) (by decide) rfl (by decide) (by decide +kernel) (Or.inr ⟨by decide +kernel, rfl⟩) (by rfl) ?_
    refine gi_ops oki_X1_init_49_2 (L' := [some (.inr 27), some (.inr 5), some (.inr 22), some (.inr 24)]) (st' := [.inr 5, .inr 27]) (σ1 := s11) (by rfl) ?_
    refine gi_putR (sl := 0) (lay' := LY62) dci_X1_init_51 (by decide +kernel) (by decide) rfl (by decide) (by decide +kernel) (Or.inr ⟨by decide +kernel, rfl⟩) (by rfl) ?_
    refine gi_ops oki_X1_init_54_2 (L' := [some (.inr 27), some (.inr 5), some (.inr 22), some (.inr 24)]) (st' := [.inr 22, .inr 27]) (σ1 := s11) (by rfl) ?_
    refine gi_putR (sl := 1) (lay' := LY63) dci_X1_init_56 (by decide +kernel) (by decide) rfl (by decide) (by decide +kernel) (Or.inr ⟨by decide +kernel, rfl⟩) (by rfl) ?_
    refine gi_ops oki_X1_init_59_2 (L' := [some (.inr 27), some (.inr 5), some (.inr 22), some (.inr 24)]) (st' := [.inr 24, .inr 27]) (σ1 := s11) (by rfl) ?_
    refine gi_putR (sl := 2) (lay' := LY64) dci_X1_init_61 (by decide +kernel) (by decide) rfl (by decide) (by decide +kernel) (Or.inr ⟨by decide +kernel, rfl⟩) (by rfl) ?_
    refine gi_ops oki_X1_init_64_3 (L' := [some (.inr 27), some (.inr 5), some (.inr 22), some (.inr 24)]) (st' := [.inl (-1), .inr 31]) (σ1 := s11) (by rfl) ?_
    obtain ⟨s13, e14, h⟩ := bnd_inv h
    refine gi_S (M1 := m_J7_fill_53178) (as := [.inr 31, .inl (-1)]) (st := []) (lay1 := LY64) (σ1 := s13) dci_X1_init_69 ln_1_43 sm_J7_fill_53178 mk_J7_fill_53178 rfl rfl (Nat.le_of_ble_eq_true rfl) (Nat.le_refl _) (by decide +kernel) (by decide +kernel) (lk_J7_fill_53178 l d LY64 31 6 rfl _ s13 e14) _ rfl ?_
    subst h
    exact gi_vret dci_X1_init_72 rfl
  exact gi_ct (as := [.inr 27, .inr 5, .inr 22, .inr 24]) mk_X1_init (by rfl) (Nat.le_of_ble_eq_true rfl) key
def LY65 : List Lay := [(10, [3, 7, 12, 24, 26, 29, 1, 1, 1, 1]), (2, [4, 5, 6]), (12, [4]), (12, [16]), (12, [48]), (8, [0, 8, 9, 10, 11]), (12, [50]), (12, [50]), (12, [50]), (12, [150]), (5, [0, 13, 14, 15, 16, 17, 18, 19, 20, 21, 22, 23]), (12, [60]), (12, [60]), (12, [60]), (12, [60]), (12, [180]), (12, [60]), (12, [60]), (12, [60]), (12, [60]), (12, [60]), (12, [60]), (9, [25]), (12, [12]), (4, [0, 0, 27, 28]), (12, [3]), (12, [64]), (1, [7, 24, 26, 0, 0, 30, 31, 32, 33]), (12, [469]), (12, [469]), (12, [360]), (12, [6])]
def LY66 : List Lay := [(10, [3, 7, 12, 24, 26, 29, 1, 1, 1, 1]), (2, [4, 5, 6]), (12, [4]), (12, [16]), (12, [48]), (8, [0, 8, 9, 10, 11]), (12, [50]), (12, [50]), (12, [50]), (12, [150]), (5, [0, 13, 14, 15, 16, 17, 18, 19, 20, 21, 22, 23]), (12, [60]), (12, [60]), (12, [60]), (12, [60]), (12, [180]), (12, [60]), (12, [60]), (12, [60]), (12, [60]), (12, [60]), (12, [60]), (9, [25]), (12, [12]), (4, [0, 0, 27, 28]), (12, [3]), (12, [64]), (1, [7, 24, 26, 0, 0, 30, 31, 32, 33]), (12, [469]), (12, [469]), (12, [360]), (12, [6]), (6, [1, 1, 1])]
def LY67 : List Lay := [(10, [3, 7, 12, 24, 26, 29, 1, 1, 1, 1]), (2, [4, 5, 6]), (12, [4]), (12, [16]), (12, [48]), (8, [0, 8, 9, 10, 11]), (12, [50]), (12, [50]), (12, [50]), (12, [150]), (5, [0, 13, 14, 15, 16, 17, 18, 19, 20, 21, 22, 23]), (12, [60]), (12, [60]), (12, [60]), (12, [60]), (12, [180]), (12, [60]), (12, [60]), (12, [60]), (12, [60]), (12, [60]), (12, [60]), (9, [25]), (12, [12]), (4, [0, 0, 27, 28]), (12, [3]), (12, [64]), (1, [7, 24, 26, 0, 0, 30, 31, 32, 33]), (12, [469]), (12, [469]), (12, [360]), (12, [6]), (6, [12, 1, 1])]
def LY68 : List Lay := [(10, [3, 7, 12, 24, 26, 29, 1, 1, 1, 1]), (2, [4, 5, 6]), (12, [4]), (12, [16]), (12, [48]), (8, [0, 8, 9, 10, 11]), (12, [50]), (12, [50]), (12, [50]), (12, [150]), (5, [0, 13, 14, 15, 16, 17, 18, 19, 20, 21, 22, 23]), (12, [60]), (12, [60]), (12, [60]), (12, [60]), (12, [180]), (12, [60]), (12, [60]), (12, [60]), (12, [60]), (12, [60]), (12, [60]), (9, [25]), (12, [12]), (4, [0, 0, 27, 28]), (12, [3]), (12, [64]), (1, [7, 24, 26, 0, 0, 30, 31, 32, 33]), (12, [469]), (12, [469]), (12, [360]), (12, [6]), (6, [12, 26, 1])]
def LY69 : List Lay := [(10, [3, 7, 12, 24, 26, 29, 1, 1, 1, 1]), (2, [4, 5, 6]), (12, [4]), (12, [16]), (12, [48]), (8, [0, 8, 9, 10, 11]), (12, [50]), (12, [50]), (12, [50]), (12, [150]), (5, [0, 13, 14, 15, 16, 17, 18, 19, 20, 21, 22, 23]), (12, [60]), (12, [60]), (12, [60]), (12, [60]), (12, [180]), (12, [60]), (12, [60]), (12, [60]), (12, [60]), (12, [60]), (12, [60]), (9, [25]), (12, [12]), (4, [0, 0, 27, 28]), (12, [3]), (12, [64]), (1, [7, 24, 26, 0, 0, 30, 31, 32, 33]), (12, [469]), (12, [469]), (12, [360]), (12, [6]), (6, [12, 26, 29])]
def I_X6_init_0 (σ : Sg) : Sg :=
σ
theorem ci_X6_init_0 (l : Launch) (d : Nat) (hd : 1 ≤ d) (σ q : Sg) (h : I_X6_init_0 σ = q) : CT l d m_X6_init.2.1 m_X6_init.2.2.1 m_X6_init.2.2.2.1 m_X6_init.2.2.2.2 [.inr 32, .inr 10, .inr 24, .inr 27] (LY66, σ) none (LY69, q) := by
  obtain ⟨d, rfl⟩ : ∃ e, d = e + 1 := ⟨d - 1, by omega⟩
  have key : Gi l m_X6_init (d + 1) LY66 LY69 q 0 [some (.inr 32), some (.inr 10), some (.inr 24), some (.inr 27)] [] LY66 σ := by
    unfold I_X6_init_0 at h
    refine gi_ops oki_X6_init_0_1 (L' := [some (.inr 32), some (.inr 10), some (.inr 24), some (.inr 27)]) (st' := [.inr 32]) (σ1 := σ) (by rfl) ?_
    refine gi_obj dci_X6_init_1 (by decide +kernel) (Nat.le_of_ble_eq_true rfl) (by omega) ?_
    refine gi_ops oki_X6_init_4_2 (L' := [some (.inr 32), some (.inr 10), some (.inr 24), some (.inr 27)]) (st' := [.inr 10, .inr 32]) (σ1 := σ) (by rfl) ?_
    refine gi_putR (sl := 0) (lay' := LY67) dci_X6_init_6 (by decide +kernel) (by decide) rfl (by decide) (by decide +kernel) (Or.inr ⟨by decide +kernel, rfl⟩) (by rfl) ?_
    refine gi_ops oki_X6_init_9_2 (L' := [some (.inr 32), some (.inr 10), some (.inr 24), some (.inr 27)]) (st' := [.inr 24, .inr 32]) (σ1 := σ) (by rfl) ?_
    refine gi_putR (sl := 1) (lay' := LY68) dci_X6_init_11 (by decide +kernel) (by decide) rfl (by decide) (by decide +kernel) (Or.inr ⟨by decide +kernel, rfl⟩) (by rfl) ?_
    refine gi_ops oki_X6_init_14_2 (L' := [some (.inr 32), some (.inr 10), some (.inr 24), some (.inr 27)]) (st' := [.inr 27, .inr 32]) (σ1 := σ) (by rfl) ?_
    refine gi_putR (sl := 2) (lay' := LY69) dci_X6_init_16 (by decide +kernel) (by decide) rfl (by decide) (by decide +kernel) (Or.inr ⟨by decide +kernel, rfl⟩) (by rfl) ?_
    subst h
    exact gi_vret dci_X6_init_19 rfl
  exact gi_ct (as := [.inr 32, .inr 10, .inr 24, .inr 27]) mk_X6_init (by rfl) (Nat.le_of_ble_eq_true rfl) key
def LY70 : List Lay := [(10, [3, 7, 12, 24, 26, 29, 34, 1, 1, 1]), (2, [4, 5, 6]), (12, [4]), (12, [16]), (12, [48]), (8, [0, 8, 9, 10, 11]), (12, [50]), (12, [50]), (12, [50]), (12, [150]), (5, [0, 13, 14, 15, 16, 17, 18, 19, 20, 21, 22, 23]), (12, [60]), (12, [60]), (12, [60]), (12, [60]), (12, [180]), (12, [60]), (12, [60]), (12, [60]), (12, [60]), (12, [60]), (12, [60]), (9, [25]), (12, [12]), (4, [0, 0, 27, 28]), (12, [3]), (12, [64]), (1, [7, 24, 26, 0, 0, 30, 31, 32, 33]), (12, [469]), (12, [469]), (12, [360]), (12, [6]), (6, [12, 26, 29])]
def LY71 : List Lay := [(10, [3, 7, 12, 24, 26, 29, 34, 1, 1, 1]), (2, [4, 5, 6]), (12, [4]), (12, [16]), (12, [48]), (8, [0, 8, 9, 10, 11]), (12, [50]), (12, [50]), (12, [50]), (12, [150]), (5, [0, 13, 14, 15, 16, 17, 18, 19, 20, 21, 22, 23]), (12, [60]), (12, [60]), (12, [60]), (12, [60]), (12, [180]), (12, [60]), (12, [60]), (12, [60]), (12, [60]), (12, [60]), (12, [60]), (9, [25]), (12, [12]), (4, [0, 0, 27, 28]), (12, [3]), (12, [64]), (1, [7, 24, 26, 0, 0, 30, 31, 32, 33]), (12, [469]), (12, [469]), (12, [360]), (12, [6]), (6, [12, 26, 29]), (0, [1, 1, 1, 0, 0, 0, 1, 1, 1])]
def LY72 : List Lay := [(10, [3, 7, 12, 24, 26, 29, 34, 1, 1, 1]), (2, [4, 5, 6]), (12, [4]), (12, [16]), (12, [48]), (8, [0, 8, 9, 10, 11]), (12, [50]), (12, [50]), (12, [50]), (12, [150]), (5, [0, 13, 14, 15, 16, 17, 18, 19, 20, 21, 22, 23]), (12, [60]), (12, [60]), (12, [60]), (12, [60]), (12, [180]), (12, [60]), (12, [60]), (12, [60]), (12, [60]), (12, [60]), (12, [60]), (9, [25]), (12, [12]), (4, [0, 0, 27, 28]), (12, [3]), (12, [64]), (1, [7, 24, 26, 0, 0, 30, 31, 32, 33]), (12, [469]), (12, [469]), (12, [360]), (12, [6]), (6, [12, 26, 29]), (0, [1, 1, 1, 0, 0, 0, 1, 1, 1]), (12, [1969])]
def LY73 : List Lay := [(10, [3, 7, 12, 24, 26, 29, 34, 1, 1, 1]), (2, [4, 5, 6]), (12, [4]), (12, [16]), (12, [48]), (8, [0, 8, 9, 10, 11]), (12, [50]), (12, [50]), (12, [50]), (12, [150]), (5, [0, 13, 14, 15, 16, 17, 18, 19, 20, 21, 22, 23]), (12, [60]), (12, [60]), (12, [60]), (12, [60]), (12, [180]), (12, [60]), (12, [60]), (12, [60]), (12, [60]), (12, [60]), (12, [60]), (9, [25]), (12, [12]), (4, [0, 0, 27, 28]), (12, [3]), (12, [64]), (1, [7, 24, 26, 0, 0, 30, 31, 32, 33]), (12, [469]), (12, [469]), (12, [360]), (12, [6]), (6, [12, 26, 29]), (0, [1, 1, 1, 0, 0, 0, 36, 1, 1]), (12, [1969])]
def LY74 : List Lay := [(10, [3, 7, 12, 24, 26, 29, 34, 1, 1, 1]), (2, [4, 5, 6]), (12, [4]), (12, [16]), (12, [48]), (8, [0, 8, 9, 10, 11]), (12, [50]), (12, [50]), (12, [50]), (12, [150]), (5, [0, 13, 14, 15, 16, 17, 18, 19, 20, 21, 22, 23]), (12, [60]), (12, [60]), (12, [60]), (12, [60]), (12, [180]), (12, [60]), (12, [60]), (12, [60]), (12, [60]), (12, [60]), (12, [60]), (9, [25]), (12, [12]), (4, [0, 0, 27, 28]), (12, [3]), (12, [64]), (1, [7, 24, 26, 0, 0, 30, 31, 32, 33]), (12, [469]), (12, [469]), (12, [360]), (12, [6]), (6, [12, 26, 29]), (0, [1, 1, 1, 0, 0, 0, 36, 1, 1]), (12, [1969]), (12, [1969])]
def LY75 : List Lay := [(10, [3, 7, 12, 24, 26, 29, 34, 1, 1, 1]), (2, [4, 5, 6]), (12, [4]), (12, [16]), (12, [48]), (8, [0, 8, 9, 10, 11]), (12, [50]), (12, [50]), (12, [50]), (12, [150]), (5, [0, 13, 14, 15, 16, 17, 18, 19, 20, 21, 22, 23]), (12, [60]), (12, [60]), (12, [60]), (12, [60]), (12, [180]), (12, [60]), (12, [60]), (12, [60]), (12, [60]), (12, [60]), (12, [60]), (9, [25]), (12, [12]), (4, [0, 0, 27, 28]), (12, [3]), (12, [64]), (1, [7, 24, 26, 0, 0, 30, 31, 32, 33]), (12, [469]), (12, [469]), (12, [360]), (12, [6]), (6, [12, 26, 29]), (0, [1, 1, 1, 0, 0, 0, 36, 37, 1]), (12, [1969]), (12, [1969])]
def LY76 : List Lay := [(10, [3, 7, 12, 24, 26, 29, 34, 1, 1, 1]), (2, [4, 5, 6]), (12, [4]), (12, [16]), (12, [48]), (8, [0, 8, 9, 10, 11]), (12, [50]), (12, [50]), (12, [50]), (12, [150]), (5, [0, 13, 14, 15, 16, 17, 18, 19, 20, 21, 22, 23]), (12, [60]), (12, [60]), (12, [60]), (12, [60]), (12, [180]), (12, [60]), (12, [60]), (12, [60]), (12, [60]), (12, [60]), (12, [60]), (9, [25]), (12, [12]), (4, [0, 0, 27, 28]), (12, [3]), (12, [64]), (1, [7, 24, 26, 0, 0, 30, 31, 32, 33]), (12, [469]), (12, [469]), (12, [360]), (12, [6]), (6, [12, 26, 29]), (0, [1, 1, 1, 0, 0, 0, 36, 37, 1]), (12, [1969]), (12, [1969]), (12, [5])]
def LY77 : List Lay := [(10, [3, 7, 12, 24, 26, 29, 34, 1, 1, 1]), (2, [4, 5, 6]), (12, [4]), (12, [16]), (12, [48]), (8, [0, 8, 9, 10, 11]), (12, [50]), (12, [50]), (12, [50]), (12, [150]), (5, [0, 13, 14, 15, 16, 17, 18, 19, 20, 21, 22, 23]), (12, [60]), (12, [60]), (12, [60]), (12, [60]), (12, [180]), (12, [60]), (12, [60]), (12, [60]), (12, [60]), (12, [60]), (12, [60]), (9, [25]), (12, [12]), (4, [0, 0, 27, 28]), (12, [3]), (12, [64]), (1, [7, 24, 26, 0, 0, 30, 31, 32, 33]), (12, [469]), (12, [469]), (12, [360]), (12, [6]), (6, [12, 26, 29]), (0, [1, 1, 1, 0, 0, 0, 36, 37, 38]), (12, [1969]), (12, [1969]), (12, [5])]
def LY78 : List Lay := [(10, [3, 7, 12, 24, 26, 29, 34, 1, 1, 1]), (2, [4, 5, 6]), (12, [4]), (12, [16]), (12, [48]), (8, [0, 8, 9, 10, 11]), (12, [50]), (12, [50]), (12, [50]), (12, [150]), (5, [0, 13, 14, 15, 16, 17, 18, 19, 20, 21, 22, 23]), (12, [60]), (12, [60]), (12, [60]), (12, [60]), (12, [180]), (12, [60]), (12, [60]), (12, [60]), (12, [60]), (12, [60]), (12, [60]), (9, [25]), (12, [12]), (4, [0, 0, 27, 28]), (12, [3]), (12, [64]), (1, [7, 24, 26, 0, 0, 30, 31, 32, 33]), (12, [469]), (12, [469]), (12, [360]), (12, [6]), (6, [12, 26, 29]), (0, [12, 1, 1, 0, 0, 0, 36, 37, 38]), (12, [1969]), (12, [1969]), (12, [5])]
def LY79 : List Lay := [(10, [3, 7, 12, 24, 26, 29, 34, 1, 1, 1]), (2, [4, 5, 6]), (12, [4]), (12, [16]), (12, [48]), (8, [0, 8, 9, 10, 11]), (12, [50]), (12, [50]), (12, [50]), (12, [150]), (5, [0, 13, 14, 15, 16, 17, 18, 19, 20, 21, 22, 23]), (12, [60]), (12, [60]), (12, [60]), (12, [60]), (12, [180]), (12, [60]), (12, [60]), (12, [60]), (12, [60]), (12, [60]), (12, [60]), (9, [25]), (12, [12]), (4, [0, 0, 27, 28]), (12, [3]), (12, [64]), (1, [7, 24, 26, 0, 0, 30, 31, 32, 33]), (12, [469]), (12, [469]), (12, [360]), (12, [6]), (6, [12, 26, 29]), (0, [12, 26, 1, 0, 0, 0, 36, 37, 38]), (12, [1969]), (12, [1969]), (12, [5])]
def LY80 : List Lay := [(10, [3, 7, 12, 24, 26, 29, 34, 1, 1, 1]), (2, [4, 5, 6]), (12, [4]), (12, [16]), (12, [48]), (8, [0, 8, 9, 10, 11]), (12, [50]), (12, [50]), (12, [50]), (12, [150]), (5, [0, 13, 14, 15, 16, 17, 18, 19, 20, 21, 22, 23]), (12, [60]), (12, [60]), (12, [60]), (12, [60]), (12, [180]), (12, [60]), (12, [60]), (12, [60]), (12, [60]), (12, [60]), (12, [60]), (9, [25]), (12, [12]), (4, [0, 0, 27, 28]), (12, [3]), (12, [64]), (1, [7, 24, 26, 0, 0, 30, 31, 32, 33]), (12, [469]), (12, [469]), (12, [360]), (12, [6]), (6, [12, 26, 29]), (0, [12, 26, 29, 0, 0, 0, 36, 37, 38]), (12, [1969]), (12, [1969]), (12, [5])]
def I_X0_init_0 (σ : Sg) : Sg :=
bnd (up2 σ 33 3 0) fun s1 =>
bnd (up2 s1 33 4 0) fun s3 =>
bnd (up2 s3 33 5 0) fun s5 =>
bnd (fresh s5 34) fun s7 =>
bnd (fresh s7 35) fun s9 =>
bnd (fresh s9 36) fun s11 =>
s11
theorem ci_X0_init_0 (l : Launch) (d : Nat) (hd : 1 ≤ d) (σ q : Sg) (h : I_X0_init_0 σ = q) : CT l d m_X0_init.2.1 m_X0_init.2.2.1 m_X0_init.2.2.2.1 m_X0_init.2.2.2.2 [.inr 33, .inr 10, .inr 24, .inr 27] (LY71, σ) none (LY80, q) := by
  obtain ⟨d, rfl⟩ : ∃ e, d = e + 1 := ⟨d - 1, by omega⟩
  have key : Gi l m_X0_init (d + 1) LY71 LY80 q 0 [some (.inr 33), some (.inr 10), some (.inr 24), some (.inr 27)] [] LY71 σ := by
    unfold I_X0_init_0 at h
    refine gi_ops oki_X0_init_0_1 (L' := [some (.inr 33), some (.inr 10), some (.inr 24), some (.inr 27)]) (st' := [.inr 33]) (σ1 := σ) (by rfl) ?_
    refine gi_obj dci_X0_init_1 (by decide +kernel) (Nat.le_of_ble_eq_true rfl) (by omega) ?_
    refine gi_ops oki_X0_init_4_2 (L' := [some (.inr 33), some (.inr 10), some (.inr 24), some (.inr 27)]) (st' := [.inl 0, .inr 33]) (σ1 := σ) (by rfl) ?_
    obtain ⟨s1, e2, h⟩ := bnd_inv h
    refine gi_putI dci_X0_init_6 (by decide +kernel) (by decide) rfl rfl (Or.inr ⟨by decide +kernel, by decide⟩) (Or.inr ⟨by decide +kernel, rfl⟩) e2 ?_
    refine gi_ops oki_X0_init_9_2 (L' := [some (.inr 33), some (.inr 10), some (.inr 24), some (.inr 27)]) (st' := [.inl 0, .inr 33]) (σ1 := s1) (by rfl) ?_
    obtain ⟨s3, e4, h⟩ := bnd_inv h
    refine gi_putI dci_X0_init_11 (by decide +kernel) (by decide) rfl rfl (Or.inl (by decide +kernel)) (Or.inr ⟨by decide +kernel, rfl⟩) e4 ?_
    refine gi_ops oki_X0_init_14_2 (L' := [some (.inr 33), some (.inr 10), some (.inr 24), some (.inr 27)]) (st' := [.inl 0, .inr 33]) (σ1 := s3) (by rfl) ?_
    obtain ⟨s5, e6, h⟩ := bnd_inv h
    refine gi_putI dci_X0_init_16 (by decide +kernel) (by decide) rfl rfl (Or.inl (by decide +kernel)) (Or.inr ⟨by decide +kernel, rfl⟩) e6 ?_
    refine gi_ops oki_X0_init_19_2 (L' := [some (.inr 33), some (.inr 10), some (.inr 24), some (.inr 27)]) (st' := [.inl 1969, .inr 33]) (σ1 := s5) (by rfl) ?_
    obtain ⟨s7, e8, h⟩ := bnd_inv h
    refine gi_newI (lay' := LY72) dci_X0_init_23 (by decide) (by decide +kernel) (by rfl) e8 ?_
    refine gi_putR (sl := 6) (lay' := LY73) dci_X0_init_25 (by decide +kernel) (by decide) rfl (by decide) (by decide +kernel) (Or.inr ⟨by decide +kernel, rfl⟩) (by rfl) ?_
    refine gi_ops oki_X0_init_28_2 (L' := [some (.inr 33), some (.inr 10), some (.inr 24), some (.inr 27)]) (st' := [.inl 1969, .inr 33]) (σ1 := s7) (by rfl) ?_
    obtain ⟨s9, e10, h⟩ := bnd_inv h
    refine gi_newI (lay' := LY74) dci_X0_init_32 (by decide) (by decide +kernel) (by rfl) e10 ?_
    refine gi_putR (sl := 7) (lay' := LY75) dci_X0_init_34 (by decide +kernel) (by decide) rfl (by decide) (by decide +kernel) (Or.inr ⟨by decide +kernel, rfl⟩) (by rfl) ?_
    refine gi_ops oki_X0_init_37_2 (L' := [some (.inr 33), some (.inr 10), some (.inr 24), some (.inr 27)]) (st' := [.inl 5, .inr 33]) (σ1 := s9) (by rfl) ?_
    obtain ⟨s11, e12, h⟩ := bnd_inv h
    refine gi_newI (lay' := LY76) dci_X0_init_39 (by decide) (by decide +kernel) (by rfl) e12 ?_
    refine gi_putR (sl := 8) (lay' := LY77) dci_X0_init_41 (by decide +kernel) (by decide) rfl (by decide) (by decide +kernel) (Or.inr ⟨by decide +kernel, rfl⟩) (by rfl) ?_
    refine gi_ops oki_X0_init_44_2 (L' := [some (.inr 33), some (.inr 10), some (.inr 24), some (.inr 27)]) (st' := [.inr 10, .inr 33]) (σ1 := s11) (by rfl) ?_
    refine gi_putR (sl := 0) (lay' := LY78) dci_X0_init_46 (by decide +kernel) (by decide) rfl (by decide) (by decide +kernel) (Or.inr ⟨by decide +kernel, rfl⟩) (by rfl) ?_
    refine gi_ops oki_X0_init_49_2 (L' := [some (.inr 33), some (.inr 10), some (.inr 24), some (.inr 27)]) (st' := [.inr 24, .inr 33]) (σ1 := s11) (by rfl) ?_
    refine gi_putR (sl := 1) (lay' := LY79) dci_X0_init_51 (by decide +kernel) (by decide) rfl (by decide) (by decide +kernel) (Or.inr ⟨by decide +kernel, rfl⟩) (by rfl) ?_
    refine gi_ops oki_X0_init_54_2 (L' := [some (.inr 33), some (.inr 10), some (.inr 24), some (.inr 27)]) (st' := [.inr 27, .inr 33]) (σ1 := s11) (by rfl) ?_
    refine gi_putR (sl := 2) (lay' := LY80) dci_X0_init_56 (by decide +kernel) (by decide) rfl (by decide) (by decide +kernel) (Or.inr ⟨by decide +kernel, rfl⟩) (by rfl) ?_
    subst h
    exact gi_vret dci_X0_init_59 rfl
  exact gi_ct (as := [.inr 33, .inr 10, .inr 24, .inr 27]) mk_X0_init (by rfl) (Nat.le_of_ble_eq_true rfl) key
def LY81 : List Lay := [(10, [3, 7, 12, 24, 26, 29, 34, 35, 1, 1]), (2, [4, 5, 6]), (12, [4]), (12, [16]), (12, [48]), (8, [0, 8, 9, 10, 11]), (12, [50]), (12, [50]), (12, [50]), (12, [150]), (5, [0, 13, 14, 15, 16, 17, 18, 19, 20, 21, 22, 23]), (12, [60]), (12, [60]), (12, [60]), (12, [60]), (12, [180]), (12, [60]), (12, [60]), (12, [60]), (12, [60]), (12, [60]), (12, [60]), (9, [25]), (12, [12]), (4, [0, 0, 27, 28]), (12, [3]), (12, [64]), (1, [7, 24, 26, 0, 0, 30, 31, 32, 33]), (12, [469]), (12, [469]), (12, [360]), (12, [6]), (6, [12, 26, 29]), (0, [12, 26, 29, 0, 0, 0, 36, 37, 38]), (12, [1969]), (12, [1969]), (12, [5])]
def LY82 : List Lay := [(10, [3, 7, 12, 24, 26, 29, 34, 35, 1, 1]), (2, [4, 5, 6]), (12, [4]), (12, [16]), (12, [48]), (8, [0, 8, 9, 10, 11]), (12, [50]), (12, [50]), (12, [50]), (12, [150]), (5, [0, 13, 14, 15, 16, 17, 18, 19, 20, 21, 22, 23]), (12, [60]), (12, [60]), (12, [60]), (12, [60]), (12, [180]), (12, [60]), (12, [60]), (12, [60]), (12, [60]), (12, [60]), (12, [60]), (9, [25]), (12, [12]), (4, [0, 0, 27, 28]), (12, [3]), (12, [64]), (1, [7, 24, 26, 0, 0, 30, 31, 32, 33]), (12, [469]), (12, [469]), (12, [360]), (12, [6]), (6, [12, 26, 29]), (0, [12, 26, 29, 0, 0, 0, 36, 37, 38]), (12, [1969]), (12, [1969]), (12, [5]), (3, [1, 1, 1, 1, 0, 0, 0, 0, 0, 1, 1, 1, 1, 1])]
def LY83 : List Lay := [(10, [3, 7, 12, 24, 26, 29, 34, 35, 1, 1]), (2, [4, 5, 6]), (12, [4]), (12, [16]), (12, [48]), (8, [0, 8, 9, 10, 11]), (12, [50]), (12, [50]), (12, [50]), (12, [150]), (5, [0, 13, 14, 15, 16, 17, 18, 19, 20, 21, 22, 23]), (12, [60]), (12, [60]), (12, [60]), (12, [60]), (12, [180]), (12, [60]), (12, [60]), (12, [60]), (12, [60]), (12, [60]), (12, [60]), (9, [25]), (12, [12]), (4, [0, 0, 27, 28]), (12, [3]), (12, [64]), (1, [7, 24, 26, 0, 0, 30, 31, 32, 33]), (12, [469]), (12, [469]), (12, [360]), (12, [6]), (6, [12, 26, 29]), (0, [12, 26, 29, 0, 0, 0, 36, 37, 38]), (12, [1969]), (12, [1969]), (12, [5]), (3, [1, 1, 1, 1, 0, 0, 0, 0, 0, 1, 1, 1, 1, 1]), (12, [469])]
def LY84 : List Lay := [(10, [3, 7, 12, 24, 26, 29, 34, 35, 1, 1]), (2, [4, 5, 6]), (12, [4]), (12, [16]), (12, [48]), (8, [0, 8, 9, 10, 11]), (12, [50]), (12, [50]), (12, [50]), (12, [150]), (5, [0, 13, 14, 15, 16, 17, 18, 19, 20, 21, 22, 23]), (12, [60]), (12, [60]), (12, [60]), (12, [60]), (12, [180]), (12, [60]), (12, [60]), (12, [60]), (12, [60]), (12, [60]), (12, [60]), (9, [25]), (12, [12]), (4, [0, 0, 27, 28]), (12, [3]), (12, [64]), (1, [7, 24, 26, 0, 0, 30, 31, 32, 33]), (12, [469]), (12, [469]), (12, [360]), (12, [6]), (6, [12, 26, 29]), (0, [12, 26, 29, 0, 0, 0, 36, 37, 38]), (12, [1969]), (12, [1969]), (12, [5]), (3, [1, 1, 1, 1, 0, 0, 0, 0, 0, 40, 1, 1, 1, 1]), (12, [469])]
def LY85 : List Lay := [(10, [3, 7, 12, 24, 26, 29, 34, 35, 1, 1]), (2, [4, 5, 6]), (12, [4]), (12, [16]), (12, [48]), (8, [0, 8, 9, 10, 11]), (12, [50]), (12, [50]), (12, [50]), (12, [150]), (5, [0, 13, 14, 15, 16, 17, 18, 19, 20, 21, 22, 23]), (12, [60]), (12, [60]), (12, [60]), (12, [60]), (12, [180]), (12, [60]), (12, [60]), (12, [60]), (12, [60]), (12, [60]), (12, [60]), (9, [25]), (12, [12]), (4, [0, 0, 27, 28]), (12, [3]), (12, [64]), (1, [7, 24, 26, 0, 0, 30, 31, 32, 33]), (12, [469]), (12, [469]), (12, [360]), (12, [6]), (6, [12, 26, 29]), (0, [12, 26, 29, 0, 0, 0, 36, 37, 38]), (12, [1969]), (12, [1969]), (12, [5]), (3, [1, 1, 1, 1, 0, 0, 0, 0, 0, 40, 1, 1, 1, 1]), (12, [469]), (12, [469])]
def LY86 : List Lay := [(10, [3, 7, 12, 24, 26, 29, 34, 35, 1, 1]), (2, [4, 5, 6]), (12, [4]), (12, [16]), (12, [48]), (8, [0, 8, 9, 10, 11]), (12, [50]), (12, [50]), (12, [50]), (12, [150]), (5, [0, 13, 14, 15, 16, 17, 18, 19, 20, 21, 22, 23]), (12, [60]), (12, [60]), (12, [60]), (12, [60]), (12, [180]), (12, [60]), (12, [60]), (12, [60]), (12, [60]), (12, [60]), (12, [60]), (9, [25]), (12, [12]), (4, [0, 0, 27, 28]), (12, [3]), (12, [64]), (1, [7, 24, 26, 0, 0, 30, 31, 32, 33]), (12, [469]), (12, [469]), (12, [360]), (12, [6]), (6, [12, 26, 29]), (0, [12, 26, 29, 0, 0, 0, 36, 37, 38]), (12, [1969]), (12, [1969]), (12, [5]), (3, [1, 1, 1, 1, 0, 0, 0, 0, 0, 40, 41, 1, 1, 1]), (12, [469]), (12, [469])]
def LY87 : List Lay := [(10, [3, 7, 12, 24, 26, 29, 34, 35, 1, 1]), (2, [4, 5, 6]), (12, [4]), (12, [16]), (12, [48]), (8, [0, 8, 9, 10, 11]), (12, [50]), (12, [50]), (12, [50]), (12, [150]), (5, [0, 13, 14, 15, 16, 17, 18, 19, 20, 21, 22, 23]), (12, [60]), (12, [60]), (12, [60]), (12, [60]), (12, [180]), (12, [60]), (12, [60]), (12, [60]), (12, [60]), (12, [60]), (12, [60]), (9, [25]), (12, [12]), (4, [0, 0, 27, 28]), (12, [3]), (12, [64]), (1, [7, 24, 26, 0, 0, 30, 31, 32, 33]), (12, [469]), (12, [469]), (12, [360]), (12, [6]), (6, [12, 26, 29]), (0, [12, 26, 29, 0, 0, 0, 36, 37, 38]), (12, [1969]), (12, [1969]), (12, [5]), (3, [1, 1, 1, 1, 0, 0, 0, 0, 0, 40, 41, 1, 1, 1]), (12, [469]), (12, [469]), (12, [6])]
def LY88 : List Lay := [(10, [3, 7, 12, 24, 26, 29, 34, 35, 1, 1]), (2, [4, 5, 6]), (12, [4]), (12, [16]), (12, [48]), (8, [0, 8, 9, 10, 11]), (12, [50]), (12, [50]), (12, [50]), (12, [150]), (5, [0, 13, 14, 15, 16, 17, 18, 19, 20, 21, 22, 23]), (12, [60]), (12, [60]), (12, [60]), (12, [60]), (12, [180]), (12, [60]), (12, [60]), (12, [60]), (12, [60]), (12, [60]), (12, [60]), (9, [25]), (12, [12]), (4, [0, 0, 27, 28]), (12, [3]), (12, [64]), (1, [7, 24, 26, 0, 0, 30, 31, 32, 33]), (12, [469]), (12, [469]), (12, [360]), (12, [6]), (6, [12, 26, 29]), (0, [12, 26, 29, 0, 0, 0, 36, 37, 38]), (12, [1969]), (12, [1969]), (12, [5]), (3, [1, 1, 1, 1, 0, 0, 0, 0, 0, 40, 41, 42, 1, 1]), (12, [469]), (12, [469]), (12, [6])]
def LY89 : List Lay := [(10, [3, 7, 12, 24, 26, 29, 34, 35, 1, 1]), (2, [4, 5, 6]), (12, [4]), (12, [16]), (12, [48]), (8, [0, 8, 9, 10, 11]), (12, [50]), (12, [50]), (12, [50]), (12, [150]), (5, [0, 13, 14, 15, 16, 17, 18, 19, 20, 21, 22, 23]), (12, [60]), (12, [60]), (12, [60]), (12, [60]), (12, [180]), (12, [60]), (12, [60]), (12, [60]), (12, [60]), (12, [60]), (12, [60]), (9, [25]), (12, [12]), (4, [0, 0, 27, 28]), (12, [3]), (12, [64]), (1, [7, 24, 26, 0, 0, 30, 31, 32, 33]), (12, [469]), (12, [469]), (12, [360]), (12, [6]), (6, [12, 26, 29]), (0, [12, 26, 29, 0, 0, 0, 36, 37, 38]), (12, [1969]), (12, [1969]), (12, [5]), (3, [1, 1, 1, 1, 0, 0, 0, 0, 0, 40, 41, 42, 1, 1]), (12, [469]), (12, [469]), (12, [6]), (12, [120])]
def LY90 : List Lay := [(10, [3, 7, 12, 24, 26, 29, 34, 35, 1, 1]), (2, [4, 5, 6]), (12, [4]), (12, [16]), (12, [48]), (8, [0, 8, 9, 10, 11]), (12, [50]), (12, [50]), (12, [50]), (12, [150]), (5, [0, 13, 14, 15, 16, 17, 18, 19, 20, 21, 22, 23]), (12, [60]), (12, [60]), (12, [60]), (12, [60]), (12, [180]), (12, [60]), (12, [60]), (12, [60]), (12, [60]), (12, [60]), (12, [60]), (9, [25]), (12, [12]), (4, [0, 0, 27, 28]), (12, [3]), (12, [64]), (1, [7, 24, 26, 0, 0, 30, 31, 32, 33]), (12, [469]), (12, [469]), (12, [360]), (12, [6]), (6, [12, 26, 29]), (0, [12, 26, 29, 0, 0, 0, 36, 37, 38]), (12, [1969]), (12, [1969]), (12, [5]), (3, [1, 1, 1, 1, 0, 0, 0, 0, 0, 40, 41, 42, 43, 1]), (12, [469]), (12, [469]), (12, [6]), (12, [120])]
def LY91 : List Lay := [(10, [3, 7, 12, 24, 26, 29, 34, 35, 1, 1]), (2, [4, 5, 6]), (12, [4]), (12, [16]), (12, [48]), (8, [0, 8, 9, 10, 11]), (12, [50]), (12, [50]), (12, [50]), (12, [150]), (5, [0, 13, 14, 15, 16, 17, 18, 19, 20, 21, 22, 23]), (12, [60]), (12, [60]), (12, [60]), (12, [60]), (12, [180]), (12, [60]), (12, [60]), (12, [60]), (12, [60]), (12, [60]), (12, [60]), (9, [25]), (12, [12]), (4, [0, 0, 27, 28]), (12, [3]), (12, [64]), (1, [7, 24, 26, 0, 0, 30, 31, 32, 33]), (12, [469]), (12, [469]), (12, [360]), (12, [6]), (6, [12, 26, 29]), (0, [12, 26, 29, 0, 0, 0, 36, 37, 38]), (12, [1969]), (12, [1969]), (12, [5]), (3, [1, 1, 1, 1, 0, 0, 0, 0, 0, 40, 41, 42, 43, 1]), (12, [469]), (12, [469]), (12, [6]), (12, [120]), (12, [469])]
def LY92 : List Lay := [(10, [3, 7, 12, 24, 26, 29, 34, 35, 1, 1]), (2, [4, 5, 6]), (12, [4]), (12, [16]), (12, [48]), (8, [0, 8, 9, 10, 11]), (12, [50]), (12, [50]), (12, [50]), (12, [150]), (5, [0, 13, 14, 15, 16, 17, 18, 19, 20, 21, 22, 23]), (12, [60]), (12, [60]), (12, [60]), (12, [60]), (12, [180]), (12, [60]), (12, [60]), (12, [60]), (12, [60]), (12, [60]), (12, [60]), (9, [25]), (12, [12]), (4, [0, 0, 27, 28]), (12, [3]), (12, [64]), (1, [7, 24, 26, 0, 0, 30, 31, 32, 33]), (12, [469]), (12, [469]), (12, [360]), (12, [6]), (6, [12, 26, 29]), (0, [12, 26, 29, 0, 0, 0, 36, 37, 38]), (12, [1969]), (12, [1969]), (12, [5]), (3, [1, 1, 1, 1, 0, 0, 0, 0, 0, 40, 41, 42, 43, 44]), (12, [469]), (12, [469]), (12, [6]), (12, [120]), (12, [469])]
def LY93 : List Lay := [(10, [3, 7, 12, 24, 26, 29, 34, 35, 1, 1]), (2, [4, 5, 6]), (12, [4]), (12, [16]), (12, [48]), (8, [0, 8, 9, 10, 11]), (12, [50]), (12, [50]), (12, [50]), (12, [150]), (5, [0, 13, 14, 15, 16, 17, 18, 19, 20, 21, 22, 23]), (12, [60]), (12, [60]), (12, [60]), (12, [60]), (12, [180]), (12, [60]), (12, [60]), (12, [60]), (12, [60]), (12, [60]), (12, [60]), (9, [25]), (12, [12]), (4, [0, 0, 27, 28]), (12, [3]), (12, [64]), (1, [7, 24, 26, 0, 0, 30, 31, 32, 33]), (12, [469]), (12, [469]), (12, [360]), (12, [6]), (6, [12, 26, 29]), (0, [12, 26, 29, 0, 0, 0, 36, 37, 38]), (12, [1969]), (12, [1969]), (12, [5]), (3, [3, 1, 1, 1, 0, 0, 0, 0, 0, 40, 41, 42, 43, 44]), (12, [469]), (12, [469]), (12, [6]), (12, [120]), (12, [469])]
def LY94 : List Lay := [(10, [3, 7, 12, 24, 26, 29, 34, 35, 1, 1]), (2, [4, 5, 6]), (12, [4]), (12, [16]), (12, [48]), (8, [0, 8, 9, 10, 11]), (12, [50]), (12, [50]), (12, [50]), (12, [150]), (5, [0, 13, 14, 15, 16, 17, 18, 19, 20, 21, 22, 23]), (12, [60]), (12, [60]), (12, [60]), (12, [60]), (12, [180]), (12, [60]), (12, [60]), (12, [60]), (12, [60]), (12, [60]), (12, [60]), (9, [25]), (12, [12]), (4, [0, 0, 27, 28]), (12, [3]), (12, [64]), (1, [7, 24, 26, 0, 0, 30, 31, 32, 33]), (12, [469]), (12, [469]), (12, [360]), (12, [6]), (6, [12, 26, 29]), (0, [12, 26, 29, 0, 0, 0, 36, 37, 38]), (12, [1969]), (12, [1969]), (12, [5]), (3, [3, 12, 1, 1, 0, 0, 0, 0, 0, 40, 41, 42, 43, 44]), (12, [469]), (12, [469]), (12, [6]), (12, [120]), (12, [469])]
def LY95 : List Lay := [(10, [3, 7, 12, 24, 26, 29, 34, 35, 1, 1]), (2, [4, 5, 6]), (12, [4]), (12, [16]), (12, [48]), (8, [0, 8, 9, 10, 11]), (12, [50]), (12, [50]), (12, [50]), (12, [150]), (5, [0, 13, 14, 15, 16, 17, 18, 19, 20, 21, 22, 23]), (12, [60]), (12, [60]), (12, [60]), (12, [60]), (12, [180]), (12, [60]), (12, [60]), (12, [60]), (12, [60]), (12, [60]), (12, [60]), (9, [25]), (12, [12]), (4, [0, 0, 27, 28]), (12, [3]), (12, [64]), (1, [7, 24, 26, 0, 0, 30, 31, 32, 33]), (12, [469]), (12, [469]), (12, [360]), (12, [6]), (6, [12, 26, 29]), (0, [12, 26, 29, 0, 0, 0, 36, 37, 38]), (12, [1969]), (12, [1969]), (12, [5]), (3, [3, 12, 24, 1, 0, 0, 0, 0, 0, 40, 41, 42, 43, 44]), (12, [469]), (12, [469]), (12, [6]), (12, [120]), (12, [469])]
def LY96 : List Lay := [(10, [3, 7, 12, 24, 26, 29, 34, 35, 1, 1]), (2, [4, 5, 6]), (12, [4]), (12, [16]), (12, [48]), (8, [0, 8, 9, 10, 11]), (12, [50]), (12, [50]), (12, [50]), (12, [150]), (5, [0, 13, 14, 15, 16, 17, 18, 19, 20, 21, 22, 23]), (12, [60]), (12, [60]), (12, [60]), (12, [60]), (12, [180]), (12, [60]), (12, [60]), (12, [60]), (12, [60]), (12, [60]), (12, [60]), (9, [25]), (12, [12]), (4, [0, 0, 27, 28]), (12, [3]), (12, [64]), (1, [7, 24, 26, 0, 0, 30, 31, 32, 33]), (12, [469]), (12, [469]), (12, [360]), (12, [6]), (6, [12, 26, 29]), (0, [12, 26, 29, 0, 0, 0, 36, 37, 38]), (12, [1969]), (12, [1969]), (12, [5]), (3, [3, 12, 24, 26, 0, 0, 0, 0, 0, 40, 41, 42, 43, 44]), (12, [469]), (12, [469]), (12, [6]), (12, [120]), (12, [469])]
def I_X3_init_0 (σ : Sg) : Sg :=
bnd (up2 σ 37 4 0) fun s1 =>
bnd (up2 s1 37 5 2) fun s3 =>
bnd (up2 s3 37 6 0) fun s5 =>
bnd (up2 s5 37 7 0) fun s7 =>
bnd (up2 s7 37 8 0) fun s9 =>
bnd (fresh s9 38) fun s11 =>
bnd (fresh s11 39) fun s13 =>
bnd (fresh s13 40) fun s15 =>
bnd (fresh s15 41) fun s17 =>
bnd (fresh s17 42) fun s19 =>
s19
theorem ci_X3_init_0 (l : Launch) (d : Nat) (hd : 1 ≤ d) (σ q : Sg) (h : I_X3_init_0 σ = q) : CT l d m_X3_init.2.1 m_X3_init.2.2.1 m_X3_init.2.2.2.1 m_X3_init.2.2.2.2 [.inr 37, .inr 1, .inr 10, .inr 22, .inr 24] (LY82, σ) none (LY96, q) := by
  obtain ⟨d, rfl⟩ : ∃ e, d = e + 1 := ⟨d - 1, by omega⟩
  have key : Gi l m_X3_init (d + 1) LY82 LY96 q 0 [some (.inr 37), some (.inr 1), some (.inr 10), some (.inr 22), some (.inr 24)] [] LY82 σ := by
    unfold I_X3_init_0 at h
    refine gi_ops oki_X3_init_0_1 (L' := [some (.inr 37), some (.inr 1), some (.inr 10), some (.inr 22), some (.inr 24)]) (st' := [.inr 37]) (σ1 := σ) (by rfl) ?_
    refine gi_obj dci_X3_init_1 (by decide +kernel) (Nat.le_of_ble_eq_true rfl) (by omega) ?_
    refine gi_ops oki_X3_init_4_2 (L' := [some (.inr 37), some (.inr 1), some (.inr 10), some (.inr 22), some (.inr 24)]) (st' := [.inl 0, .inr 37]) (σ1 := σ) (by rfl) ?_
    obtain ⟨s1, e2, h⟩ := bnd_inv h
    refine gi_putI dci_X3_init_6 (by decide +kernel) (by decide) rfl rfl (Or.inl (by decide +kernel)) (Or.inr ⟨by decide +kernel, rfl⟩) e2 ?_
    refine gi_ops oki_X3_init_9_2 (L' := [some (.inr 37), some (.inr 1), some (.inr 10), some (.inr 22), some (.inr 24)]) (st' := [.inl 2, .inr 37]) (σ1 := s1) (by rfl) ?_
    obtain ⟨s3, e4, h⟩ := bnd_inv h
    refine gi_putI dci_X3_init_11 (by decide +kernel) (by decide) rfl rfl (Or.inl (by decide +kernel)) (Or.inr ⟨by decide +kernel, rfl⟩) e4 ?_
    refine gi_ops oki_X3_init_14_2 (L' := [some (.inr 37), some (.inr 1), some (.inr 10), some (.inr 22), some (.inr 24)]) (st' := [.inl 0, .inr 37]) (σ1 := s3) (by rfl) ?_
    obtain ⟨s5, e6, h⟩ := bnd_inv h
    refine gi_putI dci_X3_init_16 (by decide +kernel) (by decide) rfl rfl (Or.inl (by decide +kernel)) (Or.inr ⟨by decide +kernel, rfl⟩) e6 ?_
    refine gi_ops oki_X3_init_19_2 (L' := [some (.inr 37), some (.inr 1), some (.inr 10), some (.inr 22), some (.inr 24)]) (st' := [.inl 0, .inr 37]) (σ1 := s5) (by rfl) ?_
    obtain ⟨s7, e8, h⟩ := bnd_inv h
    refine gi_putI dci_X3_init_21 (by decide +kernel) (by decide) rfl rfl (Or.inl (by decide +kernel)) (Or.inr ⟨by decide +kernel, rfl⟩) e8 ?_
    refine gi_ops oki_X3_init_24_2 (L' := [some (.inr 37), some (.inr 1), some (.inr 10), some (.inr 22), some (.inr 24)]) (st' := [.inl 0, .inr 37]) (σ1 := s7) (by rfl) ?_
    obtain ⟨s9, e10, h⟩ := bnd_inv h
    refine gi_putI dci_X3_init_26 (by decide +kernel) (by decide) rfl rfl (Or.inl (by decide +kernel)) (Or.inr ⟨by decide +kernel, rfl⟩) e10 ?_
    refine gi_ops oki_X3_init_29_2 (L' := [some (.inr 37), some (.inr 1), some (.inr 10), some (.inr 22), some (.inr 24)]) (st' := [.inl 469, .inr 37]) (σ1 := s9) (by rfl) ?_
    obtain ⟨s11, e12, h⟩ := bnd_inv h
    refine gi_newI (lay' := LY83) dci_X3_init_33 (by decide) (by decide +kernel) (by rfl) e12 ?_
    refine gi_putR (sl := 9) (lay' := LY84) dci_X3_init_35 (by decide +kernel) (by decide) rfl (by decide) (by decide +kernel) (Or.inr ⟨by decide +kernel, rfl⟩) (by rfl) ?_
    refine gi_ops oki_X3_init_38_2 (L' := [some (.inr 37), some (.inr 1), some (.inr 10), some (.inr 22), some (.inr 24)]) (st' := [.inl 469, .inr 37]) (σ1 := s11) (by rfl) ?_
    obtain ⟨s13, e14, h⟩ := bnd_inv h
    refine gi_newI (lay' := LY85) dci_X3_init_42 (by decide) (by decide +kernel) (by rfl) e14 ?_
    refine gi_putR (sl := 10) (lay' := LY86) dci_X3_init_44 (by decide +kernel) (by decide) rfl (by decide) (by decide +kernel) (Or.inr ⟨by decide +kernel, rfl⟩) (by rfl) ?_
    refine gi_ops oki_X3_init_47_2 (L' := [some (.inr 37), some (.inr 1), some (.inr 10), some (.inr 22), some (.inr 24)]) (st' := [.inl 6, .inr 37]) (σ1 := s13) (by rfl) ?_
    obtain ⟨s15, e16, h⟩ := bnd_inv h
    refine gi_newI (lay' := LY87) dci_X3_init_50 (by decide) (by decide +kernel) (by rfl) e16 ?_
    refine gi_putR (sl := 11) (lay' := LY88) dci_X3_init_52 (by decide +kernel) (by decide) rfl (by decide) (by decide +kernel) (Or.inr ⟨by decide +kernel, rfl⟩) (by rfl) ?_
    refine gi_ops oki_X3_init_55_2 (L' := [some (.inr 37), some (.inr 1), some (.inr 10), some (.inr 22), some (.inr 24)]) (st' := [.inl 120, .inr 37]) (σ1 := s15) (by rfl) ?_
    obtain ⟨s17, e18, h⟩ := bnd_inv h
    refine gi_newI (lay' := LY89) dci_X3_init_58 (by decide) (by decide +kernel) (by rfl) e18 ?_
    refine gi_putR (sl := 12) (lay' := LY90) dci_X3_init_60 (by decide +kernel) (by decide) rfl (by decide) (by decide +kernel) (Or.inr ⟨by decide +kernel, rfl⟩) (by rfl) ?_
    refine gi_ops oki_X3_init_63_2 (L' := [some (.inr 37), some (.inr 1), some (.inr 10), some (.inr 22), some (.inr 24)]) (st' := [.inl 469, .inr 37]) (σ1 := s17) (by rfl) ?_
    obtain ⟨s19, e20, h⟩ := bnd_inv h
    refine gi_newI (lay' := LY91) dci_X3_init_67 (by decide) (by decide +kernel) (by rfl) e20 ?_
    refine gi_putR (sl := 13) (lay' := LY92) dci_X3_init_69 (by decide +kernel) (by decide) rfl (by decide) (by decide +kernel) (Or.inr ⟨by decide +kernel, rfl⟩) (by rfl) ?_
    refine gi_ops oki_X3_init_72_2 (L' := [some (.inr 37), some (.inr 1), some (.inr 10), some (.inr 22), some (.inr 24)]) (st' := [.inr 1, .inr 37]) (σ1 := s19) (by rfl) ?_
    refine gi_putR (sl := 0) (lay' := LY93) dci_X3_init_74 (by decide +kernel) (by decide) rfl (by decide) (by decide +kernel) (Or.inr ⟨by decide +kernel, rfl⟩) (by rfl) ?_
    refine gi_ops oki_X3_init_77_2 (L' := [some (.inr 37), some (.inr 1), some (.inr 10), some (.inr 22), some (.inr 24)]) (st' := [.inr 10, .inr 37]) (σ1 := s19) (by rfl) ?_
    refine gi_putR (sl := 1) (lay' := LY94) dci_X3_init_79 (by decide +kernel) (by decide) rfl (by decide) (by decide +kernel) (Or.inr ⟨by decide +kernel, rfl⟩) (by rfl) ?_
    refine gi_ops oki_X3_init_82_2 (L' := [some (.inr 37), some (.inr 1), some (.inr 10), some (.inr 22), some (.inr 24)]) (st' := [.inr 22, .inr 37]) (σ1 := s19) (by rfl) ?_
    refine gi_putR (sl := 2) (lay' := LY95) dci_X3_init_84 (by decide +kernel) (by decide) rfl (by decide) (by decide +kernel) (Or.inr ⟨by decide +kernel, rfl⟩) (by rfl) ?_
    refine gi_ops oki_X3_init_87_2 (L' := [some (.inr 37), some (.inr 1), some (.inr 10), some (.inr 22), some (.inr 24)]) (st' := [.inr 24, .inr 37]) (σ1 := s19) (by rfl) ?_
    refine gi_putR (sl := 3) (lay' := LY96) dci_X3_init_90 (by decide +kernel) (by decide) rfl (by decide) (by decide +kernel) (Or.inr ⟨by decide +kernel, rfl⟩) (by rfl) ?_
    subst h
    exact gi_vret dci_X3_init_93 rfl
  exact gi_ct (as := [.inr 37, .inr 1, .inr 10, .inr 22, .inr 24]) mk_X3_init (by rfl) (Nat.le_of_ble_eq_true rfl) key
def LY97 : List Lay := [(10, [3, 7, 12, 24, 26, 29, 34, 35, 1, 1]), (2, [4, 5, 6]), (12, [4]), (12, [16]), (12, [48]), (8, [0, 8, 9, 10, 11]), (12, [50]), (12, [50]), (12, [50]), (12, [150]), (5, [0, 13, 14, 15, 16, 17, 18, 19, 20, 21, 22, 23]), (12, [60]), (12, [60]), (12, [60]), (12, [60]), (12, [180]), (12, [60]), (12, [60]), (12, [60]), (12, [60]), (12, [60]), (12, [60]), (9, [25]), (12, [12]), (4, [0, 0, 27, 28]), (12, [3]), (12, [64]), (1, [7, 24, 26, 0, 0, 30, 31, 32, 33]), (12, [469]), (12, [469]), (12, [360]), (12, [6]), (6, [12, 26, 29]), (0, [12, 26, 29, 0, 0, 0, 36, 37, 38]), (12, [1969]), (12, [1969]), (12, [5]), (3, [3, 12, 24, 26, 0, 0, 0, 0, 0, 40, 41, 42, 43, 44]), (12, [469]), (12, [469]), (12, [6]), (12, [120]), (12, [469]), (7, [1, 1, 0, 0, 0, 0, 0, 0, 0, 0, 1, 1, 1, 1, 1])]
def LY98 : List Lay := [(10, [3, 7, 12, 24, 26, 29, 34, 35, 1, 1]), (2, [4, 5, 6]), (12, [4]), (12, [16]), (12, [48]), (8, [0, 8, 9, 10, 11]), (12, [50]), (12, [50]), (12, [50]), (12, [150]), (5, [0, 13, 14, 15, 16, 17, 18, 19, 20, 21, 22, 23]), (12, [60]), (12, [60]), (12, [60]), (12, [60]), (12, [180]), (12, [60]), (12, [60]), (12, [60]), (12, [60]), (12, [60]), (12, [60]), (9, [25]), (12, [12]), (4, [0, 0, 27, 28]), (12, [3]), (12, [64]), (1, [7, 24, 26, 0, 0, 30, 31, 32, 33]), (12, [469]), (12, [469]), (12, [360]), (12, [6]), (6, [12, 26, 29]), (0, [12, 26, 29, 0, 0, 0, 36, 37, 38]), (12, [1969]), (12, [1969]), (12, [5]), (3, [3, 12, 24, 26, 0, 0, 0, 0, 0, 40, 41, 42, 43, 44]), (12, [469]), (12, [469]), (12, [6]), (12, [120]), (12, [469]), (7, [1, 1, 0, 0, 0, 0, 0, 0, 0, 0, 1, 1, 1, 1, 1]), (12, [500])]
def LY99 : List Lay := [(10, [3, 7, 12, 24, 26, 29, 34, 35, 1, 1]), (2, [4, 5, 6]), (12, [4]), (12, [16]), (12, [48]), (8, [0, 8, 9, 10, 11]), (12, [50]), (12, [50]), (12, [50]), (12, [150]), (5, [0, 13, 14, 15, 16, 17, 18, 19, 20, 21, 22, 23]), (12, [60]), (12, [60]), (12, [60]), (12, [60]), (12, [180]), (12, [60]), (12, [60]), (12, [60]), (12, [60]), (12, [60]), (12, [60]), (9, [25]), (12, [12]), (4, [0, 0, 27, 28]), (12, [3]), (12, [64]), (1, [7, 24, 26, 0, 0, 30, 31, 32, 33]), (12, [469]), (12, [469]), (12, [360]), (12, [6]), (6, [12, 26, 29]), (0, [12, 26, 29, 0, 0, 0, 36, 37, 38]), (12, [1969]), (12, [1969]), (12, [5]), (3, [3, 12, 24, 26, 0, 0, 0, 0, 0, 40, 41, 42, 43, 44]), (12, [469]), (12, [469]), (12, [6]), (12, [120]), (12, [469]), (7, [1, 1, 0, 0, 0, 0, 0, 0, 0, 0, 46, 1, 1, 1, 1]), (12, [500])]
def LY100 : List Lay := [(10, [3, 7, 12, 24, 26, 29, 34, 35, 1, 1]), (2, [4, 5, 6]), (12, [4]), (12, [16]), (12, [48]), (8, [0, 8, 9, 10, 11]), (12, [50]), (12, [50]), (12, [50]), (12, [150]), (5, [0, 13, 14, 15, 16, 17, 18, 19, 20, 21, 22, 23]), (12, [60]), (12, [60]), (12, [60]), (12, [60]), (12, [180]), (12, [60]), (12, [60]), (12, [60]), (12, [60]), (12, [60]), (12, [60]), (9, [25]), (12, [12]), (4, [0, 0, 27, 28]), (12, [3]), (12, [64]), (1, [7, 24, 26, 0, 0, 30, 31, 32, 33]), (12, [469]), (12, [469]), (12, [360]), (12, [6]), (6, [12, 26, 29]), (0, [12, 26, 29, 0, 0, 0, 36, 37, 38]), (12, [1969]), (12, [1969]), (12, [5]), (3, [3, 12, 24, 26, 0, 0, 0, 0, 0, 40, 41, 42, 43, 44]), (12, [469]), (12, [469]), (12, [6]), (12, [120]), (12, [469]), (7, [1, 1, 0, 0, 0, 0, 0, 0, 0, 0, 46, 1, 1, 1, 1]), (12, [500]), (12, [500])]
def LY101 : List Lay := [(10, [3, 7, 12, 24, 26, 29, 34, 35, 1, 1]), (2, [4, 5, 6]), (12, [4]), (12, [16]), (12, [48]), (8, [0, 8, 9, 10, 11]), (12, [50]), (12, [50]), (12, [50]), (12, [150]), (5, [0, 13, 14, 15, 16, 17, 18, 19, 20, 21, 22, 23]), (12, [60]), (12, [60]), (12, [60]), (12, [60]), (12, [180]), (12, [60]), (12, [60]), (12, [60]), (12, [60]), (12, [60]), (12, [60]), (9, [25]), (12, [12]), (4, [0, 0, 27, 28]), (12, [3]), (12, [64]), (1, [7, 24, 26, 0, 0, 30, 31, 32, 33]), (12, [469]), (12, [469]), (12, [360]), (12, [6]), (6, [12, 26, 29]), (0, [12, 26, 29, 0, 0, 0, 36, 37, 38]), (12, [1969]), (12, [1969]), (12, [5]), (3, [3, 12, 24, 26, 0, 0, 0, 0, 0, 40, 41, 42, 43, 44]), (12, [469]), (12, [469]), (12, [6]), (12, [120]), (12, [469]), (7, [1, 1, 0, 0, 0, 0, 0, 0, 0, 0, 46, 47, 1, 1, 1]), (12, [500]), (12, [500])]
def LY102 : List Lay := [(10, [3, 7, 12, 24, 26, 29, 34, 35, 1, 1]), (2, [4, 5, 6]), (12, [4]), (12, [16]), (12, [48]), (8, [0, 8, 9, 10, 11]), (12, [50]), (12, [50]), (12, [50]), (12, [150]), (5, [0, 13, 14, 15, 16, 17, 18, 19, 20, 21, 22, 23]), (12, [60]), (12, [60]), (12, [60]), (12, [60]), (12, [180]), (12, [60]), (12, [60]), (12, [60]), (12, [60]), (12, [60]), (12, [60]), (9, [25]), (12, [12]), (4, [0, 0, 27, 28]), (12, [3]), (12, [64]), (1, [7, 24, 26, 0, 0, 30, 31, 32, 33]), (12, [469]), (12, [469]), (12, [360]), (12, [6]), (6, [12, 26, 29]), (0, [12, 26, 29, 0, 0, 0, 36, 37, 38]), (12, [1969]), (12, [1969]), (12, [5]), (3, [3, 12, 24, 26, 0, 0, 0, 0, 0, 40, 41, 42, 43, 44]), (12, [469]), (12, [469]), (12, [6]), (12, [120]), (12, [469]), (7, [1, 1, 0, 0, 0, 0, 0, 0, 0, 0, 46, 47, 1, 1, 1]), (12, [500]), (12, [500]), (12, [500])]
def LY103 : List Lay := [(10, [3, 7, 12, 24, 26, 29, 34, 35, 1, 1]), (2, [4, 5, 6]), (12, [4]), (12, [16]), (12, [48]), (8, [0, 8, 9, 10, 11]), (12, [50]), (12, [50]), (12, [50]), (12, [150]), (5, [0, 13, 14, 15, 16, 17, 18, 19, 20, 21, 22, 23]), (12, [60]), (12, [60]), (12, [60]), (12, [60]), (12, [180]), (12, [60]), (12, [60]), (12, [60]), (12, [60]), (12, [60]), (12, [60]), (9, [25]), (12, [12]), (4, [0, 0, 27, 28]), (12, [3]), (12, [64]), (1, [7, 24, 26, 0, 0, 30, 31, 32, 33]), (12, [469]), (12, [469]), (12, [360]), (12, [6]), (6, [12, 26, 29]), (0, [12, 26, 29, 0, 0, 0, 36, 37, 38]), (12, [1969]), (12, [1969]), (12, [5]), (3, [3, 12, 24, 26, 0, 0, 0, 0, 0, 40, 41, 42, 43, 44]), (12, [469]), (12, [469]), (12, [6]), (12, [120]), (12, [469]), (7, [1, 1, 0, 0, 0, 0, 0, 0, 0, 0, 46, 47, 48, 1, 1]), (12, [500]), (12, [500]), (12, [500])]
def LY104 : List Lay := [(10, [3, 7, 12, 24, 26, 29, 34, 35, 1, 1]), (2, [4, 5, 6]), (12, [4]), (12, [16]), (12, [48]), (8, [0, 8, 9, 10, 11]), (12, [50]), (12, [50]), (12, [50]), (12, [150]), (5, [0, 13, 14, 15, 16, 17, 18, 19, 20, 21, 22, 23]), (12, [60]), (12, [60]), (12, [60]), (12, [60]), (12, [180]), (12, [60]), (12, [60]), (12, [60]), (12, [60]), (12, [60]), (12, [60]), (9, [25]), (12, [12]), (4, [0, 0, 27, 28]), (12, [3]), (12, [64]), (1, [7, 24, 26, 0, 0, 30, 31, 32, 33]), (12, [469]), (12, [469]), (12, [360]), (12, [6]), (6, [12, 26, 29]), (0, [12, 26, 29, 0, 0, 0, 36, 37, 38]), (12, [1969]), (12, [1969]), (12, [5]), (3, [3, 12, 24, 26, 0, 0, 0, 0, 0, 40, 41, 42, 43, 44]), (12, [469]), (12, [469]), (12, [6]), (12, [120]), (12, [469]), (7, [1, 1, 0, 0, 0, 0, 0, 0, 0, 0, 46, 47, 48, 1, 1]), (12, [500]), (12, [500]), (12, [500]), (12, [500])]
def LY105 : List Lay := [(10, [3, 7, 12, 24, 26, 29, 34, 35, 1, 1]), (2, [4, 5, 6]), (12, [4]), (12, [16]), (12, [48]), (8, [0, 8, 9, 10, 11]), (12, [50]), (12, [50]), (12, [50]), (12, [150]), (5, [0, 13, 14, 15, 16, 17, 18, 19, 20, 21, 22, 23]), (12, [60]), (12, [60]), (12, [60]), (12, [60]), (12, [180]), (12, [60]), (12, [60]), (12, [60]), (12, [60]), (12, [60]), (12, [60]), (9, [25]), (12, [12]), (4, [0, 0, 27, 28]), (12, [3]), (12, [64]), (1, [7, 24, 26, 0, 0, 30, 31, 32, 33]), (12, [469]), (12, [469]), (12, [360]), (12, [6]), (6, [12, 26, 29]), (0, [12, 26, 29, 0, 0, 0, 36, 37, 38]), (12, [1969]), (12, [1969]), (12, [5]), (3, [3, 12, 24, 26, 0, 0, 0, 0, 0, 40, 41, 42, 43, 44]), (12, [469]), (12, [469]), (12, [6]), (12, [120]), (12, [469]), (7, [1, 1, 0, 0, 0, 0, 0, 0, 0, 0, 46, 47, 48, 49, 1]), (12, [500]), (12, [500]), (12, [500]), (12, [500])]
def LY106 : List Lay := [(10, [3, 7, 12, 24, 26, 29, 34, 35, 1, 1]), (2, [4, 5, 6]), (12, [4]), (12, [16]), (12, [48]), (8, [0, 8, 9, 10, 11]), (12, [50]), (12, [50]), (12, [50]), (12, [150]), (5, [0, 13, 14, 15, 16, 17, 18, 19, 20, 21, 22, 23]), (12, [60]), (12, [60]), (12, [60]), (12, [60]), (12, [180]), (12, [60]), (12, [60]), (12, [60]), (12, [60]), (12, [60]), (12, [60]), (9, [25]), (12, [12]), (4, [0, 0, 27, 28]), (12, [3]), (12, [64]), (1, [7, 24, 26, 0, 0, 30, 31, 32, 33]), (12, [469]), (12, [469]), (12, [360]), (12, [6]), (6, [12, 26, 29]), (0, [12, 26, 29, 0, 0, 0, 36, 37, 38]), (12, [1969]), (12, [1969]), (12, [5]), (3, [3, 12, 24, 26, 0, 0, 0, 0, 0, 40, 41, 42, 43, 44]), (12, [469]), (12, [469]), (12, [6]), (12, [120]), (12, [469]), (7, [1, 1, 0, 0, 0, 0, 0, 0, 0, 0, 46, 47, 48, 49, 1]), (12, [500]), (12, [500]), (12, [500]), (12, [500]), (12, [500])]
def LY107 : List Lay := [(10, [3, 7, 12, 24, 26, 29, 34, 35, 1, 1]), (2, [4, 5, 6]), (12, [4]), (12, [16]), (12, [48]), (8, [0, 8, 9, 10, 11]), (12, [50]), (12, [50]), (12, [50]), (12, [150]), (5, [0, 13, 14, 15, 16, 17, 18, 19, 20, 21, 22, 23]), (12, [60]), (12, [60]), (12, [60]), (12, [60]), (12, [180]), (12, [60]), (12, [60]), (12, [60]), (12, [60]), (12, [60]), (12, [60]), (9, [25]), (12, [12]), (4, [0, 0, 27, 28]), (12, [3]), (12, [64]), (1, [7, 24, 26, 0, 0, 30, 31, 32, 33]), (12, [469]), (12, [469]), (12, [360]), (12, [6]), (6, [12, 26, 29]), (0, [12, 26, 29, 0, 0, 0, 36, 37, 38]), (12, [1969]), (12, [1969]), (12, [5]), (3, [3, 12, 24, 26, 0, 0, 0, 0, 0, 40, 41, 42, 43, 44]), (12, [469]), (12, [469]), (12, [6]), (12, [120]), (12, [469]), (7, [1, 1, 0, 0, 0, 0, 0, 0, 0, 0, 46, 47, 48, 49, 50]), (12, [500]), (12, [500]), (12, [500]), (12, [500]), (12, [500])]
def LY108 : List Lay := [(10, [3, 7, 12, 24, 26, 29, 34, 35, 1, 1]), (2, [4, 5, 6]), (12, [4]), (12, [16]), (12, [48]), (8, [0, 8, 9, 10, 11]), (12, [50]), (12, [50]), (12, [50]), (12, [150]), (5, [0, 13, 14, 15, 16, 17, 18, 19, 20, 21, 22, 23]), (12, [60]), (12, [60]), (12, [60]), (12, [60]), (12, [180]), (12, [60]), (12, [60]), (12, [60]), (12, [60]), (12, [60]), (12, [60]), (9, [25]), (12, [12]), (4, [0, 0, 27, 28]), (12, [3]), (12, [64]), (1, [7, 24, 26, 0, 0, 30, 31, 32, 33]), (12, [469]), (12, [469]), (12, [360]), (12, [6]), (6, [12, 26, 29]), (0, [12, 26, 29, 0, 0, 0, 36, 37, 38]), (12, [1969]), (12, [1969]), (12, [5]), (3, [3, 12, 24, 26, 0, 0, 0, 0, 0, 40, 41, 42, 43, 44]), (12, [469]), (12, [469]), (12, [6]), (12, [120]), (12, [469]), (7, [39, 1, 0, 0, 0, 0, 0, 0, 0, 0, 46, 47, 48, 49, 50]), (12, [500]), (12, [500]), (12, [500]), (12, [500]), (12, [500])]
def LY109 : List Lay := [(10, [3, 7, 12, 24, 26, 29, 34, 35, 1, 1]), (2, [4, 5, 6]), (12, [4]), (12, [16]), (12, [48]), (8, [0, 8, 9, 10, 11]), (12, [50]), (12, [50]), (12, [50]), (12, [150]), (5, [0, 13, 14, 15, 16, 17, 18, 19, 20, 21, 22, 23]), (12, [60]), (12, [60]), (12, [60]), (12, [60]), (12, [180]), (12, [60]), (12, [60]), (12, [60]), (12, [60]), (12, [60]), (12, [60]), (9, [25]), (12, [12]), (4, [0, 0, 27, 28]), (12, [3]), (12, [64]), (1, [7, 24, 26, 0, 0, 30, 31, 32, 33]), (12, [469]), (12, [469]), (12, [360]), (12, [6]), (6, [12, 26, 29]), (0, [12, 26, 29, 0, 0, 0, 36, 37, 38]), (12, [1969]), (12, [1969]), (12, [5]), (3, [3, 12, 24, 26, 0, 0, 0, 0, 0, 40, 41, 42, 43, 44]), (12, [469]), (12, [469]), (12, [6]), (12, [120]), (12, [469]), (7, [39, 29, 0, 0, 0, 0, 0, 0, 0, 0, 46, 47, 48, 49, 50]), (12, [500]), (12, [500]), (12, [500]), (12, [500]), (12, [500])]
def I_X7_init_0 (σ : Sg) : Sg :=
bnd (up2 σ 43 3 0) fun s1 =>
bnd (up2 s1 43 4 0) fun s3 =>
bnd (up2 s3 43 5 0) fun s5 =>
bnd (up2 s5 43 6 (-1)) fun s7 =>
bnd (up2 s7 43 7 0) fun s9 =>
bnd (up2 s9 43 8 (-1)) fun s11 =>
bnd (up2 s11 43 9 0) fun s13 =>
bnd (fresh s13 44) fun s15 =>
bnd (fresh s15 45) fun s17 =>
bnd (fresh s17 46) fun s19 =>
bnd (fresh s19 47) fun s21 =>
bnd (fresh s21 48) fun s23 =>
bnd (up2 s23 43 2 0) fun s25 =>
s25
theorem ci_X7_init_0 (l : Launch) (d : Nat) (hd : 1 ≤ d) (σ q : Sg) (h : I_X7_init_0 σ = q) : CT l d m_X7_init.2.1 m_X7_init.2.2.1 m_X7_init.2.2.2.1 m_X7_init.2.2.2.2 [.inr 43, .inr 37, .inr 27, .inl 0] (LY97, σ) none (LY109, q) := by
  obtain ⟨d, rfl⟩ : ∃ e, d = e + 1 := ⟨d - 1, by omega⟩
  have key : Gi l m_X7_init (d + 1) LY97 LY109 q 0 [some (.inr 43), some (.inr 37), some (.inr 27), some (.inl 0)] [] LY97 σ := by
    unfold I_X7_init_0 at h
    refine gi_ops oki_X7_init_0_1 (L' := [some (.inr 43), some (.inr 37), some (.inr 27), some (.inl 0)]) (st' := [.inr 43]) (σ1 := σ) (by rfl) ?_
    refine gi_obj dci_X7_init_1 (by decide +kernel) (Nat.le_of_ble_eq_true rfl) (by omega) ?_
    refine gi_ops oki_X7_init_4_2 (L' := [some (.inr 43), some (.inr 37), some (.inr 27), some (.inl 0)]) (st' := [.inl 0, .inr 43]) (σ1 := σ) (by rfl) ?_
    obtain ⟨s1, e2, h⟩ := bnd_inv h
    refine gi_putI dci_X7_init_6 (by decide +kernel) (by decide) rfl rfl (Or.inr ⟨by decide +kernel, by decide⟩) (Or.inr ⟨by decide +kernel, rfl⟩) e2 ?_
    refine gi_ops oki_X7_init_9_2 (L' := [some (.inr 43), some (.inr 37), some (.inr 27), some (.inl 0)]) (st' := [.inl 0, .inr 43]) (σ1 := s1) (by rfl) ?_
    obtain ⟨s3, e4, h⟩ := bnd_inv h
    refine gi_putI dci_X7_init_11 (by decide +kernel) (by decide) rfl rfl (Or.inl (by decide +kernel)) (Or.inr ⟨by decide +kernel, rfl⟩) e4 ?_
    refine gi_ops oki_X7_init_14_2 (L' := [some (.inr 43), some (.inr 37), some (.inr 27), some (.inl 0)]) (st' := [.inl 0, .inr 43]) (σ1 := s3) (by rfl) ?_
    obtain ⟨s5, e6, h⟩ := bnd_inv h
    refine gi_putI dci_X7_init_16 (by decide +kernel) (by decide) rfl rfl (Or.inl (by decide +kernel)) (Or.inr ⟨by decide +kernel, rfl⟩) e6 ?_
    refine gi_ops oki_X7_init_19_2 (L' := [some (.inr 43), some (.inr 37), some (.inr 27), some (.inl 0)]) (st' := [.inl (-1), .inr 43]) (σ1 := s5) (by rfl) ?_
    obtain ⟨s7, e8, h⟩ := bnd_inv h
    refine gi_putI dci_X7_init_21 (by decide +kernel) (by decide) rfl rfl (Or.inl (by decide +kernel)) (Or.inr ⟨by decide +kernel, rfl⟩) e8 ?_
    refine gi_ops oki_X7_init_24_2 (L' := [some (.inr 43), some (.inr 37), some (.inr 27), some (.inl 0)]) (st' := [.inl 0, .inr 43]) (σ1 := s7) (by rfl) ?_
    obtain ⟨s9, e10, h⟩ := bnd_inv h
    refine gi_putI dci_X7_init_26 (by decide +kernel) (by decide) rfl rfl (Or.inl (by decide +kernel)) (Or.inr ⟨by decide +kernel, rfl⟩) e10 ?_
    refine gi_ops oki_X7_init_29_2 (L' := [some (.inr 43), some (.inr 37), some (.inr 27), some (.inl 0)]) (st' := [.inl (-1), .inr 43]) (σ1 := s9) (by rfl) ?_
    obtain ⟨s11, e12, h⟩ := bnd_inv h
    refine gi_putI dci_X7_init_31 (by decide +kernel) (by decide) rfl rfl (Or.inl (by decide +kernel)) (Or.inr ⟨by decide +kernel, rfl⟩) e12 ?_
    refine gi_ops oki_X7_init_34_2 (L' := [some (.inr 43), some (.inr 37), some (.inr 27), some (.inl 0)]) (st' := [.inl 0, .inr 43]) (σ1 := s11) (by rfl) ?_
    obtain ⟨s13, e14, h⟩ := bnd_inv h
    refine gi_putI dci_X7_init_36 (by decide +kernel) (by decide) rfl rfl (Or.inl (by decide +kernel)) (Or.inr ⟨by decide +kernel, rfl⟩) e14 ?_
    refine gi_ops oki_X7_init_39_2 (L' := [some (.inr 43), some (.inr 37), some (.inr 27), some (.inl 0)]) (st' := [.inl 500, .inr 43]) (σ1 := s13) (by rfl) ?_
    obtain ⟨s15, e16, h⟩ := bnd_inv h
    refine gi_newI (lay' := LY98) dci_X7_init_43 (by decide) (by decide +kernel) (by rfl) e16 ?_
    refine gi_putR (sl := 10) (lay' := LY99) dci_X7_init_45 (by decide +kernel) (by decide) rfl (by decide) (by decide +kernel) (Or.inr ⟨by decide +kernel, rfl⟩) (by rfl) ?_
    refine gi_ops oki_X7_init_48_2 (L' := [some (.inr 43), some (.inr 37), some (.inr 27), some (.inl 0)]) (st' := [.inl 500, .inr 43]) (σ1 := s15) (by rfl) ?_
    obtain ⟨s17, e18, h⟩ := bnd_inv h
    refine gi_newI (lay' := LY100) dci_X7_init_52 (by decide) (by decide +kernel) (by rfl) e18 ?_
    refine gi_putR (sl := 11) (lay' := LY101) dci_X7_init_54 (by decide +kernel) (by decide) rfl (by decide) (by decide +kernel) (Or.inr ⟨by decide +kernel, rfl⟩) (by rfl) ?_
    refine gi_ops oki_X7_init_57_2 (L' := [some (.inr 43), some (.inr 37), some (.inr 27), some (.inl 0)]) (st' := [.inl 500, .inr 43]) (σ1 := s17) (by rfl) ?_
    obtain ⟨s19, e20, h⟩ := bnd_inv h
    refine gi_newI (lay' := LY102) dci_X7_init_61 (by decide) (by decide +kernel) (by rfl) e20 ?_
    refine gi_putR (sl := 12) (lay' := LY103) dci_X7_init_63 (by decide +kernel) (by decide) rfl (by decide) (by decide +kernel) (Or.inr ⟨by decide +kernel, rfl⟩) (by rfl) ?_
    refine gi_ops oki_X7_init_66_2 (L' := [some (.inr 43), some (.inr 37), some (.inr 27), some (.inl 0)]) (st' := [.inl 500, .inr 43]) (σ1 := s19) (by rfl) ?_
    obtain ⟨s21, e22, h⟩ := bnd_inv h
    refine gi_newI (lay' := LY104) dci_X7_init_70 (by decide) (by decide +kernel) (by rfl) e22 ?_
    refine gi_putR (sl := 13) (lay' := LY105) dci_X7_init_72 (by decide +kernel) (by decide) rfl (by decide) (by decide +kernel) (Or.inr ⟨by decide +kernel, rfl⟩) (by rfl) ?_
    refine gi_ops oki_X7_init_75_2 (L' := [some (.inr 43), some (.inr 37), some (.inr 27), some (.inl 0)]) (st' := [.inl 500, .inr 43]) (σ1 := s21) (by rfl) ?_
    obtain ⟨s23, e24, h⟩ := bnd_inv h
    refine gi_newI (lay' := LY106) dci_X7_init_79 (by decide) (by decide +kernel) (by rfl) e24 ?_
    refine gi_putR (sl := 14) (lay' := LY107) dci_X7_init_81 (by decide +kernel) (by decide) rfl (by decide) (by decide +kernel) (Or.inr ⟨by decide +kernel, rfl⟩) (by rfl) ?_
    refine gi_ops oki_X7_init_84_2 (L' := [some (.inr 43), some (.inr 37), some (.inr 27), some (.inl 0)]) (st' := [.inr 37, .inr 43]) (σ1 := s23) (by rfl) ?_
    refine gi_putR (sl := 0) (lay' := LY108) dci_X7_init_86 (by decide +kernel) (by decide) rfl (by decide) (by decide +kernel) (Or.inr ⟨by decide +kernel, rfl⟩) (by rfl) ?_
    refine gi_ops oki_X7_init_89_2 (L' := [some (.inr 43), some (.inr 37), some (.inr 27), some (.inl 0)]) (st' := [.inr 27, .inr 43]) (σ1 := s23) (by rfl) ?_
    refine gi_putR (sl := 1) (lay' := LY109) dci_X7_init_91 (by decide +kernel) (by decide) rfl (by decide) (by decide +kernel) (Or.inr ⟨by decide +kernel, rfl⟩) (by rfl) ?_
    refine gi_ops oki_X7_init_94_2 (L' := [some (.inr 43), some (.inr 37), some (.inr 27), some (.inl 0)]) (st' := [.inl 0, .inr 43]) (σ1 := s23) (by rfl) ?_
    obtain ⟨s25, e26, h⟩ := bnd_inv h
    refine gi_putI dci_X7_init_96 (by decide +kernel) (by decide) rfl rfl (Or.inr ⟨by decide +kernel, by decide⟩) (Or.inr ⟨by decide +kernel, rfl⟩) e26 ?_
    subst h
    exact gi_vret dci_X7_init_99 rfl
  exact gi_ct (as := [.inr 43, .inr 37, .inr 27, .inl 0]) mk_X7_init (by rfl) (Nat.le_of_ble_eq_true rfl) key
def LY110 : List Lay := [(10, [3, 7, 12, 24, 26, 29, 34, 35, 45, 1]), (2, [4, 5, 6]), (12, [4]), (12, [16]), (12, [48]), (8, [0, 8, 9, 10, 11]), (12, [50]), (12, [50]), (12, [50]), (12, [150]), (5, [0, 13, 14, 15, 16, 17, 18, 19, 20, 21, 22, 23]), (12, [60]), (12, [60]), (12, [60]), (12, [60]), (12, [180]), (12, [60]), (12, [60]), (12, [60]), (12, [60]), (12, [60]), (12, [60]), (9, [25]), (12, [12]), (4, [0, 0, 27, 28]), (12, [3]), (12, [64]), (1, [7, 24, 26, 0, 0, 30, 31, 32, 33]), (12, [469]), (12, [469]), (12, [360]), (12, [6]), (6, [12, 26, 29]), (0, [12, 26, 29, 0, 0, 0, 36, 37, 38]), (12, [1969]), (12, [1969]), (12, [5]), (3, [3, 12, 24, 26, 0, 0, 0, 0, 0, 40, 41, 42, 43, 44]), (12, [469]), (12, [469]), (12, [6]), (12, [120]), (12, [469]), (7, [39, 29, 0, 0, 0, 0, 0, 0, 0, 0, 46, 47, 48, 49, 50]), (12, [500]), (12, [500]), (12, [500]), (12, [500]), (12, [500])]
def LY111 : List Lay := [(10, [3, 7, 12, 24, 26, 29, 34, 35, 45, 1]), (2, [4, 5, 6]), (12, [4]), (12, [16]), (12, [48]), (8, [0, 8, 9, 10, 11]), (12, [50]), (12, [50]), (12, [50]), (12, [150]), (5, [0, 13, 14, 15, 16, 17, 18, 19, 20, 21, 22, 23]), (12, [60]), (12, [60]), (12, [60]), (12, [60]), (12, [180]), (12, [60]), (12, [60]), (12, [60]), (12, [60]), (12, [60]), (12, [60]), (9, [25]), (12, [12]), (4, [0, 0, 27, 28]), (12, [3]), (12, [64]), (1, [7, 24, 26, 0, 0, 30, 31, 32, 33]), (12, [469]), (12, [469]), (12, [360]), (12, [6]), (6, [12, 26, 29]), (0, [12, 26, 29, 0, 0, 0, 36, 37, 38]), (12, [1969]), (12, [1969]), (12, [5]), (3, [3, 12, 24, 26, 0, 0, 0, 0, 0, 40, 41, 42, 43, 44]), (12, [469]), (12, [469]), (12, [6]), (12, [120]), (12, [469]), (7, [39, 29, 0, 0, 0, 0, 0, 0, 0, 0, 46, 47, 48, 49, 50]), (12, [500]), (12, [500]), (12, [500]), (12, [500]), (12, [500]), (7, [1, 1, 0, 0, 0, 0, 0, 0, 0, 0, 1, 1, 1, 1, 1])]
def LY112 : List Lay := [(10, [3, 7, 12, 24, 26, 29, 34, 35, 45, 1]), (2, [4, 5, 6]), (12, [4]), (12, [16]), (12, [48]), (8, [0, 8, 9, 10, 11]), (12, [50]), (12, [50]), (12, [50]), (12, [150]), (5, [0, 13, 14, 15, 16, 17, 18, 19, 20, 21, 22, 23]), (12, [60]), (12, [60]), (12, [60]), (12, [60]), (12, [180]), (12, [60]), (12, [60]), (12, [60]), (12, [60]), (12, [60]), (12, [60]), (9, [25]), (12, [12]), (4, [0, 0, 27, 28]), (12, [3]), (12, [64]), (1, [7, 24, 26, 0, 0, 30, 31, 32, 33]), (12, [469]), (12, [469]), (12, [360]), (12, [6]), (6, [12, 26, 29]), (0, [12, 26, 29, 0, 0, 0, 36, 37, 38]), (12, [1969]), (12, [1969]), (12, [5]), (3, [3, 12, 24, 26, 0, 0, 0, 0, 0, 40, 41, 42, 43, 44]), (12, [469]), (12, [469]), (12, [6]), (12, [120]), (12, [469]), (7, [39, 29, 0, 0, 0, 0, 0, 0, 0, 0, 46, 47, 48, 49, 50]), (12, [500]), (12, [500]), (12, [500]), (12, [500]), (12, [500]), (7, [1, 1, 0, 0, 0, 0, 0, 0, 0, 0, 1, 1, 1, 1, 1]), (12, [500])]
def LY113 : List Lay := [(10, [3, 7, 12, 24, 26, 29, 34, 35, 45, 1]), (2, [4, 5, 6]), (12, [4]), (12, [16]), (12, [48]), (8, [0, 8, 9, 10, 11]), (12, [50]), (12, [50]), (12, [50]), (12, [150]), (5, [0, 13, 14, 15, 16, 17, 18, 19, 20, 21, 22, 23]), (12, [60]), (12, [60]), (12, [60]), (12, [60]), (12, [180]), (12, [60]), (12, [60]), (12, [60]), (12, [60]), (12, [60]), (12, [60]), (9, [25]), (12, [12]), (4, [0, 0, 27, 28]), (12, [3]), (12, [64]), (1, [7, 24, 26, 0, 0, 30, 31, 32, 33]), (12, [469]), (12, [469]), (12, [360]), (12, [6]), (6, [12, 26, 29]), (0, [12, 26, 29, 0, 0, 0, 36, 37, 38]), (12, [1969]), (12, [1969]), (12, [5]), (3, [3, 12, 24, 26, 0, 0, 0, 0, 0, 40, 41, 42, 43, 44]), (12, [469]), (12, [469]), (12, [6]), (12, [120]), (12, [469]), (7, [39, 29, 0, 0, 0, 0, 0, 0, 0, 0, 46, 47, 48, 49, 50]), (12, [500]), (12, [500]), (12, [500]), (12, [500]), (12, [500]), (7, [1, 1, 0, 0, 0, 0, 0, 0, 0, 0, 52, 1, 1, 1, 1]), (12, [500])]
def LY114 : List Lay := [(10, [3, 7, 12, 24, 26, 29, 34, 35, 45, 1]), (2, [4, 5, 6]), (12, [4]), (12, [16]), (12, [48]), (8, [0, 8, 9, 10, 11]), (12, [50]), (12, [50]), (12, [50]), (12, [150]), (5, [0, 13, 14, 15, 16, 17, 18, 19, 20, 21, 22, 23]), (12, [60]), (12, [60]), (12, [60]), (12, [60]), (12, [180]), (12, [60]), (12, [60]), (12, [60]), (12, [60]), (12, [60]), (12, [60]), (9, [25]), (12, [12]), (4, [0, 0, 27, 28]), (12, [3]), (12, [64]), (1, [7, 24, 26, 0, 0, 30, 31, 32, 33]), (12, [469]), (12, [469]), (12, [360]), (12, [6]), (6, [12, 26, 29]), (0, [12, 26, 29, 0, 0, 0, 36, 37, 38]), (12, [1969]), (12, [1969]), (12, [5]), (3, [3, 12, 24, 26, 0, 0, 0, 0, 0, 40, 41, 42, 43, 44]), (12, [469]), (12, [469]), (12, [6]), (12, [120]), (12, [469]), (7, [39, 29, 0, 0, 0, 0, 0, 0, 0, 0, 46, 47, 48, 49, 50]), (12, [500]), (12, [500]), (12, [500]), (12, [500]), (12, [500]), (7, [1, 1, 0, 0, 0, 0, 0, 0, 0, 0, 52, 1, 1, 1, 1]), (12, [500]), (12, [500])]
def LY115 : List Lay := [(10, [3, 7, 12, 24, 26, 29, 34, 35, 45, 1]), (2, [4, 5, 6]), (12, [4]), (12, [16]), (12, [48]), (8, [0, 8, 9, 10, 11]), (12, [50]), (12, [50]), (12, [50]), (12, [150]), (5, [0, 13, 14, 15, 16, 17, 18, 19, 20, 21, 22, 23]), (12, [60]), (12, [60]), (12, [60]), (12, [60]), (12, [180]), (12, [60]), (12, [60]), (12, [60]), (12, [60]), (12, [60]), (12, [60]), (9, [25]), (12, [12]), (4, [0, 0, 27, 28]), (12, [3]), (12, [64]), (1, [7, 24, 26, 0, 0, 30, 31, 32, 33]), (12, [469]), (12, [469]), (12, [360]), (12, [6]), (6, [12, 26, 29]), (0, [12, 26, 29, 0, 0, 0, 36, 37, 38]), (12, [1969]), (12, [1969]), (12, [5]), (3, [3, 12, 24, 26, 0, 0, 0, 0, 0, 40, 41, 42, 43, 44]), (12, [469]), (12, [469]), (12, [6]), (12, [120]), (12, [469]), (7, [39, 29, 0, 0, 0, 0, 0, 0, 0, 0, 46, 47, 48, 49, 50]), (12, [500]), (12, [500]), (12, [500]), (12, [500]), (12, [500]), (7, [1, 1, 0, 0, 0, 0, 0, 0, 0, 0, 52, 53, 1, 1, 1]), (12, [500]), (12, [500])]
def LY116 : List Lay := [(10, [3, 7, 12, 24, 26, 29, 34, 35, 45, 1]), (2, [4, 5, 6]), (12, [4]), (12, [16]), (12, [48]), (8, [0, 8, 9, 10, 11]), (12, [50]), (12, [50]), (12, [50]), (12, [150]), (5, [0, 13, 14, 15, 16, 17, 18, 19, 20, 21, 22, 23]), (12, [60]), (12, [60]), (12, [60]), (12, [60]), (12, [180]), (12, [60]), (12, [60]), (12, [60]), (12, [60]), (12, [60]), (12, [60]), (9, [25]), (12, [12]), (4, [0, 0, 27, 28]), (12, [3]), (12, [64]), (1, [7, 24, 26, 0, 0, 30, 31, 32, 33]), (12, [469]), (12, [469]), (12, [360]), (12, [6]), (6, [12, 26, 29]), (0, [12, 26, 29, 0, 0, 0, 36, 37, 38]), (12, [1969]), (12, [1969]), (12, [5]), (3, [3, 12, 24, 26, 0, 0, 0, 0, 0, 40, 41, 42, 43, 44]), (12, [469]), (12, [469]), (12, [6]), (12, [120]), (12, [469]), (7, [39, 29, 0, 0, 0, 0, 0, 0, 0, 0, 46, 47, 48, 49, 50]), (12, [500]), (12, [500]), (12, [500]), (12, [500]), (12, [500]), (7, [1, 1, 0, 0, 0, 0, 0, 0, 0, 0, 52, 53, 1, 1, 1]), (12, [500]), (12, [500]), (12, [500])]
def LY117 : List Lay := [(10, [3, 7, 12, 24, 26, 29, 34, 35, 45, 1]), (2, [4, 5, 6]), (12, [4]), (12, [16]), (12, [48]), (8, [0, 8, 9, 10, 11]), (12, [50]), (12, [50]), (12, [50]), (12, [150]), (5, [0, 13, 14, 15, 16, 17, 18, 19, 20, 21, 22, 23]), (12, [60]), (12, [60]), (12, [60]), (12, [60]), (12, [180]), (12, [60]), (12, [60]), (12, [60]), (12, [60]), (12, [60]), (12, [60]), (9, [25]), (12, [12]), (4, [0, 0, 27, 28]), (12, [3]), (12, [64]), (1, [7, 24, 26, 0, 0, 30, 31, 32, 33]), (12, [469]), (12, [469]), (12, [360]), (12, [6]), (6, [12, 26, 29]), (0, [12, 26, 29, 0, 0, 0, 36, 37, 38]), (12, [1969]), (12, [1969]), (12, [5]), (3, [3, 12, 24, 26, 0, 0, 0, 0, 0, 40, 41, 42, 43, 44]), (12, [469]), (12, [469]), (12, [6]), (12, [120]), (12, [469]), (7, [39, 29, 0, 0, 0, 0, 0, 0, 0, 0, 46, 47, 48, 49, 50]), (12, [500]), (12, [500]), (12, [500]), (12, [500]), (12, [500]), (7, [1, 1, 0, 0, 0, 0, 0, 0, 0, 0, 52, 53, 54, 1, 1]), (12, [500]), (12, [500]), (12, [500])]
def LY118 : List Lay := [(10, [3, 7, 12, 24, 26, 29, 34, 35, 45, 1]), (2, [4, 5, 6]), (12, [4]), (12, [16]), (12, [48]), (8, [0, 8, 9, 10, 11]), (12, [50]), (12, [50]), (12, [50]), (12, [150]), (5, [0, 13, 14, 15, 16, 17, 18, 19, 20, 21, 22, 23]), (12, [60]), (12, [60]), (12, [60]), (12, [60]), (12, [180]), (12, [60]), (12, [60]), (12, [60]), (12, [60]), (12, [60]), (12, [60]), (9, [25]), (12, [12]), (4, [0, 0, 27, 28]), (12, [3]), (12, [64]), (1, [7, 24, 26, 0, 0, 30, 31, 32, 33]), (12, [469]), (12, [469]), (12, [360]), (12, [6]), (6, [12, 26, 29]), (0, [12, 26, 29, 0, 0, 0, 36, 37, 38]), (12, [1969]), (12, [1969]), (12, [5]), (3, [3, 12, 24, 26, 0, 0, 0, 0, 0, 40, 41, 42, 43, 44]), (12, [469]), (12, [469]), (12, [6]), (12, [120]), (12, [469]), (7, [39, 29, 0, 0, 0, 0, 0, 0, 0, 0, 46, 47, 48, 49, 50]), (12, [500]), (12, [500]), (12, [500]), (12, [500]), (12, [500]), (7, [1, 1, 0, 0, 0, 0, 0, 0, 0, 0, 52, 53, 54, 1, 1]), (12, [500]), (12, [500]), (12, [500]), (12, [500])]
def LY119 : List Lay := [(10, [3, 7, 12, 24, 26, 29, 34, 35, 45, 1]), (2, [4, 5, 6]), (12, [4]), (12, [16]), (12, [48]), (8, [0, 8, 9, 10, 11]), (12, [50]), (12, [50]), (12, [50]), (12, [150]), (5, [0, 13, 14, 15, 16, 17, 18, 19, 20, 21, 22, 23]), (12, [60]), (12, [60]), (12, [60]), (12, [60]), (12, [180]), (12, [60]), (12, [60]), (12, [60]), (12, [60]), (12, [60]), (12, [60]), (9, [25]), (12, [12]), (4, [0, 0, 27, 28]), (12, [3]), (12, [64]), (1, [7, 24, 26, 0, 0, 30, 31, 32, 33]), (12, [469]), (12, [469]), (12, [360]), (12, [6]), (6, [12, 26, 29]), (0, [12, 26, 29, 0, 0, 0, 36, 37, 38]), (12, [1969]), (12, [1969]), (12, [5]), (3, [3, 12, 24, 26, 0, 0, 0, 0, 0, 40, 41, 42, 43, 44]), (12, [469]), (12, [469]), (12, [6]), (12, [120]), (12, [469]), (7, [39, 29, 0, 0, 0, 0, 0, 0, 0, 0, 46, 47, 48, 49, 50]), (12, [500]), (12, [500]), (12, [500]), (12, [500]), (12, [500]), (7, [1, 1, 0, 0, 0, 0, 0, 0, 0, 0, 52, 53, 54, 55, 1]), (12, [500]), (12, [500]), (12, [500]), (12, [500])]
def LY120 : List Lay := [(10, [3, 7, 12, 24, 26, 29, 34, 35, 45, 1]), (2, [4, 5, 6]), (12, [4]), (12, [16]), (12, [48]), (8, [0, 8, 9, 10, 11]), (12, [50]), (12, [50]), (12, [50]), (12, [150]), (5, [0, 13, 14, 15, 16, 17, 18, 19, 20, 21, 22, 23]), (12, [60]), (12, [60]), (12, [60]), (12, [60]), (12, [180]), (12, [60]), (12, [60]), (12, [60]), (12, [60]), (12, [60]), (12, [60]), (9, [25]), (12, [12]), (4, [0, 0, 27, 28]), (12, [3]), (12, [64]), (1, [7, 24, 26, 0, 0, 30, 31, 32, 33]), (12, [469]), (12, [469]), (12, [360]), (12, [6]), (6, [12, 26, 29]), (0, [12, 26, 29, 0, 0, 0, 36, 37, 38]), (12, [1969]), (12, [1969]), (12, [5]), (3, [3, 12, 24, 26, 0, 0, 0, 0, 0, 40, 41, 42, 43, 44]), (12, [469]), (12, [469]), (12, [6]), (12, [120]), (12, [469]), (7, [39, 29, 0, 0, 0, 0, 0, 0, 0, 0, 46, 47, 48, 49, 50]), (12, [500]), (12, [500]), (12, [500]), (12, [500]), (12, [500]), (7, [1, 1, 0, 0, 0, 0, 0, 0, 0, 0, 52, 53, 54, 55, 1]), (12, [500]), (12, [500]), (12, [500]), (12, [500]), (12, [500])]
def LY121 : List Lay := [(10, [3, 7, 12, 24, 26, 29, 34, 35, 45, 1]), (2, [4, 5, 6]), (12, [4]), (12, [16]), (12, [48]), (8, [0, 8, 9, 10, 11]), (12, [50]), (12, [50]), (12, [50]), (12, [150]), (5, [0, 13, 14, 15, 16, 17, 18, 19, 20, 21, 22, 23]), (12, [60]), (12, [60]), (12, [60]), (12, [60]), (12, [180]), (12, [60]), (12, [60]), (12, [60]), (12, [60]), (12, [60]), (12, [60]), (9, [25]), (12, [12]), (4, [0, 0, 27, 28]), (12, [3]), (12, [64]), (1, [7, 24, 26, 0, 0, 30, 31, 32, 33]), (12, [469]), (12, [469]), (12, [360]), (12, [6]), (6, [12, 26, 29]), (0, [12, 26, 29, 0, 0, 0, 36, 37, 38]), (12, [1969]), (12, [1969]), (12, [5]), (3, [3, 12, 24, 26, 0, 0, 0, 0, 0, 40, 41, 42, 43, 44]), (12, [469]), (12, [469]), (12, [6]), (12, [120]), (12, [469]), (7, [39, 29, 0, 0, 0, 0, 0, 0, 0, 0, 46, 47, 48, 49, 50]), (12, [500]), (12, [500]), (12, [500]), (12, [500]), (12, [500]), (7, [1, 1, 0, 0, 0, 0, 0, 0, 0, 0, 52, 53, 54, 55, 56]), (12, [500]), (12, [500]), (12, [500]), (12, [500]), (12, [500])]
def LY122 : List Lay := [(10, [3, 7, 12, 24, 26, 29, 34, 35, 45, 1]), (2, [4, 5, 6]), (12, [4]), (12, [16]), (12, [48]), (8, [0, 8, 9, 10, 11]), (12, [50]), (12, [50]), (12, [50]), (12, [150]), (5, [0, 13, 14, 15, 16, 17, 18, 19, 20, 21, 22, 23]), (12, [60]), (12, [60]), (12, [60]), (12, [60]), (12, [180]), (12, [60]), (12, [60]), (12, [60]), (12, [60]), (12, [60]), (12, [60]), (9, [25]), (12, [12]), (4, [0, 0, 27, 28]), (12, [3]), (12, [64]), (1, [7, 24, 26, 0, 0, 30, 31, 32, 33]), (12, [469]), (12, [469]), (12, [360]), (12, [6]), (6, [12, 26, 29]), (0, [12, 26, 29, 0, 0, 0, 36, 37, 38]), (12, [1969]), (12, [1969]), (12, [5]), (3, [3, 12, 24, 26, 0, 0, 0, 0, 0, 40, 41, 42, 43, 44]), (12, [469]), (12, [469]), (12, [6]), (12, [120]), (12, [469]), (7, [39, 29, 0, 0, 0, 0, 0, 0, 0, 0, 46, 47, 48, 49, 50]), (12, [500]), (12, [500]), (12, [500]), (12, [500]), (12, [500]), (7, [39, 1, 0, 0, 0, 0, 0, 0, 0, 0, 52, 53, 54, 55, 56]), (12, [500]), (12, [500]), (12, [500]), (12, [500]), (12, [500])]
def LY123 : List Lay := [(10, [3, 7, 12, 24, 26, 29, 34, 35, 45, 1]), (2, [4, 5, 6]), (12, [4]), (12, [16]), (12, [48]), (8, [0, 8, 9, 10, 11]), (12, [50]), (12, [50]), (12, [50]), (12, [150]), (5, [0, 13, 14, 15, 16, 17, 18, 19, 20, 21, 22, 23]), (12, [60]), (12, [60]), (12, [60]), (12, [60]), (12, [180]), (12, [60]), (12, [60]), (12, [60]), (12, [60]), (12, [60]), (12, [60]), (9, [25]), (12, [12]), (4, [0, 0, 27, 28]), (12, [3]), (12, [64]), (1, [7, 24, 26, 0, 0, 30, 31, 32, 33]), (12, [469]), (12, [469]), (12, [360]), (12, [6]), (6, [12, 26, 29]), (0, [12, 26, 29, 0, 0, 0, 36, 37, 38]), (12, [1969]), (12, [1969]), (12, [5]), (3, [3, 12, 24, 26, 0, 0, 0, 0, 0, 40, 41, 42, 43, 44]), (12, [469]), (12, [469]), (12, [6]), (12, [120]), (12, [469]), (7, [39, 29, 0, 0, 0, 0, 0, 0, 0, 0, 46, 47, 48, 49, 50]), (12, [500]), (12, [500]), (12, [500]), (12, [500]), (12, [500]), (7, [39, 29, 0, 0, 0, 0, 0, 0, 0, 0, 52, 53, 54, 55, 56]), (12, [500]), (12, [500]), (12, [500]), (12, [500]), (12, [500])]
def I_X7_init_1 (σ : Sg) : Sg :=
bnd (up2 σ 49 3 0) fun s1 =>
bnd (up2 s1 49 4 0) fun s3 =>
bnd (up2 s3 49 5 0) fun s5 =>
bnd (up2 s5 49 6 (-1)) fun s7 =>
bnd (up2 s7 49 7 0) fun s9 =>
bnd (up2 s9 49 8 (-1)) fun s11 =>
bnd (up2 s11 49 9 0) fun s13 =>
bnd (fresh s13 50) fun s15 =>
bnd (fresh s15 51) fun s17 =>
bnd (fresh s17 52) fun s19 =>
bnd (fresh s19 53) fun s21 =>
bnd (fresh s21 54) fun s23 =>
bnd (up2 s23 49 2 1) fun s25 =>
s25
theorem ci_X7_init_1 (l : Launch) (d : Nat) (hd : 1 ≤ d) (σ q : Sg) (h : I_X7_init_1 σ = q) : CT l d m_X7_init.2.1 m_X7_init.2.2.1 m_X7_init.2.2.2.1 m_X7_init.2.2.2.2 [.inr 49, .inr 37, .inr 27, .inl 1] (LY111, σ) none (LY123, q) := by
  obtain ⟨d, rfl⟩ : ∃ e, d = e + 1 := ⟨d - 1, by omega⟩
  have key : Gi l m_X7_init (d + 1) LY111 LY123 q 0 [some (.inr 49), some (.inr 37), some (.inr 27), some (.inl 1)] [] LY111 σ := by
    unfold I_X7_init_1 at h
    refine gi_ops oki_X7_init_0_1 (L' := [some (.inr 49), some (.inr 37), some (.inr 27), some (.inl 1)]) (st' := [.inr 49]) (σ1 := σ) (by rfl) ?_
    refine gi_obj dci_X7_init_1 (by decide +kernel) (Nat.le_of_ble_eq_true rfl) (by omega) ?_
    refine gi_ops oki_X7_init_4_2 (L' := [some (.inr 49), some (.inr 37), some (.inr 27), some (.inl 1)]) (st' := [.inl 0, .inr 49]) (σ1 := σ) (by rfl) ?_
    obtain ⟨s1, e2, h⟩ := bnd_inv h
    refine gi_putI dci_X7_init_6 (by decide +kernel) (by decide) rfl rfl (Or.inr ⟨by decide +kernel, by decide⟩) (Or.inr ⟨by decide +kernel, rfl⟩) e2 ?_
    refine gi_ops oki_X7_init_9_2 (L' := [some (.inr 49), some (.inr 37), some (.inr 27), some (.inl 1)]) (st' := [.inl 0, .inr 49]) (σ1 := s1) (by rfl) ?_
    obtain ⟨s3, e4, h⟩ := bnd_inv h
    refine gi_putI dci_X7_init_11 (by decide +kernel) (by decide) rfl rfl (Or.inl (by decide +kernel)) (Or.inr ⟨by decide +kernel, rfl⟩) e4 ?_
    refine gi_ops oki_X7_init_14_2 (L' := [some (.inr 49), some (.inr 37), some (.inr 27), some (.inl 1)]) (st' := [.inl 0, .inr 49]) (σ1 := s3) (by rfl) ?_
    obtain ⟨s5, e6, h⟩ := bnd_inv h
    refine gi_putI dci_X7_init_16 (by decide +kernel) (by decide) rfl rfl (Or.inl (by decide +kernel)) (Or.inr ⟨by decide +kernel, rfl⟩) e6 ?_
    refine gi_ops oki_X7_init_19_2 (L' := [some (.inr 49), some (.inr 37), some (.inr 27), some (.inl 1)]) (st' := [.inl (-1), .inr 49]) (σ1 := s5) (by rfl) ?_
    obtain ⟨s7, e8, h⟩ := bnd_inv h
    refine gi_putI dci_X7_init_21 (by decide +kernel) (by decide) rfl rfl (Or.inl (by decide +kernel)) (Or.inr ⟨by decide +kernel, rfl⟩) e8 ?_
    refine gi_ops oki_X7_init_24_2 (L' := [some (.inr 49), some (.inr 37), some (.inr 27), some (.inl 1)]) (st' := [.inl 0, .inr 49]) (σ1 := s7) (by rfl) ?_
    obtain ⟨s9, e10, h⟩ := bnd_inv h
    refine gi_putI dci_X7_init_26 (by decide +kernel) (by decide) rfl rfl (Or.inl (by decide +kernel)) (Or.inr ⟨by decide +kernel, rfl⟩) e10 ?_
    refine gi_ops oki_X7_init_29_2 (L' := [some (.inr 49), some (.inr 37), some (.inr 27), some (.inl 1)]) (st' := [.inl (-1), .inr 49]) (σ1 := s9) (by rfl) ?_
    obtain ⟨s11, e12, h⟩ := bnd_inv h
    refine gi_putI dci_X7_init_31 (by decide +kernel) (by decide) rfl rfl (Or.inl (by decide +kernel)) (Or.inr ⟨by decide +kernel, rfl⟩) e12 ?_
    refine gi_ops oki_X7_init_34_2 (L' := [some (.inr 49), some (.inr 37), some (.inr 27), some (.inl 1)]) (st' := [.inl 0, .inr 49]) (σ1 := s11) (by rfl) ?_
    obtain ⟨s13, e14, h⟩ := bnd_inv h
    refine gi_putI dci_X7_init_36 (by decide +kernel) (by decide) rfl rfl (Or.inl (by decide +kernel)) (Or.inr ⟨by decide +kernel, rfl⟩) e14 ?_
    refine gi_ops oki_X7_init_39_2 (L' := [some (.inr 49), some (.inr 37), some (.inr 27), some (.inl 1)]) (st' := [.inl 500, .inr 49]) (σ1 := s13) (by rfl) ?_
    obtain ⟨s15, e16, h⟩ := bnd_inv h
    refine gi_newI (lay' := LY112) dci_X7_init_43 (by decide) (by decide +kernel) (by rfl) e16 ?_
    refine gi_putR (sl := 10) (lay' := LY113) dci_X7_init_45 (by decide +kernel) (by decide) rfl (by decide) (by decide +kernel) (Or.inr ⟨by decide +kernel, rfl⟩) (by rfl) ?_
    refine gi_ops oki_X7_init_48_2 (L' := [some (.inr 49), some (.inr 37), some (.inr 27), some (.inl 1)]) (st' := [.inl 500, .inr 49]) (σ1 := s15) (by rfl) ?_
    obtain ⟨s17, e18, h⟩ := bnd_inv h
    refine gi_newI (lay' := LY114) dci_X7_init_52 (by decide) (by decide +kernel) (by rfl) e18 ?_
    refine gi_putR (sl := 11) (lay' := LY115) dci_X7_init_54 (by decide +kernel) (by decide) rfl (by decide) (by decide +kernel) (Or.inr ⟨by decide +kernel, rfl⟩) (by rfl) ?_
    refine gi_ops oki_X7_init_57_2 (L' := [some (.inr 49), some (.inr 37), some (.inr 27), some (.inl 1)]) (st' := [.inl 500, .inr 49]) (σ1 := s17) (by rfl) ?_
    obtain ⟨s19, e20, h⟩ := bnd_inv h
    refine gi_newI (lay' := LY116) dci_X7_init_61 (by decide) (by decide +kernel) (by rfl) e20 ?_
    refine gi_putR (sl := 12) (lay' := LY117) dci_X7_init_63 (by decide +kernel) (by decide) rfl (by decide) (by decide +kernel) (Or.inr ⟨by decide +kernel, rfl⟩) (by rfl) ?_
    refine gi_ops oki_X7_init_66_2 (L' := [some (.inr 49), some (.inr 37), some (.inr 27), some (.inl 1)]) (st' := [.inl 500, .inr 49]) (σ1 := s19) (by rfl) ?_
    obtain ⟨s21, e22, h⟩ := bnd_inv h
    refine gi_newI (lay' := LY118) dci_X7_init_70 (by decide) (by decide +kernel) (by rfl) e22 ?_
    refine gi_putR (sl := 13) (lay' := LY119) dci_X7_init_72 (by decide +kernel) (by decide) rfl (by decide) (by decide +kernel) (Or.inr ⟨by decide +kernel, rfl⟩) (by rfl) ?_
    refine gi_ops oki_X7_init_75_2 (L' := [some (.inr 49), some (.inr 37), some (.inr 27), some (.inl 1)]) (st' := [.inl 500, .inr 49]) (σ1 := s21) (by rfl) ?_
    obtain ⟨s23, e24, h⟩ := bnd_inv h
    refine gi_newI (lay' := LY120) dci_X7_init_79 (by decide) (by decide +kernel) (by rfl) e24 ?_
    refine gi_putR (sl := 14) (lay' := LY121) dci_X7_init_81 (by decide +kernel) (by decide) rfl (by decide) (by decide +kernel) (Or.inr ⟨by decide +kernel, rfl⟩) (by rfl) ?_
    refine gi_ops oki_X7_init_84_2 (L' := [some (.inr 49), some (.inr 37), some (.inr 27), some (.inl 1)]) (st' := [.inr 37, .inr 49]) (σ1 := s23) (by rfl) ?_
    refine gi_putR (sl := 0) (lay' := LY122) dci_X7_init_86 (by decide +kernel) (by decide) rfl (by decide) (by decide +kernel) (Or.inr ⟨by decide +kernel, rfl⟩) (by rfl) ?_
    refine gi_ops oki_X7_init_89_2 (L' := [some (.inr 49), some (.inr 37), some (.inr 27), some (.inl 1)]) (st' := [.inr 27, .inr 49]) (σ1 := s23) (by rfl) ?_
    refine gi_putR (sl := 1) (lay' := LY123) dci_X7_init_91 (by decide +kernel) (by decide) rfl (by decide) (by decide +kernel) (Or.inr ⟨by decide +kernel, rfl⟩) (by rfl) ?_
    refine gi_ops oki_X7_init_94_2 (L' := [some (.inr 49), some (.inr 37), some (.inr 27), some (.inl 1)]) (st' := [.inl 1, .inr 49]) (σ1 := s23) (by rfl) ?_
    obtain ⟨s25, e26, h⟩ := bnd_inv h
    refine gi_putI dci_X7_init_96 (by decide +kernel) (by decide) rfl rfl (Or.inr ⟨by decide +kernel, by decide⟩) (Or.inr ⟨by decide +kernel, rfl⟩) e26 ?_
    subst h
    exact gi_vret dci_X7_init_99 rfl
  exact gi_ct (as := [.inr 49, .inr 37, .inr 27, .inl 1]) mk_X7_init (by rfl) (Nat.le_of_ble_eq_true rfl) key
def LY124 : List Lay := [(10, [3, 7, 12, 24, 26, 29, 34, 35, 45, 51]), (2, [4, 5, 6]), (12, [4]), (12, [16]), (12, [48]), (8, [0, 8, 9, 10, 11]), (12, [50]), (12, [50]), (12, [50]), (12, [150]), (5, [0, 13, 14, 15, 16, 17, 18, 19, 20, 21, 22, 23]), (12, [60]), (12, [60]), (12, [60]), (12, [60]), (12, [180]), (12, [60]), (12, [60]), (12, [60]), (12, [60]), (12, [60]), (12, [60]), (9, [25]), (12, [12]), (4, [0, 0, 27, 28]), (12, [3]), (12, [64]), (1, [7, 24, 26, 0, 0, 30, 31, 32, 33]), (12, [469]), (12, [469]), (12, [360]), (12, [6]), (6, [12, 26, 29]), (0, [12, 26, 29, 0, 0, 0, 36, 37, 38]), (12, [1969]), (12, [1969]), (12, [5]), (3, [3, 12, 24, 26, 0, 0, 0, 0, 0, 40, 41, 42, 43, 44]), (12, [469]), (12, [469]), (12, [6]), (12, [120]), (12, [469]), (7, [39, 29, 0, 0, 0, 0, 0, 0, 0, 0, 46, 47, 48, 49, 50]), (12, [500]), (12, [500]), (12, [500]), (12, [500]), (12, [500]), (7, [39, 29, 0, 0, 0, 0, 0, 0, 0, 0, 52, 53, 54, 55, 56]), (12, [500]), (12, [500]), (12, [500]), (12, [500]), (12, [500])]
def I_X10_init_0 (σ : Sg) : Sg :=
bnd (fresh σ 1) fun s1 =>
bnd (I_X2_init_0 s1) fun s3 =>
bnd (fresh s3 5) fun s5 =>
bnd (I_X8_init_0 s5) fun s7 =>
bnd (fresh s7 10) fun s9 =>
bnd (I_X5_init_0 s9) fun s11 =>
bnd (fresh s11 22) fun s13 =>
bnd (I_X9_init_0 s13) fun s15 =>
bnd (fresh s15 24) fun s17 =>
bnd (I_X4_init_0 s17) fun s19 =>
bnd (fresh s19 27) fun s21 =>
bnd (I_X1_init_0 s21) fun s23 =>
bnd (fresh s23 32) fun s25 =>
bnd (I_X6_init_0 s25) fun s27 =>
bnd (fresh s27 33) fun s29 =>
bnd (I_X0_init_0 s29) fun s31 =>
bnd (fresh s31 37) fun s33 =>
bnd (I_X3_init_0 s33) fun s35 =>
bnd (fresh s35 43) fun s37 =>
bnd (I_X7_init_0 s37) fun s39 =>
bnd (fresh s39 49) fun s41 =>
bnd (I_X7_init_1 s41) fun s43 =>
s43
theorem ci_X10_init_0 (l : Launch) (d : Nat) (hd : 2 ≤ d) (σ q : Sg) (h : I_X10_init_0 σ = q) : CT l d m_X10_init.2.1 m_X10_init.2.2.1 m_X10_init.2.2.2.1 m_X10_init.2.2.2.2 [.inr 0] (LY0, σ) none (LY124, q) := by
  obtain ⟨d, rfl⟩ : ∃ e, d = e + 1 := ⟨d - 1, by omega⟩
  have key : Gi l m_X10_init (d + 1) LY0 LY124 q 0 [some (.inr 0), none] [] LY0 σ := by
    unfold I_X10_init_0 at h
    refine gi_ops oki_X10_init_0_1 (L' := [some (.inr 0), none]) (st' := [.inr 0]) (σ1 := σ) (by rfl) ?_
    refine gi_obj dci_X10_init_1 (by decide +kernel) (Nat.le_of_ble_eq_true rfl) (by omega) ?_
    refine gi_ops oki_X10_init_4_1 (L' := [some (.inr 0), none]) (st' := [.inr 0]) (σ1 := σ) (by rfl) ?_
    obtain ⟨s1, e2, h⟩ := bnd_inv h
    refine gi_new (ci := 2) (lay' := LY1) dci_X10_init_5 (by decide +kernel) (by decide) (by decide +kernel) (by rfl) e2 ?_
    refine gi_ops oki_X10_init_8_1 (L' := [some (.inr 0), none]) (st' := [.inr 1, .inr 1, .inr 0]) (σ1 := s1) (by rfl) ?_
    obtain ⟨s3, e4, h⟩ := bnd_inv h
    refine gi_IN (M1 := m_X2_init) (k := 1) (as := []) (st := [.inr 1, .inr 0]) (lay1 := LY7) (σ1 := s3) dci_X10_init_9 ln_10_9 im_X2_init rfl mk_X2_init rfl rfl (Nat.le_of_ble_eq_true rfl) (Nat.le_refl _) (by decide +kernel) (by decide +kernel) (ci_X2_init_0 l d (by omega) _ _ e4.symm) _ rfl ?_
    refine gi_putR (sl := 0) (lay' := LY8) dci_X10_init_12 (by decide +kernel) (by decide) rfl (by decide) (by decide +kernel) (Or.inr ⟨by decide +kernel, rfl⟩) (by rfl) ?_
    refine gi_ops oki_X10_init_15_1 (L' := [some (.inr 0), none]) (st' := [.inr 0]) (σ1 := s3) (by rfl) ?_
    obtain ⟨s5, e6, h⟩ := bnd_inv h
    refine gi_new (ci := 8) (lay' := LY9) dci_X10_init_16 (by decide +kernel) (by decide) (by decide +kernel) (by rfl) e6 ?_
    refine gi_ops oki_X10_init_19_1 (L' := [some (.inr 0), none]) (st' := [.inr 5, .inr 5, .inr 0]) (σ1 := s5) (by rfl) ?_
    obtain ⟨s7, e8, h⟩ := bnd_inv h
    refine gi_I (M1 := m_X8_init) (k := 5) (as := []) (st := [.inr 5, .inr 0]) (lay1 := LY17) (σ1 := s7) dci_X10_init_20 ln_10_18 im_X8_init rfl mk_X8_init rfl rfl (Nat.le_of_ble_eq_true rfl) (Nat.le_refl _) (by decide +kernel) (by decide +kernel) (ci_X8_init_0 l d (by omega) _ _ e8.symm) _ rfl ?_
    refine gi_putR (sl := 1) (lay' := LY18) dci_X10_init_23 (by decide +kernel) (by decide) rfl (by decide) (by decide +kernel) (Or.inr ⟨by decide +kernel, rfl⟩) (by rfl) ?_
    refine gi_ops oki_X10_init_26_1 (L' := [some (.inr 0), none]) (st' := [.inr 0]) (σ1 := s7) (by rfl) ?_
    obtain ⟨s9, e10, h⟩ := bnd_inv h
    refine gi_new (ci := 5) (lay' := LY19) dci_X10_init_27 (by decide +kernel) (by decide) (by decide +kernel) (by rfl) e10 ?_
    refine gi_ops oki_X10_init_30_1 (L' := [some (.inr 0), none]) (st' := [.inr 10, .inr 10, .inr 0]) (σ1 := s9) (by rfl) ?_
    obtain ⟨s11, e12, h⟩ := bnd_inv h
    refine gi_IN (M1 := m_X5_init) (k := 10) (as := []) (st := [.inr 10, .inr 0]) (lay1 := LY41) (σ1 := s11) dci_X10_init_31 ln_10_25 im_X5_init rfl mk_X5_init rfl rfl (Nat.le_of_ble_eq_true rfl) (Nat.le_refl _) (by decide +kernel) (by decide +kernel) (ci_X5_init_0 l d (by omega) _ _ e12.symm) _ rfl ?_
    refine gi_putR (sl := 2) (lay' := LY42) dci_X10_init_34 (by decide +kernel) (by decide) rfl (by decide) (by decide +kernel) (Or.inr ⟨by decide +kernel, rfl⟩) (by rfl) ?_
    refine gi_ops oki_X10_init_37_1 (L' := [some (.inr 0), none]) (st' := [.inr 0]) (σ1 := s11) (by rfl) ?_
    obtain ⟨s13, e14, h⟩ := bnd_inv h
    refine gi_new (ci := 9) (lay' := LY43) dci_X10_init_38 (by decide +kernel) (by decide) (by decide +kernel) (by rfl) e14 ?_
    refine gi_ops oki_X10_init_41_1 (L' := [some (.inr 0), none]) (st' := [.inr 22, .inr 22, .inr 0]) (σ1 := s13) (by rfl) ?_
    obtain ⟨s15, e16, h⟩ := bnd_inv h
    refine gi_I (M1 := m_X9_init) (k := 22) (as := []) (st := [.inr 22, .inr 0]) (lay1 := LY45) (σ1 := s15) dci_X10_init_42 ln_10_32 im_X9_init rfl mk_X9_init rfl rfl (Nat.le_of_ble_eq_true rfl) (Nat.le_refl _) (by decide +kernel) (by decide +kernel) (ci_X9_init_0 l d (by omega) _ _ e16.symm) _ rfl ?_
    refine gi_putR (sl := 3) (lay' := LY46) dci_X10_init_45 (by decide +kernel) (by decide) rfl (by decide) (by decide +kernel) (Or.inr ⟨by decide +kernel, rfl⟩) (by rfl) ?_
    refine gi_ops oki_X10_init_48_1 (L' := [some (.inr 0), none]) (st' := [.inr 0]) (σ1 := s15) (by rfl) ?_
    obtain ⟨s17, e18, h⟩ := bnd_inv h
    refine gi_new (ci := 4) (lay' := LY47) dci_X10_init_49 (by decide +kernel) (by decide) (by decide +kernel) (by rfl) e18 ?_
    refine gi_ops oki_X10_init_52_1 (L' := [some (.inr 0), none]) (st' := [.inr 24, .inr 24, .inr 0]) (σ1 := s17) (by rfl) ?_
    obtain ⟨s19, e20, h⟩ := bnd_inv h
    refine gi_IN (M1 := m_X4_init) (k := 24) (as := []) (st := [.inr 24, .inr 0]) (lay1 := LY51) (σ1 := s19) dci_X10_init_53 ln_10_39 im_X4_init rfl mk_X4_init rfl rfl (Nat.le_of_ble_eq_true rfl) (Nat.le_refl _) (by decide +kernel) (by decide +kernel) (ci_X4_init_0 l d (by omega) _ _ e20.symm) _ rfl ?_
    refine gi_putR (sl := 4) (lay' := LY52) dci_X10_init_56 (by decide +kernel) (by decide) rfl (by decide) (by decide +kernel) (Or.inr ⟨by decide +kernel, rfl⟩) (by rfl) ?_
    refine gi_ops oki_X10_init_59_1 (L' := [some (.inr 0), none]) (st' := [.inr 0]) (σ1 := s19) (by rfl) ?_
    obtain ⟨s21, e22, h⟩ := bnd_inv h
    refine gi_new (ci := 1) (lay' := LY53) dci_X10_init_60 (by decide +kernel) (by decide) (by decide +kernel) (by rfl) e22 ?_
    refine gi_ops oki_X10_init_63_7 (L' := [some (.inr 0), none]) (st' := [.inr 24, .inr 22, .inr 5, .inr 27, .inr 27, .inr 0]) (σ1 := s21) (by rfl) ?_
    obtain ⟨s23, e24, h⟩ := bnd_inv h
    refine gi_I (M1 := m_X1_init) (k := 27) (as := [.inr 5, .inr 22, .inr 24]) (st := [.inr 27, .inr 0]) (lay1 := LY64) (σ1 := s23) dci_X10_init_76 ln_10_46 im_X1_init rfl mk_X1_init rfl rfl (Nat.le_of_ble_eq_true rfl) (Nat.le_refl _) (by decide +kernel) (by decide +kernel) (ci_X1_init_0 l d (by omega) _ _ e24.symm) _ rfl ?_
    refine gi_putR (sl := 5) (lay' := LY65) dci_X10_init_79 (by decide +kernel) (by decide) rfl (by decide) (by decide +kernel) (Or.inr ⟨by decide +kernel, rfl⟩) (by rfl) ?_
    refine gi_ops oki_X10_init_82_1 (L' := [some (.inr 0), none]) (st' := [.inr 0]) (σ1 := s23) (by rfl) ?_
    obtain ⟨s25, e26, h⟩ := bnd_inv h
    refine gi_new (ci := 6) (lay' := LY66) dci_X10_init_83 (by decide +kernel) (by decide) (by decide +kernel) (by rfl) e26 ?_
    refine gi_ops oki_X10_init_86_7 (L' := [some (.inr 0), none]) (st' := [.inr 27, .inr 24, .inr 10, .inr 32, .inr 32, .inr 0]) (σ1 := s25) (by rfl) ?_
    obtain ⟨s27, e28, h⟩ := bnd_inv h
    refine gi_I (M1 := m_X6_init) (k := 32) (as := [.inr 10, .inr 24, .inr 27]) (st := [.inr 32, .inr 0]) (lay1 := LY69) (σ1 := s27) dci_X10_init_99 ln_10_55 im_X6_init rfl mk_X6_init rfl rfl (Nat.le_of_ble_eq_true rfl) (Nat.le_refl _) (by decide +kernel) (by decide +kernel) (ci_X6_init_0 l d (by omega) _ _ e28.symm) _ rfl ?_
    refine gi_putR (sl := 6) (lay' := LY70) dci_X10_init_102 (by decide +kernel) (by decide) rfl (by decide) (by decide +kernel) (Or.inr ⟨by decide +kernel, rfl⟩) (by rfl) ?_
    refine gi_ops oki_X10_init_105_1 (L' := [some (.inr 0), none]) (st' := [.inr 0]) (σ1 := s27) (by rfl) ?_
    obtain ⟨s29, e30, h⟩ := bnd_inv h
    refine gi_new (ci := 0) (lay' := LY71) dci_X10_init_106 (by decide +kernel) (by decide) (by decide +kernel) (by rfl) e30 ?_
    refine gi_ops oki_X10_init_109_7 (L' := [some (.inr 0), none]) (st' := [.inr 27, .inr 24, .inr 10, .inr 33, .inr 33, .inr 0]) (σ1 := s29) (by rfl) ?_
    obtain ⟨s31, e32, h⟩ := bnd_inv h
    refine gi_I (M1 := m_X0_init) (k := 33) (as := [.inr 10, .inr 24, .inr 27]) (st := [.inr 33, .inr 0]) (lay1 := LY80) (σ1 := s31) dci_X10_init_122 ln_10_64 im_X0_init rfl mk_X0_init rfl rfl (Nat.le_of_ble_eq_true rfl) (Nat.le_refl _) (by decide +kernel) (by decide +kernel) (ci_X0_init_0 l d (by omega) _ _ e32.symm) _ rfl ?_
    refine gi_putR (sl := 7) (lay' := LY81) dci_X10_init_125 (by decide +kernel) (by decide) rfl (by decide) (by decide +kernel) (Or.inr ⟨by decide +kernel, rfl⟩) (by rfl) ?_
    obtain ⟨s33, e34, h⟩ := bnd_inv h
    refine gi_new (ci := 3) (lay' := LY82) dci_X10_init_128 (by decide +kernel) (by decide) (by decide +kernel) (by rfl) e34 ?_
    refine gi_ops oki_X10_init_131_9 (L' := [some (.inr 0), none]) (st' := [.inr 24, .inr 22, .inr 10, .inr 1, .inr 37, .inr 37]) (σ1 := s33) (by rfl) ?_
    obtain ⟨s35, e36, h⟩ := bnd_inv h
    refine gi_I (M1 := m_X3_init) (k := 37) (as := [.inr 1, .inr 10, .inr 22, .inr 24]) (st := [.inr 37]) (lay1 := LY96) (σ1 := s35) dci_X10_init_148 ln_10_71 im_X3_init rfl mk_X3_init rfl rfl (Nat.le_of_ble_eq_true rfl) (Nat.le_refl _) (by decide +kernel) (by decide +kernel) (ci_X3_init_0 l d (by omega) _ _ e36.symm) _ rfl ?_
    refine gi_ops oki_X10_init_151_2 (L' := [some (.inr 0), some (.inr 37)]) (st' := [.inr 0]) (σ1 := s35) (by rfl) ?_
    obtain ⟨s37, e38, h⟩ := bnd_inv h
    refine gi_new (ci := 7) (lay' := LY97) dci_X10_init_153 (by decide +kernel) (by decide) (by decide +kernel) (by rfl) e38 ?_
    refine gi_ops oki_X10_init_156_5 (L' := [some (.inr 0), some (.inr 37)]) (st' := [.inl 0, .inr 27, .inr 37, .inr 43, .inr 43, .inr 0]) (σ1 := s37) (by rfl) ?_
    obtain ⟨s39, e40, h⟩ := bnd_inv h
    refine gi_I (M1 := m_X7_init) (k := 43) (as := [.inr 37, .inr 27, .inl 0]) (st := [.inr 43, .inr 0]) (lay1 := LY109) (σ1 := s39) dci_X10_init_163 ln_10_76 im_X7_init rfl mk_X7_init rfl rfl (Nat.le_of_ble_eq_true rfl) (Nat.le_refl _) (by decide +kernel) (by decide +kernel) (ci_X7_init_0 l d (by omega) _ _ e40.symm) _ rfl ?_
    refine gi_putR (sl := 8) (lay' := LY110) dci_X10_init_166 (by decide +kernel) (by decide) rfl (by decide) (by decide +kernel) (Or.inr ⟨by decide +kernel, rfl⟩) (by rfl) ?_
    refine gi_ops oki_X10_init_169_1 (L' := [some (.inr 0), some (.inr 37)]) (st' := [.inr 0]) (σ1 := s39) (by rfl) ?_
    obtain ⟨s41, e42, h⟩ := bnd_inv h
    refine gi_new (ci := 7) (lay' := LY111) dci_X10_init_170 (by decide +kernel) (by decide) (by decide +kernel) (by rfl) e42 ?_
    refine gi_ops oki_X10_init_173_5 (L' := [some (.inr 0), some (.inr 37)]) (st' := [.inl 1, .inr 27, .inr 37, .inr 49, .inr 49, .inr 0]) (σ1 := s41) (by rfl) ?_
    obtain ⟨s43, e44, h⟩ := bnd_inv h
    refine gi_I (M1 := m_X7_init) (k := 49) (as := [.inr 37, .inr 27, .inl 1]) (st := [.inr 49, .inr 0]) (lay1 := LY123) (σ1 := s43) dci_X10_init_180 ln_10_76 im_X7_init rfl mk_X7_init rfl rfl (Nat.le_of_ble_eq_true rfl) (Nat.le_refl _) (by decide +kernel) (by decide +kernel) (ci_X7_init_1 l d (by omega) _ _ e44.symm) _ rfl ?_
    refine gi_putR (sl := 9) (lay' := LY124) dci_X10_init_183 (by decide +kernel) (by decide) rfl (by decide) (by decide +kernel) (Or.inr ⟨by decide +kernel, rfl⟩) (by rfl) ?_
    subst h
    exact gi_vret dci_X10_init_186 rfl
  exact gi_ct (as := [.inr 0]) mk_X10_init (by rfl) (Nat.le_of_ble_eq_true rfl) key
theorem layC_eq : LY124 = LAYC := rfl
