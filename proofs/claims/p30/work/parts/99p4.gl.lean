/-! a run of a method of the law, as one judgement -/
def Gl (l : Launch) (M : Mr) (d g : Nat) (F : Fr) (rs : List Nat) (v : Option Int) (ss' : List Sg) (kg pc : Nat) (L : List (Option AV)) (st : List AV) (ss : List Sg) : Prop :=
  ∀ (p : Program) (e : Env) (R : Room) (s : State) (m : MethodId) (args : Array Value) (below : List Frame) (meth : Method) (c : Code) (D : va_G) (cI cZ : ClassId),
    Cx 12 M.2.2.1 M.2.2.2.1 false p s m args meth c (AFr F s.heap.size) D cI cZ → NX s → TH (AFr F s.heap.size) s s.heap → FOK F → R.frames = d → R.locals = 40 * d → R.cells = g → R.slots = 6 * g → meth.sig.returnType = M.2.2.2.2 →
    Rg p l e R s m args below meth c (PwB D cI cZ (AFr F s.heap.size) s F rs ss) kg (6 * kg) (MQ below (QF D cI cZ F s.heap.size v ss') args s g (6 * g) (AFr F s.heap.size)) M.2.2.2.1 pc L st
theorem afr_in {F : Fr} {sz : Nat} : ∀ f ∈ F, ∀ a ∈ f.1, AFr F sz a := fun f hf _ ha => Or.inl ⟨f, hf, ha⟩
theorem gl_lc {l : Launch} {M : Mr} {d g n : Nat} {F : Fr} {rs : List Nat} {v : Option Int} {ss ss' : List Sg} {as : List AV} (hm : MOK M.2.1 M.2.2.1 M.2.2.2.1 M.2.2.2.2 n) (hy : M.2.1.cls = ownN 12) (hin : (M.2.1.name == "<init>") = false) (hn : as.length ≤ M.2.2.2.1)
    (k : Gl l M d g F rs v ss' 0 0 (entL M.2.2.2.1 as) [] ss) : LC l d g M.2.1 (wsM M.2.1 M.2.2.1 M.2.2.2.1 M.2.2.2.2) as rs F ss v ss' := by
  intro D cI cZ sz cvs hv hF hR
  refine met_ofWF (cc := M.2.2.1) (maxL := M.2.2.2.1) (ret := M.2.2.2.2) hm.2.2.2.1 rfl ?_
  intro p e s m args below meth c s₁ B hml hp
  obtain ⟨rfl, hsz, hP, hK, hN, hT⟩ := hp
  subst hsz
  have hts := atoms_spec (ws := wsM M.2.1 M.2.2.1 M.2.2.2.1 M.2.2.2.2) B.pre
  have hC : Cx 12 M.2.2.1 M.2.2.2.1 false p s m cvs.toArray meth c (AFr F s.heap.size) D cI cZ :=
    ⟨B.exec, B.bytes, hml, by rw [← hy]; exact findClass_of_methodNamed B.named, fun w hw => hts w (List.mem_cons_of_mem _ hw), B.notSynchronized, (fun h => by cases h), hK, fun q h => Or.inr h⟩
  have hb := k p e (headSpec (wsM M.2.1 M.2.2.1 M.2.2.2.1 M.2.2.2.2) (rmD d g (6 * g))).room s m cvs.toArray below meth c D cI cZ hC hN hT hF rfl rfl rfl rfl B.returns
  have hw := hb rs s.heap [] _ [] ⟨rfl, hP, va_S.rf, hR⟩ (ent_lrs hv hn) trivial
  rw [lg_entry_eq]
  exact hw
section GL
variable {l : Launch} {M : Mr} {d g : Nat} {F : Fr} {rs : List Nat} {v : Option Int} {ss' : List Sg} {kg pc : Nat} {L : List (Option AV)} {st : List AV} {ss : List Sg}
theorem gl_ops {ops : List OpR} {S S' : LSt} {pc' : Nat} {L' : List (Option AV)} {st' : List AV} (ho : oks 12 M.2.2.1 pc ops = true ∧ plen pc ops = pc') (hg : ops.all (fun q => exl q.1) = true) (hx : exs ops (L, st, S) = some (L', st', S'))
    (k : Gl l M d g F rs v ss' kg pc' L' st' ss) : Gl l M d g F rs v ss' kg pc L st ss :=
  fun p e R s m args below meth c D cI cZ hC hN hT hF h1 h2 h3 h4 hr => rl_ops hC ho hg hx (k p e R s m args below meth c D cI cZ hC hN hT hF h1 h2 h3 h4 hr)
theorem gl_goto {off : Int} {tgt : Nat} (hd : decode M.2.2.1 pc = .ok (.goto off, 3)) (ht : (pc : Int) + off = (tgt : Int)) (k : Gl l M d g F rs v ss' kg tgt L st ss) : Gl l M d g F rs v ss' kg pc L st ss :=
  fun p e R s m args below meth c D cI cZ hC hN hT hF h1 h2 h3 h4 hr => rl_goto hC hd ht (k p e R s m args below meth c D cI cZ hC hN hT hF h1 h2 h3 h4 hr)
theorem gl_more {kg' : Nat} (h : kg ≤ kg') (k : Gl l M d g F rs v ss' kg' pc L st ss) : Gl l M d g F rs v ss' kg pc L st ss :=
  fun p e R s m args below meth c D cI cZ hC hN hT hF h1 h2 h3 h4 hr => rl_more h (by omega) (k p e R s m args below meth c D cI cZ hC hN hT hF h1 h2 h3 h4 hr)
theorem gl_weak {L' : List (Option AV)} (hlen : L'.length ≤ L.length) (h : ∀ (i : Nat) (v : AV), L'[i]? = some (some v) → L[i]? = some (some v)) (k : Gl l M d g F rs v ss' kg pc L' st ss) : Gl l M d g F rs v ss' kg pc L st ss :=
  fun p e R s m args below meth c D cI cZ hC hN hT hF h1 h2 h3 h4 hr => rl_weak hlen h (k p e R s m args below meth c D cI cZ hC hN hT hF h1 h2 h3 h4 hr)
theorem gl_rem {x y : Int} (hd : decode M.2.2.1 pc = .ok (.irem, 1)) (hne : ¬ y = 0) (k : Gl l M d g F rs v ss' kg (pc + 1) L (.inl (jrem x y) :: st) ss) : Gl l M d g F rs v ss' kg pc L (.inl y :: .inl x :: st) ss :=
  fun p e R s m args below meth c D cI cZ hC hN hT hF h1 h2 h3 h4 hr => rl_rem hC hd hne (k p e R s m args below meth c D cI cZ hC hN hT hF h1 h2 h3 h4 hr)
theorem gl_div {x y : Int} (hd : decode M.2.2.1 pc = .ok (.idiv, 1)) (hne : ¬ y = 0) (k : Gl l M d g F rs v ss' kg (pc + 1) L (.inl (jdiv x y) :: st) ss) : Gl l M d g F rs v ss' kg pc L (.inl y :: .inl x :: st) ss :=
  fun p e R s m args below meth c D cI cZ hC hN hT hF h1 h2 h3 h4 hr => rl_div hC hd hne (k p e R s m args below meth c D cI cZ hC hN hT hF h1 h2 h3 h4 hr)
theorem gl_neg {x : Int} (hd : decode M.2.2.1 pc = .ok (.ineg, 1)) (k : Gl l M d g F rs v ss' kg (pc + 1) L (.inl (wrap (-x)) :: st) ss) : Gl l M d g F rs v ss' kg pc L (.inl x :: st) ss := by
  intro p e R s m args below meth c D cI cZ hC hN hT hF h1 h2 h3 h4 hr ads H locs ls cst hW hL hv
  match cst, hv with
  | cv :: cst, hv =>
    obtain ⟨hxr, rfl⟩ := vr_int hv.1
    refine lv_ineg hC.1 hC.2.1 hd ?_
    have h9 := k p e R s m args below meth c D cI cZ hC hN hT hF h1 h2 h3 h4 hr ads H locs ls (.int (Int32.ofInt (wrap (-x))) :: cst) hW hL ⟨⟨wrap_in _, rfl⟩, hv.2⟩
    rw [i32_wrap, Int32.ofInt_neg] at h9
    exact h9
theorem gl_dup2 {v1 w1 : AV} (hd : decode M.2.2.1 pc = .ok (.dup2, 1)) (k : Gl l M d g F rs v ss' kg (pc + 1) L (v1 :: w1 :: v1 :: w1 :: st) ss) : Gl l M d g F rs v ss' kg pc L (v1 :: w1 :: st) ss := by
  intro p e R s m args below meth c D cI cZ hC hN hT hF h1 h2 h3 h4 hr ads H locs ls cst hW hL hv
  match cst, hv with
  | c1 :: c2 :: cst, hv => exact lv_dup2_11 hC.1 hC.2.1 hd (vr_cat hv.1) (vr_cat hv.2.1) (k p e R s m args below meth c D cI cZ hC hN hT hF h1 h2 h3 h4 hr ads H locs ls _ hW hL ⟨hv.1, hv.2.1, hv.1, hv.2⟩)
  | [cy], hv => exact hv.2.elim
theorem gl_wr {an : Nat} {ν : Sg} {i x : Int} {v : Option Int} {ss' : List Sg} (hd : decode M.2.2.1 pc = .ok (.iastore, 1)) (h0 : 0 ≤ i) (hi4 : i < 4)
    (kk : Gl l M d g [([an], [(12, [4])])] [an] v ss' kg (pc + 1) L st [up2 ν 0 i.toNat x]) : Gl l M d g [([an], [(12, [4])])] [an] v ss' kg pc L (.inl x :: .inl i :: .inr 0 :: st) [ν] := by
  intro p e R s m args below meth c D cI cZ hC hN hT hF h1 h2 h3 h4 hr ads H locs ls cst hW hL hv
  obtain ⟨rfl, hP, hS, hR⟩ := hW
  have hA9 := hC.2.2.2.2.2.2.2.2
  obtain ⟨hx, hb, -, hown, hts, -, -, ⟨hK, hNN⟩, -⟩ := id hC
  match cst, hv with
  | cw :: cx :: cv :: cst, hv =>
    obtain ⟨hwr, rfl⟩ := vr_int hv.1
    obtain ⟨hxr, rfl⟩ := vr_int hv.2.1
    obtain ⟨a, ha, rfl⟩ := id hv.2.2.1
    obtain rfl : an = a := Option.some.inj ha
    have hfk := hF.1 0 _ rfl
    have hrow : va_P D vwCl (mkW [an] cI cZ [(12, [4])] ν) H := hP 0 _ ν rfl rfl
    have hdd : va_D (AFr [([an], [(12, [4])])] s.heap.size) (mkW [an] cI cZ [(12, [4])] ν) := mkW_D hfk.1 hfk.2 (afr_in ([an], [(12, [4])]) (List.mem_singleton.mpr rfl))
    have he : (mkW [an] cI cZ [(12, [4])] ν)[0]? = some (an, .inl (cI, 4, .inl (fun i => Int32.ofInt (ν 0 i)))) := rfl
    refine va_iast hx hb hK hrow hdd hS 0 0 he rfl (vp_in_int hxr h0 hi4) hd (fun H1 locs1 g1 g2 g3 => ?_)
    have hset := row_set (cI := cI) (cZ := cZ) (S := ([(12, [4])], ν)) (ads := [an]) (k := 0) (a := an) (n := 4) (t := 12) (i := i) (x := x) rfl (by omega) rfl
    rw [clamp_nat hxr] at g1
    have g1' : va_P D vwCl (mkW [an] cI cZ [(12, [4])] (up2 ν 0 i.toNat x)) H1 := hset ▸ g1
    refine kk p e R s m args below meth c D cI cZ hC hN hT hF h1 h2 h3 h4 hr [an] H1 locs1 ls cst ⟨rfl, fun j f σ hj hs => ?_, g3, fun σ hs => ?_⟩ hL hv.2.2.2
    · match j, hj, hs with
      | 0, hj, hs => cases hj; cases hs; exact g1'
    · rw [List.mem_singleton.mp hs]
      exact up2_in (hR ν (List.mem_singleton.mpr rfl)) hwr
  | [cy], hv => exact hv.2.elim
theorem gl_rd {jn k1 an : Nat} {ν : Sg} {i : Int} (hd : decode M.2.2.1 pc = .ok (.iaload, 1)) (hjn : F[jn]? = some ([an], [(12, [4])])) (hjs : ss[jn]? = some ν) (hk1 : rs[k1]? = some an) (h0 : 0 ≤ i) (hi4 : i < 4)
    (kk : Gl l M d g F rs v ss' kg (pc + 1) L (.inl (ν 0 i.toNat) :: st) ss) : Gl l M d g F rs v ss' kg pc L (.inl i :: .inr k1 :: st) ss :=
  fun p e R s m args below meth c D cI cZ hC hN hT hF h1 h2 h3 h4 hr => bl_rd hC hd hjn hjs hk1 h0 hi4 (kk p e R s m args below meth c D cI cZ hC hN hT hF h1 h2 h3 h4 hr)
theorem gl_tsw {x dflt lo hi : Int} {offs : Array Int} {len : Nat} {off : Int} {tgt : Nat} (hd : decode M.2.2.1 pc = .ok (.tableswitch dflt lo hi offs, len)) (hlen : (hi - lo + 1).toNat ≤ offs.size) (hlh : lo ≤ hi) (ho : tsO dflt lo hi offs x = off) (ht : (pc : Int) + off = (tgt : Int)) (k : Gl l M d g F rs v ss' kg tgt L st ss) : Gl l M d g F rs v ss' kg pc L (.inl x :: st) ss := by
  intro p e R s m args below meth c D cI cZ hC hN hT hF h1 h2 h3 h4 hr
  have kk := k p e R s m args below meth c D cI cZ hC hN hT hF h1 h2 h3 h4 hr
  unfold tsO at ho
  by_cases hx : x < lo ∨ hi < x
  · rw [if_pos hx] at ho
    subst ho
    exact rg_tswOut ⟨hC.1, hC.2.1⟩ hd hx ht kk
  · rw [if_neg hx] at ho
    have hlt : (x - lo).toNat < offs.size := by omega
    have h9 : offs[(x - lo).toNat]? = some off := by rw [Array.getElem?_eq_getElem hlt] at ho ⊢; rw [← ho]; rfl
    exact rg_tswIn ⟨hC.1, hC.2.1⟩ hd (by omega) (by omega) h9 ht kk
theorem gl_iret {x : Int} (hkg : kg ≤ g) (hd : decode M.2.2.1 pc = .ok (.ireturn, 1)) (hrt : M.2.2.2.2 = some .int) : Gl l M d g F rs (some x) ss kg pc L [.inl x] ss := by
  intro p e R s m args below meth c D cI cZ hC hN hT hF h1 h2 h3 h4 hr ads H locs ls cst hW hL hv
  obtain ⟨rfl, hP, hS, hR⟩ := hW
  match cst, hv with
  | [cv], hv =>
    obtain ⟨hxr, rfl⟩ := vr_int hv.1
    refine W.widen (k := g) (n := 6 * g) hkg (by omega) ?_
    exact W.iret hC.1 hC.2.1 (hr.trans hrt) (fun t ht hw => ⟨⟨_, (), rfl, ⟨rfl, hxr⟩, by rw [ht]; exact hP, hR⟩, hS.F ht⟩) hS.2.2 hd hC.2.2.2.2.2.1
  | _ :: _ :: _, hv => exact hv.2.elim
theorem gl_zret {x : Int} (hkg : kg ≤ g) (hd : decode M.2.2.1 pc = .ok (.ireturn, 1)) (hrt : M.2.2.2.2 = some .boolean) (h01 : x = 0 ∨ x = 1) : Gl l M d g F rs (some x) ss kg pc L [.inl x] ss := by
  intro p e R s m args below meth c D cI cZ hC hN hT hF h1 h2 h3 h4 hr ads H locs ls cst hW hL hv
  obtain ⟨rfl, hP, hS, hR⟩ := hW
  match cst, hv with
  | [cv], hv =>
    obtain ⟨hxr, rfl⟩ := vr_int hv.1
    refine W.widen (k := g) (n := 6 * g) hkg (by omega) ?_
    exact W.zret hC.1 hC.2.1 (hr.trans hrt) (narrow_bool01 h01).1 (fun t ht hw => ⟨⟨_, (), rfl, ⟨rfl, hxr⟩, by rw [ht]; exact hP, hR⟩, hS.F ht⟩) hS.2.2 hd hC.2.2.2.2.2.1
  | _ :: _ :: _, hv => exact hv.2.elim
theorem gl_vret (hkg : kg ≤ g) (hd : decode M.2.2.1 pc = .ok (.return_, 1)) (hrt : M.2.2.2.2 = none) : Gl l M d g F rs none ss kg pc L [] ss := by
  intro p e R s m args below meth c D cI cZ hC hN hT hF h1 h2 h3 h4 hr ads H locs ls cst hW hL hv
  obtain ⟨rfl, hP, hS, hR⟩ := hW
  match cst, hv with
  | [], hv =>
    refine W.widen (k := g) (n := 6 * g) hkg (by omega) ?_
    exact W.vret hC.1 hC.2.1 (hr.trans hrt) (fun t ht hw => ⟨⟨(), rfl, trivial, by rw [ht]; exact hP, hR⟩, hS.F ht⟩) hS.2.2 hd hC.2.2.2.2.2.1
section CALL
variable {F' : Fr} {rs' sel : List Nat} {ss1 ss1' ss2 : List Sg} {v1 : Option Int} {as as' : List AV} {idx n d1 g1 kg2 : Nat}
theorem gl_S {M1 : Mr} (hd : decode M.2.2.1 pc = .ok (.invokestatic idx, 3)) (hl : Cond.methodLink (ownN 12) idx M1.2.1 ∈ TB) (hsm : Cond.static M1.2.1 ∈ TB) (hm : MOK M1.2.1 M1.2.2.1 M1.2.2.2.1 M1.2.2.2.2 n) (hn : as.length = n) (hst : st.length ≤ 8) (hd1 : d1 + 1 ≤ d) (hg : kg + g1 = kg2) (hg2 : kg2 ≤ g)
    (hsel : SelOK F F' ss ss1 ss1' ss2 sel) (hcv : ∀ cas, vrs rs as cas → vrs rs' as' cas) (hlc : LC l d1 g1 M1.2.1 (wsM M1.2.1 M1.2.2.1 M1.2.2.2.1 M1.2.2.2.2) as' rs' F' ss1 v1 ss1') (st0 : List AV) (hs0 : st0 = as.reverse ++ st)
    (kk : Gl l M d g F rs v ss' kg2 (pc + 3) L (pushI v1 st) ss2) : Gl l M d g F rs v ss' kg pc L st0 ss :=
  fun p e R s m args below meth c D cI cZ hC hN hT hF h1 h2 h3 h4 hr => bl_S hC hN hT hF afr_in (by omega) (by omega) (by omega) (by omega) hd hl hsm hm hn hst hsel hcv hlc st0 hs0 (by
    have := kk p e R s m args below meth c D cI cZ hC hN hT hF h1 h2 h3 h4 hr
    subst hg
    rw [Nat.mul_add] at this
    exact this)
theorem gl_H {y : MethodName} {bytes : ByteArray} {maxL : Nat} {hh : List (Nat × Nat × Nat × Nat)} (hd : decode M.2.2.1 pc = .ok (.invokestatic idx, 3)) (hl : Cond.methodLink (ownN 12) idx y ∈ TB) (hcw : Cond.codeWith y bytes maxL (some .int) hh ∈ TB) (hsw : Cond.static y ∈ TB) (hin : Cond.initialized y.cls ∈ TB) (hmx : maxL ≤ 20)
    (hy : y.cls ≠ "java/lang/invoke/MethodHandle" ∧ y.cls ≠ "java/lang/invoke/VarHandle" ∧ (parseMethodDescriptor y.desc).map (fun d => d.parameters.length) = some n) (hn : as.length = n) (hst : st.length ≤ 8) (hd1 : d1 + 1 ≤ d) (hg : kg + g1 = kg2) (hg2 : kg2 ≤ g)
    (hsel : SelOK F F' ss ss1 ss1' ss2 sel) (hcv : ∀ cas, vrs rs as cas → vrs rs' as' cas) (hlc : LC l d1 g1 y (wsH y bytes maxL hh) as' rs' F' ss1 v1 ss1') (st0 : List AV) (hs0 : st0 = as.reverse ++ st)
    (kk : Gl l M d g F rs v ss' kg2 (pc + 3) L (pushI v1 st) ss2) : Gl l M d g F rs v ss' kg pc L st0 ss :=
  fun p e R s m args below meth c D cI cZ hC hN hT hF h1 h2 h3 h4 hr => bl_H hC hN hT hF afr_in (by omega) (by omega) (by omega) (by omega) hd hl hcw hsw hin hmx hy hn hst hsel hcv hlc st0 hs0 (by
    have := kk p e R s m args below meth c D cI cZ hC hN hT hF h1 h2 h3 h4 hr
    subst hg
    rw [Nat.mul_add] at this
    exact this)
theorem gl_V {M1 : Mr} {ax : List Nat} {jb k0 a0 : Nat} {σ : Sg} (hd : decode M.2.2.1 pc = .ok (.invokevirtual idx, 3)) (hl : Cond.methodLink (ownN 12) idx M1.2.1 ∈ TB) (hs : Cond.instanceMethod M1.2.1 ∈ TB ∧ Cond.selects M1.2.1.cls M1.2.1 M1.2.1 ∈ TB) (hm : MOK M1.2.1 M1.2.2.1 M1.2.2.2.1 M1.2.2.2.2 n) (hy : M1.2.1.cls = ownN 10) (hn : as.length = n) (hst : st.length ≤ 8) (hd1 : d1 + 1 ≤ d) (hg : kg + g1 = kg2) (hg2 : kg2 ≤ g)
    (hjb : F[jb]? = some (ax, LAYC)) (hjs : ss[jb]? = some σ) (hk0 : rs[k0]? = some a0) (ha0 : ax[0]? = some a0)
    (hsel : SelOK F F' ss ss1 ss1' ss2 sel) (hcv : ∀ cas, vrs rs (.inr k0 :: as) cas → vrs rs' as' cas) (hlc : LC l d1 g1 M1.2.1 (wsM M1.2.1 M1.2.2.1 M1.2.2.2.1 M1.2.2.2.2) as' rs' F' ss1 v1 ss1') (st0 : List AV) (hs0 : st0 = (.inr k0 :: as).reverse ++ st)
    (kk : Gl l M d g F rs v ss' kg2 (pc + 3) L (pushI v1 st) ss2) : Gl l M d g F rs v ss' kg pc L st0 ss :=
  fun p e R s m args below meth c D cI cZ hC hN hT hF h1 h2 h3 h4 hr => bl_V hC hN hT hF afr_in (by omega) (by omega) (by omega) (by omega) hd hl hs hm hy hn hst hjb hjs hk0 ha0 hsel hcv hlc st0 hs0 (by
    have := kk p e R s m args below meth c D cI cZ hC hN hT hF h1 h2 h3 h4 hr
    subst hg
    rw [Nat.mul_add] at this
    exact this)
end CALL
theorem gl_if_eq {x : Int} {off : Int} {tgt : Nat} (hd : decode M.2.2.1 pc = .ok (.ifCond .eq off, 3)) (ht : (pc : Int) + off = (tgt : Int)) (kt : x = 0 → Gl l M d g F rs v ss' kg tgt L st ss) (kf : ¬ (x = 0) → Gl l M d g F rs v ss' kg (pc + 3) L st ss) : Gl l M d g F rs v ss' kg pc L (.inl x :: st) ss :=
  fun p e R s m args below meth c D cI cZ hC hN hT hF h1 h2 h3 h4 hr => rl_if_eq hC hd ht (fun h => kt h p e R s m args below meth c D cI cZ hC hN hT hF h1 h2 h3 h4 hr) (fun h => kf h p e R s m args below meth c D cI cZ hC hN hT hF h1 h2 h3 h4 hr)
theorem gl_icmp_eq {x y : Int} {off : Int} {tgt : Nat} (hd : decode M.2.2.1 pc = .ok (.if_icmp .eq off, 3)) (ht : (pc : Int) + off = (tgt : Int)) (kt : x = y → Gl l M d g F rs v ss' kg tgt L st ss) (kf : ¬ (x = y) → Gl l M d g F rs v ss' kg (pc + 3) L st ss) : Gl l M d g F rs v ss' kg pc L (.inl y :: .inl x :: st) ss :=
  fun p e R s m args below meth c D cI cZ hC hN hT hF h1 h2 h3 h4 hr => rl_icmp_eq hC hd ht (fun h => kt h p e R s m args below meth c D cI cZ hC hN hT hF h1 h2 h3 h4 hr) (fun h => kf h p e R s m args below meth c D cI cZ hC hN hT hF h1 h2 h3 h4 hr)
theorem gl_if_ne {x : Int} {off : Int} {tgt : Nat} (hd : decode M.2.2.1 pc = .ok (.ifCond .ne off, 3)) (ht : (pc : Int) + off = (tgt : Int)) (kt : ¬ x = 0 → Gl l M d g F rs v ss' kg tgt L st ss) (kf : x = 0 → Gl l M d g F rs v ss' kg (pc + 3) L st ss) : Gl l M d g F rs v ss' kg pc L (.inl x :: st) ss :=
  fun p e R s m args below meth c D cI cZ hC hN hT hF h1 h2 h3 h4 hr => rl_if_ne hC hd ht (fun h => kt h p e R s m args below meth c D cI cZ hC hN hT hF h1 h2 h3 h4 hr) (fun h => kf h p e R s m args below meth c D cI cZ hC hN hT hF h1 h2 h3 h4 hr)
theorem gl_icmp_ne {x y : Int} {off : Int} {tgt : Nat} (hd : decode M.2.2.1 pc = .ok (.if_icmp .ne off, 3)) (ht : (pc : Int) + off = (tgt : Int)) (kt : ¬ x = y → Gl l M d g F rs v ss' kg tgt L st ss) (kf : x = y → Gl l M d g F rs v ss' kg (pc + 3) L st ss) : Gl l M d g F rs v ss' kg pc L (.inl y :: .inl x :: st) ss :=
  fun p e R s m args below meth c D cI cZ hC hN hT hF h1 h2 h3 h4 hr => rl_icmp_ne hC hd ht (fun h => kt h p e R s m args below meth c D cI cZ hC hN hT hF h1 h2 h3 h4 hr) (fun h => kf h p e R s m args below meth c D cI cZ hC hN hT hF h1 h2 h3 h4 hr)
theorem gl_if_lt {x : Int} {off : Int} {tgt : Nat} (hd : decode M.2.2.1 pc = .ok (.ifCond .lt off, 3)) (ht : (pc : Int) + off = (tgt : Int)) (kt : x < 0 → Gl l M d g F rs v ss' kg tgt L st ss) (kf : ¬ (x < 0) → Gl l M d g F rs v ss' kg (pc + 3) L st ss) : Gl l M d g F rs v ss' kg pc L (.inl x :: st) ss :=
  fun p e R s m args below meth c D cI cZ hC hN hT hF h1 h2 h3 h4 hr => rl_if_lt hC hd ht (fun h => kt h p e R s m args below meth c D cI cZ hC hN hT hF h1 h2 h3 h4 hr) (fun h => kf h p e R s m args below meth c D cI cZ hC hN hT hF h1 h2 h3 h4 hr)
theorem gl_icmp_lt {x y : Int} {off : Int} {tgt : Nat} (hd : decode M.2.2.1 pc = .ok (.if_icmp .lt off, 3)) (ht : (pc : Int) + off = (tgt : Int)) (kt : x < y → Gl l M d g F rs v ss' kg tgt L st ss) (kf : ¬ (x < y) → Gl l M d g F rs v ss' kg (pc + 3) L st ss) : Gl l M d g F rs v ss' kg pc L (.inl y :: .inl x :: st) ss :=
  fun p e R s m args below meth c D cI cZ hC hN hT hF h1 h2 h3 h4 hr => rl_icmp_lt hC hd ht (fun h => kt h p e R s m args below meth c D cI cZ hC hN hT hF h1 h2 h3 h4 hr) (fun h => kf h p e R s m args below meth c D cI cZ hC hN hT hF h1 h2 h3 h4 hr)
theorem gl_if_ge {x : Int} {off : Int} {tgt : Nat} (hd : decode M.2.2.1 pc = .ok (.ifCond .ge off, 3)) (ht : (pc : Int) + off = (tgt : Int)) (kt : 0 ≤ x → Gl l M d g F rs v ss' kg tgt L st ss) (kf : ¬ (0 ≤ x) → Gl l M d g F rs v ss' kg (pc + 3) L st ss) : Gl l M d g F rs v ss' kg pc L (.inl x :: st) ss :=
  fun p e R s m args below meth c D cI cZ hC hN hT hF h1 h2 h3 h4 hr => rl_if_ge hC hd ht (fun h => kt h p e R s m args below meth c D cI cZ hC hN hT hF h1 h2 h3 h4 hr) (fun h => kf h p e R s m args below meth c D cI cZ hC hN hT hF h1 h2 h3 h4 hr)
theorem gl_icmp_ge {x y : Int} {off : Int} {tgt : Nat} (hd : decode M.2.2.1 pc = .ok (.if_icmp .ge off, 3)) (ht : (pc : Int) + off = (tgt : Int)) (kt : y ≤ x → Gl l M d g F rs v ss' kg tgt L st ss) (kf : ¬ (y ≤ x) → Gl l M d g F rs v ss' kg (pc + 3) L st ss) : Gl l M d g F rs v ss' kg pc L (.inl y :: .inl x :: st) ss :=
  fun p e R s m args below meth c D cI cZ hC hN hT hF h1 h2 h3 h4 hr => rl_icmp_ge hC hd ht (fun h => kt h p e R s m args below meth c D cI cZ hC hN hT hF h1 h2 h3 h4 hr) (fun h => kf h p e R s m args below meth c D cI cZ hC hN hT hF h1 h2 h3 h4 hr)
theorem gl_if_gt {x : Int} {off : Int} {tgt : Nat} (hd : decode M.2.2.1 pc = .ok (.ifCond .gt off, 3)) (ht : (pc : Int) + off = (tgt : Int)) (kt : 0 < x → Gl l M d g F rs v ss' kg tgt L st ss) (kf : ¬ (0 < x) → Gl l M d g F rs v ss' kg (pc + 3) L st ss) : Gl l M d g F rs v ss' kg pc L (.inl x :: st) ss :=
  fun p e R s m args below meth c D cI cZ hC hN hT hF h1 h2 h3 h4 hr => rl_if_gt hC hd ht (fun h => kt h p e R s m args below meth c D cI cZ hC hN hT hF h1 h2 h3 h4 hr) (fun h => kf h p e R s m args below meth c D cI cZ hC hN hT hF h1 h2 h3 h4 hr)
theorem gl_icmp_gt {x y : Int} {off : Int} {tgt : Nat} (hd : decode M.2.2.1 pc = .ok (.if_icmp .gt off, 3)) (ht : (pc : Int) + off = (tgt : Int)) (kt : y < x → Gl l M d g F rs v ss' kg tgt L st ss) (kf : ¬ (y < x) → Gl l M d g F rs v ss' kg (pc + 3) L st ss) : Gl l M d g F rs v ss' kg pc L (.inl y :: .inl x :: st) ss :=
  fun p e R s m args below meth c D cI cZ hC hN hT hF h1 h2 h3 h4 hr => rl_icmp_gt hC hd ht (fun h => kt h p e R s m args below meth c D cI cZ hC hN hT hF h1 h2 h3 h4 hr) (fun h => kf h p e R s m args below meth c D cI cZ hC hN hT hF h1 h2 h3 h4 hr)
theorem gl_if_le {x : Int} {off : Int} {tgt : Nat} (hd : decode M.2.2.1 pc = .ok (.ifCond .le off, 3)) (ht : (pc : Int) + off = (tgt : Int)) (kt : x ≤ 0 → Gl l M d g F rs v ss' kg tgt L st ss) (kf : ¬ (x ≤ 0) → Gl l M d g F rs v ss' kg (pc + 3) L st ss) : Gl l M d g F rs v ss' kg pc L (.inl x :: st) ss :=
  fun p e R s m args below meth c D cI cZ hC hN hT hF h1 h2 h3 h4 hr => rl_if_le hC hd ht (fun h => kt h p e R s m args below meth c D cI cZ hC hN hT hF h1 h2 h3 h4 hr) (fun h => kf h p e R s m args below meth c D cI cZ hC hN hT hF h1 h2 h3 h4 hr)
theorem gl_icmp_le {x y : Int} {off : Int} {tgt : Nat} (hd : decode M.2.2.1 pc = .ok (.if_icmp .le off, 3)) (ht : (pc : Int) + off = (tgt : Int)) (kt : x ≤ y → Gl l M d g F rs v ss' kg tgt L st ss) (kf : ¬ (x ≤ y) → Gl l M d g F rs v ss' kg (pc + 3) L st ss) : Gl l M d g F rs v ss' kg pc L (.inl y :: .inl x :: st) ss :=
  fun p e R s m args below meth c D cI cZ hC hN hT hF h1 h2 h3 h4 hr => rl_icmp_le hC hd ht (fun h => kt h p e R s m args below meth c D cI cZ hC hN hT hF h1 h2 h3 h4 hr) (fun h => kf h p e R s m args below meth c D cI cZ hC hN hT hF h1 h2 h3 h4 hr)
end GL
theorem sel_1 {f1 : List Nat × List Lay} {a1 b1 : Sg} : SelOK [f1] [f1] [a1] [a1] [b1] [b1] [0] := by
  refine ⟨fun i f h => ?_, fun i j k h1 h2 => ?_, fun i σ h => ?_, fun k σ h => ?_⟩
  · match i, h with
    | 0, h => exact ⟨0, rfl, h⟩
  · match i, j, h1, h2 with
    | 0, 0, _, _ => rfl
  · match i, h with
    | 0, h => exact ⟨0, rfl, h⟩
  · match k, h with
    | 0, h => exact Or.inl ⟨0, rfl, rfl, h⟩
theorem sel_2_0 {f1 f2 : List Nat × List Lay} {a1 a2 b1 : Sg} : SelOK [f1, f2] [f1] [a1, a2] [a1] [b1] [b1, a2] [0] := by
  refine ⟨fun i f h => ?_, fun i j k h1 h2 => ?_, fun i σ h => ?_, fun k σ h => ?_⟩
  · match i, h with
    | 0, h => exact ⟨0, rfl, h⟩
  · match i, j, h1, h2 with
    | 0, 0, _, _ => rfl
  · match i, h with
    | 0, h => exact ⟨0, rfl, h⟩
  · match k, h with
    | 0, h => exact Or.inl ⟨0, rfl, rfl, h⟩
    | 1, h =>
      refine Or.inr ⟨fun i hi => ?_, h⟩
      match i, hi with
      | 0, hi => cases hi
theorem sel_3_0 {f1 f2 f3 : List Nat × List Lay} {a1 a2 a3 b1 : Sg} : SelOK [f1, f2, f3] [f1] [a1, a2, a3] [a1] [b1] [b1, a2, a3] [0] := by
  refine ⟨fun i f h => ?_, fun i j k h1 h2 => ?_, fun i σ h => ?_, fun k σ h => ?_⟩
  · match i, h with
    | 0, h => exact ⟨0, rfl, h⟩
  · match i, j, h1, h2 with
    | 0, 0, _, _ => rfl
  · match i, h with
    | 0, h => exact ⟨0, rfl, h⟩
  · match k, h with
    | 0, h => exact Or.inl ⟨0, rfl, rfl, h⟩
    | 1, h =>
      refine Or.inr ⟨fun i hi => ?_, h⟩
      match i, hi with
      | 0, hi => cases hi
    | 2, h =>
      refine Or.inr ⟨fun i hi => ?_, h⟩
      match i, hi with
      | 0, hi => cases hi
theorem sel_3_1 {f1 f2 f3 : List Nat × List Lay} {a1 a2 a3 b2 : Sg} : SelOK [f1, f2, f3] [f2] [a1, a2, a3] [a2] [b2] [a1, b2, a3] [1] := by
  refine ⟨fun i f h => ?_, fun i j k h1 h2 => ?_, fun i σ h => ?_, fun k σ h => ?_⟩
  · match i, h with
    | 0, h => exact ⟨1, rfl, h⟩
  · match i, j, h1, h2 with
    | 0, 0, _, _ => rfl
  · match i, h with
    | 0, h => exact ⟨1, rfl, h⟩
  · match k, h with
    | 0, h =>
      refine Or.inr ⟨fun i hi => ?_, h⟩
      match i, hi with
      | 0, hi => cases hi
    | 1, h => exact Or.inl ⟨0, rfl, rfl, h⟩
    | 2, h =>
      refine Or.inr ⟨fun i hi => ?_, h⟩
      match i, hi with
      | 0, hi => cases hi
theorem sel_3_2 {f1 f2 f3 : List Nat × List Lay} {a1 a2 a3 b3 : Sg} : SelOK [f1, f2, f3] [f3] [a1, a2, a3] [a3] [b3] [a1, a2, b3] [2] := by
  refine ⟨fun i f h => ?_, fun i j k h1 h2 => ?_, fun i σ h => ?_, fun k σ h => ?_⟩
  · match i, h with
    | 0, h => exact ⟨2, rfl, h⟩
  · match i, j, h1, h2 with
    | 0, 0, _, _ => rfl
  · match i, h with
    | 0, h => exact ⟨2, rfl, h⟩
  · match k, h with
    | 0, h =>
      refine Or.inr ⟨fun i hi => ?_, h⟩
      match i, hi with
      | 0, hi => cases hi
    | 1, h =>
      refine Or.inr ⟨fun i hi => ?_, h⟩
      match i, hi with
      | 0, hi => cases hi
    | 2, h => exact Or.inl ⟨0, rfl, rfl, h⟩
theorem sel_3_02 {f1 f2 f3 : List Nat × List Lay} {a1 a2 a3 b1 b3 : Sg} : SelOK [f1, f2, f3] [f1, f3] [a1, a2, a3] [a1, a3] [b1, b3] [b1, a2, b3] [0, 2] := by
  refine ⟨fun i f h => ?_, fun i j k h1 h2 => ?_, fun i σ h => ?_, fun k σ h => ?_⟩
  · match i, h with
    | 0, h => exact ⟨0, rfl, h⟩
    | 1, h => exact ⟨2, rfl, h⟩
  · match i, j, h1, h2 with
    | 0, 0, _, _ => rfl
    | 0, 1, h1, h2 => cases h1; cases h2
    | 1, 0, h1, h2 => cases h1; cases h2
    | 1, 1, _, _ => rfl
  · match i, h with
    | 0, h => exact ⟨0, rfl, h⟩
    | 1, h => exact ⟨2, rfl, h⟩
  · match k, h with
    | 0, h => exact Or.inl ⟨0, rfl, rfl, h⟩
    | 1, h =>
      refine Or.inr ⟨fun i hi => ?_, h⟩
      match i, hi with
      | 0, hi => cases hi
      | 1, hi => cases hi
    | 2, h => exact Or.inl ⟨1, rfl, rfl, h⟩
theorem sel_3_12 {f1 f2 f3 : List Nat × List Lay} {a1 a2 a3 b2 b3 : Sg} : SelOK [f1, f2, f3] [f2, f3] [a1, a2, a3] [a2, a3] [b2, b3] [a1, b2, b3] [1, 2] := by
  refine ⟨fun i f h => ?_, fun i j k h1 h2 => ?_, fun i σ h => ?_, fun k σ h => ?_⟩
  · match i, h with
    | 0, h => exact ⟨1, rfl, h⟩
    | 1, h => exact ⟨2, rfl, h⟩
  · match i, j, h1, h2 with
    | 0, 0, _, _ => rfl
    | 0, 1, h1, h2 => cases h1; cases h2
    | 1, 0, h1, h2 => cases h1; cases h2
    | 1, 1, _, _ => rfl
  · match i, h with
    | 0, h => exact ⟨1, rfl, h⟩
    | 1, h => exact ⟨2, rfl, h⟩
  · match k, h with
    | 0, h =>
      refine Or.inr ⟨fun i hi => ?_, h⟩
      match i, hi with
      | 0, hi => cases hi
      | 1, hi => cases hi
    | 1, h => exact Or.inl ⟨0, rfl, rfl, h⟩
    | 2, h => exact Or.inl ⟨1, rfl, rfl, h⟩
theorem sel_3_012 {f1 f2 f3 : List Nat × List Lay} {a1 a2 a3 b1 b2 b3 : Sg} : SelOK [f1, f2, f3] [f1, f2, f3] [a1, a2, a3] [a1, a2, a3] [b1, b2, b3] [b1, b2, b3] [0, 1, 2] := by
  refine ⟨fun i f h => ?_, fun i j k h1 h2 => ?_, fun i σ h => ?_, fun k σ h => ?_⟩
  · match i, h with
    | 0, h => exact ⟨0, rfl, h⟩
    | 1, h => exact ⟨1, rfl, h⟩
    | 2, h => exact ⟨2, rfl, h⟩
  · match i, j, h1, h2 with
    | 0, 0, _, _ => rfl
    | 0, 1, h1, h2 => cases h1; cases h2
    | 0, 2, h1, h2 => cases h1; cases h2
    | 1, 0, h1, h2 => cases h1; cases h2
    | 1, 1, _, _ => rfl
    | 1, 2, h1, h2 => cases h1; cases h2
    | 2, 0, h1, h2 => cases h1; cases h2
    | 2, 1, h1, h2 => cases h1; cases h2
    | 2, 2, _, _ => rfl
  · match i, h with
    | 0, h => exact ⟨0, rfl, h⟩
    | 1, h => exact ⟨1, rfl, h⟩
    | 2, h => exact ⟨2, rfl, h⟩
  · match k, h with
    | 0, h => exact Or.inl ⟨0, rfl, rfl, h⟩
    | 1, h => exact Or.inl ⟨1, rfl, rfl, h⟩
    | 2, h => exact Or.inl ⟨2, rfl, rfl, h⟩
