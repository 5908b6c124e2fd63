/-! calls in the law's world -/
def PwB (D : va_G) (cI cZ : ClassId) (A : Nat → Prop) (s : State) (F : Fr) (rs : List Nat) (ss : List Sg) : List Nat → Heap → List Loc → Prop := fun ads H locs =>
  ads = rs ∧ PBs D cI cZ F ss H ∧ va_S A s.heap H locs ∧ RBs ss
def pushI (v : Option Int) (st : List AV) : List AV := match v with
  | none => st
  | some x => .inl x :: st
section BL
variable {p : Program} {l : Launch} {e : Env} {R : Room} {s : State} {m : MethodId} {args : Array Value} {below : List Frame} {meth : Method} {c : Code} {A : Nat → Prop} {D : va_G} {cI cZ : ClassId} {Q : State → Prop}
variable {cc : ByteArray} {nL kc ks pc : Nat} {L : List (Option AV)} {st : List AV} {F F' : Fr} {rs rs' sel : List Nat} {ss ss1 ss1' ss2 : List Sg} {v : Option Int}
theorem hd_room2 {d1 : Nat} {maxL mc ms : Nat} (hRf : d1 + 1 ≤ R.frames) (hRl : 8 + 31 + 40 * d1 ≤ R.locals) (hm : maxL ≤ 20) : (rmD d1 mc ms).frames + 1 ≤ R.frames ∧ 8 + (maxL + 11) + (rmD d1 mc ms).locals ≤ R.locals := by
  show d1 + 1 ≤ R.frames ∧ 8 + (maxL + 11) + 40 * d1 ≤ R.locals
  omega
/-- behind a call -/
theorem bl_back {mc ms : Nat} {stk crest cas : List Value} {H : Heap} {locs : List Loc} {ls : Array Slot} (hA : ∀ q : Nat, s.heap.size ≤ q → A q) (hF : FOK F) (hFA : ∀ f ∈ F, ∀ a ∈ f.1, A a) (hsel : SelOK F F' ss ss1 ss1' ss2 sel) (hP : PBs D cI cZ F ss H) (hS : va_S A s.heap H locs) (hR : RBs ss) (hL : lrs rs nL L ls) (hrest : vrs rs st crest)
    (hrun : va_Run p l e R s m args below meth c H locs kc ks mc ms (F0 m pc ls stk) crest (QF D cI cZ F' H.size v ss1' cas.toArray) (AFr F' H.size))
    (kk : Rg p l e R s m args below meth c (PwB D cI cZ A s F rs ss2) (kc + mc) (ks + ms) Q nL (pc + 3) L (pushI v st)) : W p l e R s m args below meth c H locs kc ks Q (F0 m pc ls stk) := by
  have hsub := hsel.af hFA (sz := H.size) (fun q hq => hA q (Nat.le_trans hS.1 hq))
  match v, hrun, kk with
  | none, hrun, kk =>
    refine va_callv (a := cas.toArray) hrun hS (fun q _ h => hsub q h) hsub (fun u t H1 locs1 ht _ _ hB _ hq hS1 => ?_)
    subst ht
    exact kk rs t.heap locs1 ls crest ⟨rfl, hsel.post hF hP hB.1 hq, hS1, hsel.rpost hR hB.2⟩ hL hrest
  | some x, hrun, kk =>
    refine va_calli (a := cas.toArray) hrun hS (fun q _ h => hsub q h) hsub (fun r u t H1 locs1 ht _ hp hB _ hq hS1 => ?_)
    subst ht
    rw [hp.1]
    exact kk rs t.heap locs1 ls _ ⟨rfl, hsel.post hF hP hB.1 hq, hS1, hsel.rpost hR hB.2⟩ hL ⟨⟨hp.2, rfl⟩, hrest⟩
theorem bl_pre {H : Heap} {locs : List Loc} (hA : ∀ q : Nat, s.heap.size ≤ q → A q) (hK : KN D cI cZ s) (hN : NX s) (hT : TH A s s.heap) (hFA : ∀ f ∈ F, ∀ a ∈ f.1, A a) (hsel : SelOK F F' ss ss1 ss1' ss2 sel) (hP : PBs D cI cZ F ss H) (hS : va_S A s.heap H locs) {U : State} (hU : U.heap = H) (hw : s.WarmedH U.vm) : PreF D cI cZ F' H.size ss1 U := by
  have hsub := hsel.af hFA (sz := H.size) (fun q hq => hA q (Nat.le_trans hS.1 hq))
  have hTH : TH (AFr F' H.size) s H := (hT.kept hS.2.1).narrow hsub
  exact ⟨by rw [hU], by rw [hU]; exact hsel.pre hP, KN.moved hw hK, NX.moved hw hN, by rw [hU]; exact TH.moved hw hTH⟩
/-- a method of the law -/
theorem bl_S {y : MethodName} {bytes : ByteArray} {maxL idx n d1 g : Nat} {ret : Option FieldType} {as as' : List AV} (hC : Cx 12 cc nL false p s m args meth c A D cI cZ) (hN : NX s) (hT : TH A s s.heap) (hF : FOK F) (hFA : ∀ f ∈ F, ∀ a ∈ f.1, A a) (hRf : d1 + 1 ≤ R.frames) (hRl : 8 + 31 + 40 * d1 ≤ R.locals) (hkc : kc + g ≤ R.cells) (hks : ks + 6 * g ≤ R.slots)
    (hd : decode cc pc = .ok (.invokestatic idx, 3)) (hl : Cond.methodLink (ownN 12) idx y ∈ TB) (hsm : Cond.static y ∈ TB) (hm : MOK y bytes maxL ret n) (hn : as.length = n) (hst : st.length ≤ 8)
    (hsel : SelOK F F' ss ss1 ss1' ss2 sel) (hcv : ∀ cas, vrs rs as cas → vrs rs' as' cas) (hlc : LC l d1 g y (wsM y bytes maxL ret) as' rs' F' ss1 v ss1') (st0 : List AV) (hs0 : st0 = as.reverse ++ st)
    (kk : Rg p l e R s m args below meth c (PwB D cI cZ A s F rs ss2) (kc + g) (ks + 6 * g) Q nL (pc + 3) L (pushI v st)) : Rg p l e R s m args below meth c (PwB D cI cZ A s F rs ss) kc ks Q nL pc L st0 := by
  intro ads H locs ls cst hW hL hv
  subst hs0
  obtain ⟨rfl, hP, hS, hR⟩ := hW
  obtain ⟨cr, crest, rfl, h1, h2⟩ := vrs_app hv
  have h3 := vrs_rev h1
  rw [List.reverse_reverse] at h3
  obtain ⟨hx, hb, hml, hown, hts, -, -, hK, hA⟩ := id hC
  have hrun := va_runS (meth := meth) (R := R) (l := l) (e := e) (below := below) (H := H) (locs := locs) (cells := kc) (slots := ks) (g := F0 m pc ls (cr.reverse.reverse ++ crest)) (As := cr.reverse) (rest := crest) ⟨hx, hb, hml, hown, hts⟩ (hlc D cI cZ H.size cr.reverse (hcv _ h3) (hsel.fok hF) (hsel.rpre hR)) (va_cwS n hts (goodTB (fun w hw => by
    rcases List.mem_append.mp hw with hw | hw
    · simp only [List.mem_cons, List.not_mem_nil, or_false] at hw
      rcases hw with rfl | rfl | rfl
      · exact hl
      · exact hsm
      · exact hm.2.1
    · exact in_wsM hm w hw)) rfl rfl rfl hm.2.2.1 (hd_room2 hRf hRl hm.2.2.2.2)) ⟨PreF.blind, fun U hU hw => ⟨rfl, bl_pre hA hK hN hT hFA hsel hP hS hU hw⟩⟩ rfl (by rw [← vrs_len h3, hn]) hL.1 rfl (by show 2 * 0 + _ ≤ 8; rw [vrs_cat h2]; omega) hd ⟨hkc, hks⟩
  rw [List.reverse_reverse] at hrun
  exact bl_back hA hF hFA hsel hP hS hR hL h2 hrun kk
/-- a helper -/
theorem bl_H {y : MethodName} {bytes : ByteArray} {maxL idx n d1 g : Nat} {hh : List (Nat × Nat × Nat × Nat)} {as as' : List AV} (hC : Cx 12 cc nL false p s m args meth c A D cI cZ) (hN : NX s) (hT : TH A s s.heap) (hF : FOK F) (hFA : ∀ f ∈ F, ∀ a ∈ f.1, A a) (hRf : d1 + 1 ≤ R.frames) (hRl : 8 + 31 + 40 * d1 ≤ R.locals) (hkc : kc + g ≤ R.cells) (hks : ks + 6 * g ≤ R.slots)
    (hd : decode cc pc = .ok (.invokestatic idx, 3)) (hl : Cond.methodLink (ownN 12) idx y ∈ TB) (hcw : Cond.codeWith y bytes maxL (some .int) hh ∈ TB) (hsw : Cond.static y ∈ TB) (hin : Cond.initialized y.cls ∈ TB) (hmx : maxL ≤ 20)
    (hy : y.cls ≠ "java/lang/invoke/MethodHandle" ∧ y.cls ≠ "java/lang/invoke/VarHandle" ∧ (parseMethodDescriptor y.desc).map (fun d => d.parameters.length) = some n) (hn : as.length = n) (hst : st.length ≤ 8)
    (hsel : SelOK F F' ss ss1 ss1' ss2 sel) (hcv : ∀ cas, vrs rs as cas → vrs rs' as' cas) (hlc : LC l d1 g y (wsH y bytes maxL hh) as' rs' F' ss1 v ss1') (st0 : List AV) (hs0 : st0 = as.reverse ++ st)
    (kk : Rg p l e R s m args below meth c (PwB D cI cZ A s F rs ss2) (kc + g) (ks + 6 * g) Q nL (pc + 3) L (pushI v st)) : Rg p l e R s m args below meth c (PwB D cI cZ A s F rs ss) kc ks Q nL pc L st0 := by
  intro ads H locs ls cst hW hL hv
  subst hs0
  obtain ⟨rfl, hP, hS, hR⟩ := hW
  obtain ⟨cr, crest, rfl, h1, h2⟩ := vrs_app hv
  have h3 := vrs_rev h1
  rw [List.reverse_reverse] at h3
  obtain ⟨hx, hb, hml, hown, hts, -, -, hK, hA⟩ := id hC
  have hcwr := vx_cwSW (R := R) (s := s) (args := args) (own := ownN 12) (index := idx) (maxL := maxL) (mc := g) (ms := 6 * g) (y := y) (bytes := bytes) (ret := some .int) (hh := hh) (Ts := TB) (ws := wsH y bytes maxL hh) (ws' := TB) (rm := rmD d1 g (6 * g)) n hts (goodTB (fun w hw => by
    unfold va_wsS at hw
    rcases List.mem_append.mp hw with hw | hw
    · simp only [List.mem_cons, List.not_mem_nil, or_false] at hw
      rcases hw with rfl | rfl | rfl
      · exact hl
      · exact hsw
      · exact hin
    · rcases List.mem_cons.mp hw with rfl | hw
      · exact hcw
      · exact hw)) rfl rfl rfl hy (hd_room2 hRf hRl hmx)
  have hrun := vx_runSW (cc := cc) (g := F0 m pc ls (cr.reverse.reverse ++ crest)) (H := H) (locs := locs) (cells := kc) (slots := ks) (e := e) (below := below) (c := c) (meth := meth) (Ts := TB) (As := cr.reverse) (rest := crest) ⟨hx, hb, hml, hown, hts⟩ (hlc D cI cZ H.size cr.reverse (hcv _ h3) (hsel.fok hF) (hsel.rpre hR)) hcwr ⟨PreF.blind, fun U hU hw => ⟨rfl, bl_pre hA hK hN hT hFA hsel hP hS hU hw⟩⟩ rfl (by rw [← vrs_len h3, hn]) hL.1 rfl (by show 2 * 0 + _ ≤ 8; rw [vrs_cat h2]; omega) hd ⟨hkc, hks⟩
  rw [List.reverse_reverse] at hrun
  exact bl_back hA hF hFA hsel hP hS hR hL h2 hrun kk
/-- a method of the class -/
theorem bl_V {M1 : Mr} {ax : List Nat} {jb idx n d1 g k0 a0 : Nat} {σ : Sg} {as as' : List AV} (hC : Cx 12 cc nL false p s m args meth c A D cI cZ) (hN : NX s) (hT : TH A s s.heap) (hF : FOK F) (hFA : ∀ f ∈ F, ∀ a ∈ f.1, A a) (hRf : d1 + 1 ≤ R.frames) (hRl : 8 + 31 + 40 * d1 ≤ R.locals) (hkc : kc + g ≤ R.cells) (hks : ks + 6 * g ≤ R.slots)
    (hd : decode cc pc = .ok (.invokevirtual idx, 3)) (hl : Cond.methodLink (ownN 12) idx M1.2.1 ∈ TB) (hs : Cond.instanceMethod M1.2.1 ∈ TB ∧ Cond.selects M1.2.1.cls M1.2.1 M1.2.1 ∈ TB) (hm : MOK M1.2.1 M1.2.2.1 M1.2.2.2.1 M1.2.2.2.2 n) (hy : M1.2.1.cls = ownN 10) (hn : as.length = n) (hst : st.length ≤ 8)
    (hjb : F[jb]? = some (ax, LAYC)) (hjs : ss[jb]? = some σ) (hk0 : rs[k0]? = some a0) (ha0 : ax[0]? = some a0)
    (hsel : SelOK F F' ss ss1 ss1' ss2 sel) (hcv : ∀ cas, vrs rs (.inr k0 :: as) cas → vrs rs' as' cas) (hlc : LC l d1 g M1.2.1 (wsM M1.2.1 M1.2.2.1 M1.2.2.2.1 M1.2.2.2.2) as' rs' F' ss1 v ss1') (st0 : List AV) (hs0 : st0 = (.inr k0 :: as).reverse ++ st)
    (kk : Rg p l e R s m args below meth c (PwB D cI cZ A s F rs ss2) (kc + g) (ks + 6 * g) Q nL (pc + 3) L (pushI v st)) : Rg p l e R s m args below meth c (PwB D cI cZ A s F rs ss) kc ks Q nL pc L st0 := by
  intro ads H locs ls cst hW hL hv
  subst hs0
  obtain ⟨rfl, hP, hS, hR⟩ := hW
  obtain ⟨cr, crest, rfl, h1, h2⟩ := vrs_app hv
  have h3 := vrs_rev h1
  rw [List.reverse_reverse] at h3
  obtain ⟨hx, hb, hml, hown, hts, -, -, hK, hA⟩ := id hC
  obtain ⟨cb, cas, hcr⟩ : ∃ cb cas, cr.reverse = cb :: cas := by
    cases h : cr.reverse with
    | nil => rw [h] at h3; exact h3.elim
    | cons a t => exact ⟨a, t, rfl⟩
  rw [hcr] at h3
  have hcr2 : cr = (cb :: cas).reverse := by rw [← hcr, List.reverse_reverse]
  subst hcr2
  have hcb : cb = .ref a0 := by
    obtain ⟨a, ha, hq⟩ := id h3.1
    rw [hk0] at ha; cases ha; exact hq
  subst hcb
  have hfk1 : ax.length = LAYC.length := (hF.1 jb (ax, LAYC) hjb).1
  have hfk2 : NDa ax := (hF.1 jb (ax, LAYC) hjb).2
  have hfA : ∀ a ∈ ax, A a := hFA (ax, LAYC) (List.mem_of_getElem? hjb)
  have hp0 : va_P D vwCl (mkW ax cI cZ LAYC σ) H := hP jb (ax, LAYC) σ hjb hjs
  have hdd : va_D A (mkW ax cI cZ LAYC σ) := mkW_D hfk1 hfk2 hfA
  have hRσ : ∀ k i : Nat, inR (σ k i) := hR σ (List.mem_of_getElem? hjs)
  have hWH : WH s A D cI cZ ax ax (LAYC, σ) H locs := ⟨hp0, hdd, hS, hfk1, hRσ, List.prefix_rfl⟩
  have hk9 : LAYC[0]? = some (10, [3, 7, 12, 24, 26, 29, 34, 35, 45, 51]) := rfl
  have hrun := va_runV (meth := meth) (R := R) (l := l) (e := e) (below := below) (H := H) (locs := locs) (cells := kc) (slots := ks) (g := F0 m pc ls ((Value.ref a0 :: cas).reverse ++ crest)) (b := a0) (As := cas) (rest := crest) ⟨hx, hb, hml, hown, hts⟩ (hlc D cI cZ H.size (.ref a0 :: cas) (hcv _ h3) (hsel.fok hF) (hsel.rpre hR)) (cwV n hts (goodTB (fun w hw => by
    rcases List.mem_append.mp hw with hw | hw
    · simp only [List.mem_cons, List.not_mem_nil, or_false] at hw
      rcases hw with rfl | rfl | rfl | rfl
      · exact hl
      · exact hs.1
      · exact hs.2
      · exact hm.2.1
    · exact in_wsM hm w hw)) rfl rfl rfl ⟨rfl, hm.2.2.1⟩ (hd_room2 hRf hRl hm.2.2.2.2)) ⟨PreF.blind, by rw [hy]; exact zrecv_of hWH hK.1 (by decide) hk9 ha0, fun U hU hw => ⟨rfl, bl_pre hA hK hN hT hFA hsel hP hS hU hw⟩⟩ rfl (by rw [← vrs_len h3.2, hn]) hL.1 (by show (Value.ref a0 :: cas).reverse ++ crest = _; rw [List.reverse_cons, List.append_assoc]; rfl) (by show 2 * 0 + _ ≤ 8; rw [vrs_cat h2]; omega) hd ⟨hkc, hks⟩
  exact bl_back hA hF hFA hsel hP hS hR hL h2 hrun kk
/-- the row of counts -/
theorem bl_rd {jn k1 an : Nat} {ν : Sg} {i : Int} (hC : Cx 12 cc nL false p s m args meth c A D cI cZ) (hd : decode cc pc = .ok (.iaload, 1)) (hjn : F[jn]? = some ([an], [(12, [4])])) (hjs : ss[jn]? = some ν) (hk1 : rs[k1]? = some an) (h0 : 0 ≤ i) (h1 : i < 4)
    (kk : Rg p l e R s m args below meth c (PwB D cI cZ A s F rs ss) kc ks Q nL (pc + 1) L (.inl (ν 0 i.toNat) :: st)) : Rg p l e R s m args below meth c (PwB D cI cZ A s F rs ss) kc ks Q nL pc L (.inl i :: .inr k1 :: st) := by
  intro ads H locs ls cst hW hL hv
  obtain ⟨rfl, hP, hS, hR⟩ := hW
  obtain ⟨hx, hb, -, hown, hts, -, -, ⟨hK, hN⟩, -⟩ := hC
  match cst, hv with
  | cx :: cv :: cst, hv =>
    obtain ⟨hxr, rfl⟩ := vr_int hv.1
    obtain ⟨a, ha, rfl⟩ := id hv.2.1
    rw [hk1] at ha
    obtain rfl : an = a := Option.some.inj ha
    have hrow := hP jn _ ν hjn hjs
    have he : (mkW [an] cI cZ [(12, [4])] ν)[0]? = some (an, .inl (cI, 4, .inl (fun i => Int32.ofInt (ν 0 i)))) := rfl
    refine va_iald hx hb hK hrow 0 0 he rfl (vp_in_int hxr h0 h1) hd ?_
    rw [clamp_nat hxr]
    exact kk ads H locs ls _ ⟨rfl, hP, hS, hR⟩ hL ⟨⟨hR ν (List.mem_of_getElem? hjs) 0 _, rfl⟩, hv.2.2⟩
  | [cy], hv => exact hv.2.elim
end BL
