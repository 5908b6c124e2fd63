/-! contracts: a method at an abstract state; calls; returns; throws -/
theorem goodTB {ws : List Cond} (h : ∀ w ∈ ws, w ∈ TB) : GoodIn TB ws := fun w hw => ⟨h w hw, good_of_word (List.mem_filter.mp (h w hw)).2⟩
def rmD (d mc ms : Nat) : Room := { frames := d, cells := mc, slots := ms, locals := 40 * d }
def wsM (y : MethodName) (bytes : ByteArray) (maxL : Nat) (ret : Option FieldType) : List Cond := .code y bytes maxL ret :: TB
def AA (ads : List Nat) (sz : Nat) : Nat → Prop := fun q => q ∈ ads ∨ sz ≤ q
/-- the world behind a method -/
def BW (D : va_G) (cI cZ : ClassId) (A : Nat → Prop) (ads0 : List Nat) (S' : LSt) (ads' : List Nat) (t : State) : Prop :=
  va_P D vwCl (mkW ads' cI cZ S'.1 S'.2) t.heap ∧ va_K D vwCl (aTys cI cZ) t ∧ va_D A (mkW ads' cI cZ S'.1 S'.2) ∧ ads'.length = S'.1.length ∧ (∀ k i : Nat, inR (S'.2 k i)) ∧ ads0 <+: ads'
def QR (D : va_G) (cI cZ : ClassId) (A : Nat → Prop) (ads0 : List Nat) (v : Option AV) (S' : LSt) : Array Value → State → Outcome → State → Prop := match v with
  | none => va_Qv (fun _ : List Nat => True) (BW D cI cZ A ads0 S') A
  | some (.inl x) => va_Qi (fun (r : Int32) (_ : List Nat) => r = Int32.ofInt x ∧ inR x) (BW D cI cZ A ads0 S') A
  | some (.inr k) => va_Qr (fun _ : List Nat => True) (fun ads' a t => ads'[k]? = some a ∧ BW D cI cZ A ads0 S' ads' t) A
def XO (D : va_G) (cI cZ : ClassId) (A : Nat → Prop) (ads0 : List Nat) (E : Nat) (S' : LSt) : String → State → State → Prop :=
  vx_X (fun _ : List Nat => True) (fun E' ads' t => E' = exN E ∧ BW D cI cZ A ads0 S' ads' t) A
/-- the texts and the Throwable's statics that a throw needs -/
def TH (A : Nat → Prop) (U : State) (H : Heap) : Prop :=
  vx_Zq Bundle.tN "UNASSIGNED_STACK" Bundle.steD A U H ∧ vx_Zq Bundle.tN "SUPPRESSED_SENTINEL" Bundle.listD A U H ∧
  (∃ a, vk_R "Patternforge" 316 "there is no such one" a U) ∧ (∃ a, vk_R "Patternforge" 323 "this can not be told" a U) ∧ ∃ a, vk_R "Patternforge" 328 "this can not be done now" a U
def PreW (D : va_G) (cI cZ : ClassId) (ads : List Nat) (sz : Nat) (S : LSt) (U : State) : Prop :=
  U.heap.size = sz ∧ va_P D vwCl (mkW ads cI cZ S.1 S.2) U.heap ∧ KN D cI cZ U ∧ va_D (fun _ => True) (mkW ads cI cZ S.1 S.2)
/-- the method returns v, and the world is S' -/
def CT (l : Launch) (d : Nat) (y : MethodName) (bytes : ByteArray) (maxL : Nat) (ret : Option FieldType) (as : List AV) (S : LSt) (v : Option AV) (S' : LSt) : Prop :=
  ∀ (D : va_G) (cI cZ : ClassId) (ads : List Nat) (sz : Nat) (cvs : List Value), vrs ads as cvs → ads.length = S.1.length → (∀ k i : Nat, inR (S.2 k i)) →
    Met l y (wsM y bytes maxL ret) (rmD d (S'.1.length - S.1.length) (nSl S'.1 - nSl S.1)) (va_Pc cvs (PreW D cI cZ ads sz S)) (QR D cI cZ (AA ads sz) ads v S') (S'.1.length - S.1.length) (nSl S'.1 - nSl S.1) (AA ads sz)
/-- the method throws, and the world is S' -/
def CX (l : Launch) (d : Nat) (y : MethodName) (bytes : ByteArray) (maxL : Nat) (ret : Option FieldType) (as : List AV) (S : LSt) (E : Nat) (S' : LSt) : Prop :=
  ∀ (D : va_G) (cI cZ : ClassId) (ads : List Nat) (sz : Nat) (cvs : List Value), vrs ads as cvs → ads.length = S.1.length → (∀ k i : Nat, inR (S.2 k i)) →
    vx_Met l y (wsM y bytes maxL ret) (rmD d 1 6) (va_Pc cvs (fun U => PreW D cI cZ ads sz S U ∧ TH (AA ads sz) U U.heap)) (va_Qv (fun _ : List Nat => False) (BW D cI cZ (AA ads sz) ads S') (AA ads sz)) (XO D cI cZ (AA ads sz) ads E S') 1 6 (AA ads sz)
theorem frameBlind_pre {D : va_G} {cI cZ : ClassId} {ads : List Nat} {sz : Nat} {S : LSt} {cvs : List Value} : FrameBlind (va_Pc cvs (PreW D cI cZ ads sz S)) :=
  fun a U g mk q => by
    obtain ⟨q0, q1, qP, qK, qD⟩ := q
    exact ⟨q0, q1, qP, KN.moved (s := U) (U := U.calling g mk a) (State.WarmedH.refl U) qK, qD⟩
theorem TH.moved {A : Nat → Prop} {u U : State} {H : Heap} (hw : u.WarmedH U.vm) (h : TH A u H) : TH A U H := by
  obtain ⟨h1, h2, ⟨a, h3⟩, ⟨b, h4⟩, ⟨c, h5⟩⟩ := h
  exact ⟨vx_Zq.moved hw.alike h1, vx_Zq.moved hw.alike h2, ⟨a, vk_R.warm hw h3⟩, ⟨b, vk_R.warm hw h4⟩, ⟨c, vk_R.warm hw h5⟩⟩
theorem TH.kept {A : Nat → Prop} {U : State} {H H1 : Heap} (h : TH A U H) (hq : ∀ a : Nat, a < H.size → ¬ A a → H1[a]? = H[a]?) : TH A U H1 :=
  ⟨vx_Zq.kept h.1 hq, vx_Zq.kept h.2.1 hq, h.2.2⟩
theorem TH.narrow {A B : Nat → Prop} {U : State} {H : Heap} (h : TH A U H) (hAB : ∀ q, B q → A q) : TH B U H :=
  ⟨vx_Zq.narrow h.1 hAB, vx_Zq.narrow h.2.1 hAB, h.2.2⟩
theorem frameBlind_preX {D : va_G} {cI cZ : ClassId} {ads : List Nat} {sz : Nat} {S : LSt} {cvs : List Value} : FrameBlind (va_Pc cvs (fun U => PreW D cI cZ ads sz S U ∧ TH (AA ads sz) U U.heap)) :=
  fun a U g mk q => by
    obtain ⟨q0, ⟨q1, qP, qK, qD⟩, qT⟩ := q
    refine ⟨q0, ⟨q1, qP, KN.moved (s := U) (U := U.calling g mk a) (State.WarmedH.refl U) qK, qD⟩, ?_⟩
    exact TH.moved (u := U) (U := U.calling g mk a) (State.WarmedH.refl U) qT
section RN
variable {p : Program} {l : Launch} {e : Env} {R : Room} {s : State} {m : MethodId} {args : Array Value} {below : List Frame} {meth : Method} {c : Code} {A : Nat → Prop} {D : va_G} {cI cZ : ClassId} {Q : State → Prop}
variable {on : Nat} {cc : ByteArray} {nL : Nat} {init : Bool} {ads0 : List Nat} {n0 n1 pc : Nat} {L : List (Option AV)} {st : List AV} {S S' : LSt}
theorem AA_sub {ads : List Nat} {H : Heap} {locs : List Loc} (hW : WH s A D cI cZ ads0 ads S H locs) (hA : ∀ q : Nat, s.heap.size ≤ q → A q) : ∀ q, AA ads H.size q → A q := by
  intro q h
  rcases h with h | h
  · obtain ⟨k, hk⟩ := List.getElem?_of_mem h
    have hkl := (List.getElem?_eq_some_iff.mp hk).1
    have h1 := mkW_get ads cI cZ S.1 S.2 k
    rw [List.getElem?_eq_getElem (l := S.1) (show k < S.1.length by rw [← hW.2.2.2.1]; exact hkl)] at h1
    have h2 := hW.2.1.2 k _ h1
    rw [getD_of hk] at h2
    exact h2
  · exact hA q (Nat.le_trans hW.2.2.1.1 h)
/-- behind a call that returns -/
theorem back_world {ads : List Nat} {H H1 : Heap} {locs locs1 : List Loc} {ads' : List Nat} {t : State} (hW : WH s A D cI cZ ads0 ads S H locs) (hA : ∀ q : Nat, s.heap.size ≤ q → A q) (ht : t.heap = H1) (hB : BW D cI cZ (AA ads H.size) ads S' ads' t) (hS : va_S A s.heap H1 locs1) :
    WH s A D cI cZ ads0 ads' S' H1 locs1 := by
  obtain ⟨b1, b2, b3, b4, b5, b6⟩ := hB
  subst ht
  exact ⟨b1, b3.weaken (fun k q _ h => AA_sub hW hA q.1 h), hS, b4, b5, hW.2.2.2.2.2.trans b6⟩
/-- how a call is run: any of the kinds -/
def CallG (p : Program) (l : Launch) (e : Env) (R : Room) (s : State) (m : MethodId) (args : Array Value) (below : List Frame) (meth : Method) (c : Code) (nL pc : Nat) (ls : Array Slot) (y : MethodName) (bytes : ByteArray) (maxL : Nat) (ret : Option FieldType) (as : List AV) (S : LSt) (d : Nat) (st : List AV) (A : Nat → Prop) (D : va_G) (cI cZ : ClassId) (ads0 : List Nat) : Prop :=
  ∀ (ads : List Nat) (H : Heap) (locs : List Loc) (cells slots : Nat) (cas crest : List Value) (v : Option AV) (S' : LSt), WH s A D cI cZ ads0 ads S H locs → vrs ads as cas → vrs ads st crest → ls.size = nL → CT l d y bytes maxL ret as S v S' → cells + (S'.1.length - S.1.length) ≤ R.cells → slots + (nSl S'.1 - nSl S.1) ≤ R.slots →
    va_Run p l e R s m args below meth c H locs cells slots (S'.1.length - S.1.length) (nSl S'.1 - nSl S.1) (F0 m pc ls (cas.reverse ++ crest)) crest (QR D cI cZ (AA ads H.size) ads v S' cas.toArray) (AA ads H.size)
def CallGX (p : Program) (l : Launch) (e : Env) (R : Room) (s : State) (m : MethodId) (args : Array Value) (below : List Frame) (meth : Method) (c : Code) (nL pc : Nat) (ls : Array Slot) (y : MethodName) (bytes : ByteArray) (maxL : Nat) (ret : Option FieldType) (as : List AV) (S : LSt) (d : Nat) (st : List AV) (A : Nat → Prop) (D : va_G) (cI cZ : ClassId) (ads0 : List Nat) : Prop :=
  ∀ (ads : List Nat) (H : Heap) (locs : List Loc) (cells slots : Nat) (cas crest : List Value) (E : Nat) (S' : LSt), WH s A D cI cZ ads0 ads S H locs → TH (AA ads H.size) s H → vrs ads as cas → vrs ads st crest → ls.size = nL → CX l d y bytes maxL ret as S E S' → cells + 1 ≤ R.cells → slots + 6 ≤ R.slots →
    vx_Run p l e R s m args below meth c H locs cells slots 1 6 (F0 m pc ls (cas.reverse ++ crest)) crest (va_Qv (fun _ : List Nat => False) (BW D cI cZ (AA ads H.size) ads S') (AA ads H.size) cas.toArray) (XO D cI cZ (AA ads H.size) ads E S') (AA ads H.size)
theorem pre_now {ads : List Nat} {H : Heap} {locs : List Loc} (hW : WH s A D cI cZ ads0 ads S H locs) (hK : KN D cI cZ s) {U : State} (hU : U.heap = H) (hw : s.WarmedH U.vm) : PreW D cI cZ ads H.size S U :=
  ⟨by rw [hU], by rw [hU]; exact hW.1, KN.moved hw hK, hW.2.1.weaken (fun _ _ _ _ => trivial)⟩
theorem hd_room {d1 d : Nat} {maxL mc ms : Nat} (hRf : R.frames = d) (hRl : R.locals = 40 * d) (h : d1 + 1 ≤ d) (hm : maxL ≤ 20) : (rmD d1 mc ms).frames + 1 ≤ R.frames ∧ 8 + (maxL + 11) + (rmD d1 mc ms).locals ≤ R.locals := by
  rw [hRf, hRl]
  show d1 + 1 ≤ d ∧ 8 + (maxL + 11) + 40 * d1 ≤ 40 * d
  omega
theorem in_wsM {y : MethodName} {bytes : ByteArray} {maxL n : Nat} {ret : Option FieldType} (h : MOK y bytes maxL ret n) : ∀ w ∈ wsM y bytes maxL ret, w ∈ TB := by
  intro w hw
  rcases List.mem_cons.mp hw with rfl | hw
  · exact h.1
  · exact hw
variable {y : MethodName} {bytes : ByteArray} {maxL n idx d d1 : Nat} {ret : Option FieldType} {as : List AV} {ls : Array Slot}
theorem callG_S (hC : Cx on cc nL init p s m args meth c A D cI cZ) (hRf : R.frames = d) (hRl : R.locals = 40 * d) (hd : decode cc pc = .ok (.invokestatic idx, 3)) (hl : Cond.methodLink (ownN on) idx y ∈ TB) (hs : Cond.static y ∈ TB) (hm : MOK y bytes maxL ret n) (hn : as.length = n) (hst : st.length ≤ 8) (hd1 : d1 + 1 ≤ d) :
    CallG p l e R s m args below meth c nL pc ls y bytes maxL ret as S d1 st A D cI cZ ads0 := by
  intro ads H locs cells slots cas crest v S' hW has hrest hsz hct hcl hsl
  obtain ⟨hx, hb, hml, hown, hts, -, -, ⟨hK, hN⟩, hA⟩ := hC
  refine va_runS (As := cas) (rest := crest) ⟨hx, hb, hml, hown, hts⟩ (hct D cI cZ ads H.size cas has hW.2.2.2.1 hW.2.2.2.2.1) (va_cwS n hts (goodTB (fun w hw => ?_)) rfl rfl rfl hm.2.2.1 (hd_room hRf hRl hd1 hm.2.2.2.2)) ⟨frameBlind_pre, fun U hU hw => ⟨rfl, pre_now hW ⟨hK, hN⟩ hU hw⟩⟩ rfl (by rw [← vrs_len has, hn]) hsz rfl (by show 2 * 0 + _ ≤ 8; rw [vrs_cat hrest]; omega) hd ⟨hcl, hsl⟩
  rcases List.mem_append.mp hw with hw | hw
  · simp only [List.mem_cons, List.not_mem_nil, or_false] at hw
    rcases hw with rfl | rfl | rfl
    · exact hl
    · exact hs
    · exact hm.2.1
  · exact in_wsM hm w hw
theorem callG_SN {host : String} (hC : Cx on cc nL init p s m args meth c A D cI cZ) (hRf : R.frames = d) (hRl : R.locals = 40 * d) (hd : decode cc pc = .ok (.invokestatic idx, 3)) (hl : (ownN on, idx, y, host) ∈ NL) (hs : Cond.static y ∈ TB) (hm : MOK y bytes maxL ret n) (hn : as.length = n) (hst : st.length ≤ 8) (hd1 : d1 + 1 ≤ d) :
    CallG p l e R s m args below meth c nL pc ls y bytes maxL ret as S d1 st A D cI cZ ads0 := by
  intro ads H locs cells slots cas crest v S' hW has hrest hsz hct hcl hsl
  obtain ⟨hx, hb, hml, hown, hts, -, -, ⟨hK, hN⟩, hA⟩ := hC
  exact va_runSN (As := cas) (rest := crest) ⟨hx, hb, hml, hown, hts⟩ (hct D cI cZ ads H.size cas has hW.2.2.2.1 hW.2.2.2.2.1) ⟨va_cnB n hts (goodTB (in_wsM hm)) rfl rfl rfl (hN.1 _ hl) (hts _ hm.2.1) hm.2.2.1 (hd_room hRf hRl hd1 hm.2.2.2.2), hts _ hs, trivial⟩ ⟨frameBlind_pre, fun U hU hw => ⟨rfl, pre_now hW ⟨hK, hN⟩ hU hw⟩⟩ rfl (by rw [← vrs_len has, hn]) hsz rfl (by show 2 * 0 + _ ≤ 8; rw [vrs_cat hrest]; omega) hd ⟨hcl, hsl⟩
theorem zrecv_of {ads : List Nat} {H : Heap} {locs : List Loc} {ci k a : Nat} {q : List Nat} (hW : WH s A D cI cZ ads0 ads S H locs) (hK : va_K D vwCl (aTys cI cZ) s) (hci : ci < 12) (hk : S.1[k]? = some (ci, q)) (ha : ads[k]? = some a) : ∃ cell : Cell, H[a]? = some cell ∧ cell.vm.isStatics = false ∧ s.vm.findClass (ownN ci) = some cell.cls := by
  obtain ⟨cq, hcq⟩ := vwCl_some hci
  have he := mkW_get ads cI cZ S.1 S.2 k
  rw [hk, getD_of ha] at he
  have h1 := va_recv (a := a) (fs := q.mapIdx (fun i s => if s = 0 then Value.int (Int32.ofInt (S.2 k i)) else if s = 1 then Value.null else Value.ref (ads.getD (s - 2) 0))) hK hW.1 hcq (he.trans (by simp [cellE, hci]))
  rw [(cls_ok ci cq hcq).1] at h1
  exact h1
theorem callG_V {ci k : Nat} {q : List Nat} (hC : Cx on cc nL init p s m args meth c A D cI cZ) (hRf : R.frames = d) (hRl : R.locals = 40 * d) (hd : decode cc pc = .ok (.invokevirtual idx, 3)) (hl : Cond.methodLink (ownN on) idx y ∈ TB) (hs : Cond.instanceMethod y ∈ TB ∧ Cond.selects y.cls y y ∈ TB) (hm : MOK y bytes maxL ret n) (hci : ci < 12) (hy : y.cls = ownN ci) (hk : S.1[k]? = some (ci, q)) (hn : as.length = n) (hst : st.length ≤ 8) (hd1 : d1 + 1 ≤ d) :
    CallG p l e R s m args below meth c nL pc ls y bytes maxL ret (.inr k :: as) S d1 st A D cI cZ ads0 := by
  intro ads H locs cells slots cas crest v S' hW has hrest hsz hct hcl hsl
  obtain ⟨hx, hb, hml, hown, hts, -, -, ⟨hK, hN⟩, hA⟩ := hC
  match cas, has with
  | cb :: cas, has =>
    obtain ⟨a, ha, rfl⟩ := id has.1
    refine va_runV (b := a) (As := cas) (rest := crest) ⟨hx, hb, hml, hown, hts⟩ (hct D cI cZ ads H.size (.ref a :: cas) has hW.2.2.2.1 hW.2.2.2.2.1) (cwV n hts (goodTB (fun w hw => ?_)) rfl rfl rfl ⟨rfl, hm.2.2.1⟩ (hd_room hRf hRl hd1 hm.2.2.2.2)) ⟨frameBlind_pre, by rw [hy]; exact zrecv_of hW hK hci hk ha, fun U hU hw => ⟨rfl, pre_now hW ⟨hK, hN⟩ hU hw⟩⟩ rfl (by rw [← vrs_len has.2, hn]) hsz (by show (Value.ref a :: cas).reverse ++ crest = _; rw [List.reverse_cons, List.append_assoc]; rfl) (by show 2 * 0 + _ ≤ 8; rw [vrs_cat hrest]; omega) hd ⟨hcl, hsl⟩
    rcases List.mem_append.mp hw with hw | hw
    · simp only [List.mem_cons, List.not_mem_nil, or_false] at hw
      rcases hw with rfl | rfl | rfl | rfl
      · exact hl
      · exact hs.1
      · exact hs.2
      · exact hm.2.1
    · exact in_wsM hm w hw
theorem callG_I {k : Nat} (hC : Cx on cc nL init p s m args meth c A D cI cZ) (hRf : R.frames = d) (hRl : R.locals = 40 * d) (hd : decode cc pc = .ok (.invokespecial idx, 3)) (hl : Cond.methodLink (ownN on) idx y ∈ TB) (hs : Cond.instanceMethod y ∈ TB) (hyn : y.name = "<init>") (hm : MOK y bytes maxL none n) (hn : as.length = n) (hst : st.length ≤ 8) (hd1 : d1 + 1 ≤ d) :
    CallG p l e R s m args below meth c nL pc ls y bytes maxL none (.inr k :: as) S d1 st A D cI cZ ads0 := by
  intro ads H locs cells slots cas crest v S' hW has hrest hsz hct hcl hsl
  obtain ⟨hx, hb, hml, hown, hts, -, -, ⟨hK, hN⟩, hA⟩ := hC
  match cas, has with
  | cb :: cas, has =>
    obtain ⟨a, ha, rfl⟩ := id has.1
    exact va_runI (b := a) (As := cas) (rest := crest) ⟨hx, hb, hml, hown, hts⟩ (hct D cI cZ ads H.size (.ref a :: cas) has hW.2.2.2.1 hW.2.2.2.2.1) (cwI n hts (goodTB (in_wsM hm)) rfl rfl rfl (hts _ hm.2.1) (hts _ hl) (hts _ hs) hyn hm.2.2.1 (hd_room hRf hRl hd1 hm.2.2.2.2)) ⟨frameBlind_pre, fun U hU hw => ⟨rfl, pre_now hW ⟨hK, hN⟩ hU hw⟩⟩ rfl (by rw [← vrs_len has.2, hn]) hsz (by show (Value.ref a :: cas).reverse ++ crest = _; rw [List.reverse_cons, List.append_assoc]; rfl) (by show 2 * 0 + _ ≤ 8; rw [vrs_cat hrest]; omega) hd ⟨hcl, hsl⟩
theorem callG_IN {k : Nat} {host : String} (hC : Cx on cc nL init p s m args meth c A D cI cZ) (hRf : R.frames = d) (hRl : R.locals = 40 * d) (hd : decode cc pc = .ok (.invokespecial idx, 3)) (hl : (ownN on, idx, y, host) ∈ NL) (hs : Cond.instanceMethod y ∈ TB) (hyn : y.name = "<init>") (hm : MOK y bytes maxL none n) (hn : as.length = n) (hst : st.length ≤ 8) (hd1 : d1 + 1 ≤ d) :
    CallG p l e R s m args below meth c nL pc ls y bytes maxL none (.inr k :: as) S d1 st A D cI cZ ads0 := by
  intro ads H locs cells slots cas crest v S' hW has hrest hsz hct hcl hsl
  obtain ⟨hx, hb, hml, hown, hts, -, -, ⟨hK, hN⟩, hA⟩ := hC
  match cas, has with
  | cb :: cas, has =>
    obtain ⟨a, ha, rfl⟩ := id has.1
    exact va_runIN (b := a) (As := cas) (rest := crest) ⟨hx, hb, hml, hown, hts⟩ (hct D cI cZ ads H.size (.ref a :: cas) has hW.2.2.2.1 hW.2.2.2.2.1) ⟨va_cnB n hts (goodTB (in_wsM hm)) rfl rfl rfl (hN.1 _ hl) (hts _ hm.2.1) hm.2.2.1 (hd_room hRf hRl hd1 hm.2.2.2.2), hyn, hts _ hs⟩ ⟨frameBlind_pre, fun U hU hw => ⟨rfl, pre_now hW ⟨hK, hN⟩ hU hw⟩⟩ rfl (by rw [← vrs_len has.2, hn]) hsz (by show (Value.ref a :: cas).reverse ++ crest = _; rw [List.reverse_cons, List.append_assoc]; rfl) (by show 2 * 0 + _ ≤ 8; rw [vrs_cat hrest]; omega) hd ⟨hcl, hsl⟩
theorem callGX_S (hC : Cx on cc nL init p s m args meth c A D cI cZ) (hRf : R.frames = d) (hRl : R.locals = 40 * d) (hd : decode cc pc = .ok (.invokestatic idx, 3)) (hl : Cond.methodLink (ownN on) idx y ∈ TB) (hs : Cond.static y ∈ TB) (hyc : y.cls = ownN on) (hm : MOK y bytes maxL ret n) (hn : as.length = n) (hst : st.length ≤ 8) (hd1 : d1 + 1 ≤ d) :
    CallGX p l e R s m args below meth c nL pc ls y bytes maxL ret as S d1 st A D cI cZ ads0 := by
  intro ads H locs cells slots cas crest E S' hW hT has hrest hsz hct hcl hsl
  obtain ⟨hx, hb, hml, hown, hts, -, -, ⟨hK, hN⟩, hA⟩ := hC
  refine vx_runS (As := cas) (rest := crest) ⟨hx, hb, hml, hown, hts⟩ (hct D cI cZ ads H.size cas has hW.2.2.2.1 hW.2.2.2.2.1) (va_cwS n hts (goodTB (fun w hw => ?_)) rfl rfl rfl hm.2.2.1 (hd_room hRf hRl hd1 hm.2.2.2.2)) ⟨frameBlind_preX, fun U hU hw => ⟨rfl, pre_now hW ⟨hK, hN⟩ hU hw, by rw [hU]; exact TH.moved hw hT⟩⟩ rfl (by rw [← vrs_len has, hn]) hsz rfl (by show 2 * 0 + _ ≤ 8; rw [vrs_cat hrest]; omega) hd ⟨hcl, hsl⟩
  rcases List.mem_append.mp hw with hw | hw
  · simp only [List.mem_cons, List.not_mem_nil, or_false] at hw
    rcases hw with rfl | rfl | rfl
    · exact hl
    · exact hs
    · exact hm.2.1
  · exact in_wsM hm w hw
theorem callGX_V {ci k : Nat} {q : List Nat} (hC : Cx on cc nL init p s m args meth c A D cI cZ) (hRf : R.frames = d) (hRl : R.locals = 40 * d) (hd : decode cc pc = .ok (.invokevirtual idx, 3)) (hl : Cond.methodLink (ownN on) idx y ∈ TB) (hs : Cond.instanceMethod y ∈ TB ∧ Cond.selects y.cls y y ∈ TB) (hm : MOK y bytes maxL ret n) (hci : ci < 12) (hy : y.cls = ownN ci) (hk : S.1[k]? = some (ci, q)) (hn : as.length = n) (hst : st.length ≤ 8) (hd1 : d1 + 1 ≤ d) :
    CallGX p l e R s m args below meth c nL pc ls y bytes maxL ret (.inr k :: as) S d1 st A D cI cZ ads0 := by
  intro ads H locs cells slots cas crest E S' hW hT has hrest hsz hct hcl hsl
  obtain ⟨hx, hb, hml, hown, hts, -, -, ⟨hK, hN⟩, hA⟩ := hC
  match cas, has with
  | cb :: cas, has =>
    obtain ⟨a, ha, rfl⟩ := id has.1
    refine vx_runV (b := a) (As := cas) (rest := crest) ⟨hx, hb, hml, hown, hts⟩ (hct D cI cZ ads H.size (.ref a :: cas) has hW.2.2.2.1 hW.2.2.2.2.1) (cwV n hts (goodTB (fun w hw => ?_)) rfl rfl rfl ⟨rfl, hm.2.2.1⟩ (hd_room hRf hRl hd1 hm.2.2.2.2)) ⟨frameBlind_preX, by rw [hy]; exact zrecv_of hW hK hci hk ha, fun U hU hw => ⟨rfl, pre_now hW ⟨hK, hN⟩ hU hw, by rw [hU]; exact TH.moved hw hT⟩⟩ rfl (by rw [← vrs_len has.2, hn]) hsz (by show (Value.ref a :: cas).reverse ++ crest = _; rw [List.reverse_cons, List.append_assoc]; rfl) (by show 2 * 0 + _ ≤ 8; rw [vrs_cat hrest]; omega) hd ⟨hcl, hsl⟩
    rcases List.mem_append.mp hw with hw | hw
    · simp only [List.mem_cons, List.not_mem_nil, or_false] at hw
      rcases hw with rfl | rfl | rfl | rfl
      · exact hl
      · exact hs.1
      · exact hs.2
      · exact hm.2.1
    · exact in_wsM hm w hw
/-- a call that returns -/
def pushR (v : Option AV) (st : List AV) : List AV := match v with
  | none => st
  | some x => x :: st
theorem rn_call {v : Option AV} (hC : Cx on cc nL init p s m args meth c A D cI cZ) (hg : ∀ ls, CallG p l e R s m args below meth c nL pc ls y bytes maxL ret as S d1 st A D cI cZ ads0) (hct : CT l d1 y bytes maxL ret as S v S') (st0 : List AV) (hst : st0 = as.reverse ++ st)
    (hn0 : n0 ≤ S.1.length) (hn1 : n1 ≤ nSl S.1) (hm0 : S.1.length ≤ S'.1.length) (hm1 : nSl S.1 ≤ nSl S'.1) (hcl : S'.1.length ≤ n0 + R.cells) (hsl : nSl S'.1 ≤ n1 + R.slots)
    (kk : Rn p l e R s m args below meth c A D cI cZ Q nL ads0 n0 n1 (pc + 3) L (pushR v st) S') : Rn p l e R s m args below meth c A D cI cZ Q nL ads0 n0 n1 pc L st0 S := by
  intro ads H locs ls cst hW hL hv
  have hA := hC.2.2.2.2.2.2.2.2
  subst hst
  obtain ⟨cr, crest, rfl, h1, h2⟩ := vrs_app hv
  have h3 := vrs_rev h1
  rw [List.reverse_reverse] at h3
  have hrun := hg ls ads H locs (S.1.length - n0) (nSl S.1 - n1) cr.reverse crest v S' hW h3 h2 hL.1 hct (by omega) (by omega)
  rw [List.reverse_reverse] at hrun
  have hsub := AA_sub hW hA
  match v, hrun, kk with
  | none, hrun, kk =>
    refine va_callv (a := cr.reverse.toArray) hrun hW.2.2.1 (fun q _ h => hsub q h) hsub (fun u t H1 locs1 ht _ _ hB _ _ hS => ?_)
    refine W.widen (k := S'.1.length - n0) (n := nSl S'.1 - n1) (by omega) (by omega) ?_
    obtain ⟨z, hz⟩ := hB.2.2.2.2.2
    subst hz
    exact kk (ads ++ z) H1 locs1 ls crest (back_world hW hA ht hB hS) (lrs_mono hL) (vrs_mono h2)
  | some (.inl x), hrun, kk =>
    refine va_calli (a := cr.reverse.toArray) hrun hW.2.2.1 (fun q _ h => hsub q h) hsub (fun r u t H1 locs1 ht _ hp hB _ _ hS => ?_)
    refine W.widen (k := S'.1.length - n0) (n := nSl S'.1 - n1) (by omega) (by omega) ?_
    obtain ⟨z, hz⟩ := hB.2.2.2.2.2
    subst hz
    rw [hp.1]
    exact kk (ads ++ z) H1 locs1 ls _ (back_world hW hA ht hB hS) (lrs_mono hL) ⟨⟨hp.2, rfl⟩, vrs_mono h2⟩
  | some (.inr k), hrun, kk =>
    refine va_callr (a := cr.reverse.toArray) hrun hW.2.2.1 (fun q _ h => hsub q h) hsub (fun u a t H1 locs1 ht _ hp hB _ _ hS => ?_)
    refine W.widen (k := S'.1.length - n0) (n := nSl S'.1 - n1) (by omega) (by omega) ?_
    obtain ⟨z, hz⟩ := hB.2.2.2.2.2.2
    subst hz
    exact kk (ads ++ z) H1 locs1 ls _ (back_world hW hA ht hB.2 hS) (lrs_mono hL) ⟨⟨a, hB.1, rfl⟩, vrs_mono h2⟩
/-- a call that throws, and nothing here catches it -/
theorem rn_callX {E : Nat} (hC : Cx on cc nL init p s m args meth c A D cI cZ) (hTH : TH A s s.heap) (hex : ∀ x ∈ c.exceptionTable.toList, False) (hg : ∀ ls, CallGX p l e R s m args below meth c nL pc ls y bytes maxL ret as S d1 st A D cI cZ ads0) (hct : CX l d1 y bytes maxL ret as S E S') (st0 : List AV) (hst : st0 = as.reverse ++ st)
    (hn0 : n0 = S.1.length) (hn1 : n1 = nSl S.1) (hcl : 1 ≤ R.cells) (hsl : 6 ≤ R.slots) (hAf : A = AA ads0 s.heap.size) :
    Rn p l e R s m args below meth c A D cI cZ (vx_MQ below (va_Qv (fun _ : List Nat => False) (BW D cI cZ A ads0 S') A) (XO D cI cZ A ads0 E S') args s 1 6 A) nL ads0 n0 n1 pc L st0 S := by
  intro ads H locs ls cst hW hL hv
  have hA := hC.2.2.2.2.2.2.2.2
  subst hst
  obtain ⟨cr, crest, rfl, h1, h2⟩ := vrs_app hv
  have h3 := vrs_rev h1
  rw [List.reverse_reverse] at h3
  have hsub := AA_sub hW hA
  have hTH2 : TH (AA ads H.size) s H := (hTH.kept hW.2.2.1.2.1).narrow hsub
  have hrun := hg ls ads H locs (S.1.length - n0) (nSl S.1 - n1) cr.reverse crest E S' hW hTH2 h3 h2 hL.1 hct (by omega) (by omega)
  rw [List.reverse_reverse] at hrun
  refine vx_callv (a := cr.reverse.toArray) hrun hW.2.2.1 (fun q _ h => hsub q h) hsub (fun q _ h => hsub q h) (fun E' ce q9 u t H1 locs1 ht hal _ hB _ _ hS hce hcv hcl9 => ?_) (fun u t H1 locs1 _ _ hp _ _ _ _ => hp.elim)
  obtain ⟨hE, hB⟩ := hB
  subst hE
  have hw := back_world hW hA ht hB hS
  exact vx_out (fun x hx => (hex x hx).elim) hC.2.2.2.2.2.1 hce hcv hcl9 (fun t2 ht2 hal2 => ⟨u, trivial, ⟨rfl, by rw [ht2]; exact hw.1, va_K.moved hal2 hC.2.2.2.2.2.2.2.1.1, hw.2.1, hw.2.2.2.1, hw.2.2.2.2.1, hw.2.2.2.2.2⟩, hS.F ht2⟩) hS.2.2 (by omega) (by omega)
/-- returns -/
theorem ret_world {ads : List Nat} {H : Heap} {locs : List Loc} {t : State} (hC : Cx on cc nL init p s m args meth c A D cI cZ) (hW : WH s A D cI cZ ads0 ads S H locs) (ht : t.heap = H) (hw : s.WarmedH t.vm) : BW D cI cZ A ads0 S ads t :=
  ⟨by rw [ht]; exact hW.1, va_K.moved hw.alike hC.2.2.2.2.2.2.2.1.1, hW.2.1, hW.2.2.2.1, hW.2.2.2.2.1, hW.2.2.2.2.2⟩
theorem rn_iret {x : Int} (hC : Cx on cc nL init p s m args meth c A D cI cZ) (hd : decode cc pc = .ok (.ireturn, 1)) (hr : meth.sig.returnType = some .int) :
    Rn p l e R s m args below meth c A D cI cZ (MQ below (QR D cI cZ A ads0 (some (.inl x)) S) args s (S.1.length - n0) (nSl S.1 - n1) A) nL ads0 n0 n1 pc L [.inl x] S := by
  intro ads H locs ls cst hW hL hv
  match cst, hv with
  | [cv], hv =>
    obtain ⟨hxr, rfl⟩ := vr_int hv.1
    exact W.iret hC.1 hC.2.1 hr (fun t ht hw => ⟨⟨_, ads, rfl, ⟨rfl, hxr⟩, ret_world hC hW ht hw⟩, hW.2.2.1.F ht⟩) hW.2.2.1.2.2 hd hC.2.2.2.2.2.1
  | _ :: _ :: _, hv => exact hv.2.elim
theorem rn_zret {x : Int} (hC : Cx on cc nL init p s m args meth c A D cI cZ) (hd : decode cc pc = .ok (.ireturn, 1)) (hr : meth.sig.returnType = some .boolean) (h01 : x = 0 ∨ x = 1) :
    Rn p l e R s m args below meth c A D cI cZ (MQ below (QR D cI cZ A ads0 (some (.inl x)) S) args s (S.1.length - n0) (nSl S.1 - n1) A) nL ads0 n0 n1 pc L [.inl x] S := by
  intro ads H locs ls cst hW hL hv
  match cst, hv with
  | [cv], hv =>
    obtain ⟨hxr, rfl⟩ := vr_int hv.1
    exact W.zret hC.1 hC.2.1 hr (narrow_bool01 h01).1 (fun t ht hw => ⟨⟨_, ads, rfl, ⟨rfl, hxr⟩, ret_world hC hW ht hw⟩, hW.2.2.1.F ht⟩) hW.2.2.1.2.2 hd hC.2.2.2.2.2.1
  | _ :: _ :: _, hv => exact hv.2.elim
theorem rn_vret (hC : Cx on cc nL init p s m args meth c A D cI cZ) (hd : decode cc pc = .ok (.return_, 1)) (hr : meth.sig.returnType = none) :
    Rn p l e R s m args below meth c A D cI cZ (MQ below (QR D cI cZ A ads0 none S) args s (S.1.length - n0) (nSl S.1 - n1) A) nL ads0 n0 n1 pc L [] S := by
  intro ads H locs ls cst hW hL hv
  match cst, hv with
  | [], hv =>
    exact W.vret hC.1 hC.2.1 hr (fun t ht hw => ⟨⟨ads, rfl, trivial, ret_world hC hW ht hw⟩, hW.2.2.1.F ht⟩) hW.2.2.1.2.2 hd hC.2.2.2.2.2.1
theorem rn_aret {k : Nat} {rt : FieldType} (hC : Cx on cc nL init p s m args meth c A D cI cZ) (hd : decode cc pc = .ok (.areturn, 1)) (hr : meth.sig.returnType = some rt) (hrt : (∃ n, rt = .object n) ∨ ∃ t, rt = .array t) :
    Rn p l e R s m args below meth c A D cI cZ (MQ below (QR D cI cZ A ads0 (some (.inr k)) S) args s (S.1.length - n0) (nSl S.1 - n1) A) nL ads0 n0 n1 pc L [.inr k] S := by
  intro ads H locs ls cst hW hL hv
  match cst, hv with
  | [cv], hv =>
    obtain ⟨a, ha, rfl⟩ := id hv.1
    exact W.aret hC.1 hC.2.1 hr hrt (Or.inr ⟨a, rfl⟩) (fun t ht hw => ⟨⟨ads, a, rfl, trivial, ha, ret_world hC hW ht hw⟩, hW.2.2.1.F ht⟩) hW.2.2.1.2.2 hd hC.2.2.2.2.2.1
  | _ :: _ :: _, hv => exact hv.2.elim
end RN
