/-! the law's helpers: an answer, or the number of an exception -/
def aT3 (cI cZ cJ : ClassId) : List (ClassId × FieldType) := [(cI, .int), (cZ, .boolean), (cJ, .long)]
def OUTE (cJ : ClassId) (v : Int) : va_E := .inl (cJ, 1, .inr (.inl (fun j => if j = 0 then (Int32.ofInt v).toInt64 else 0)))
def Wo (cI cZ cJ : ClassId) (ax : List Nat) (ao : Nat) (σ : Sg) (ov : Int) : va_W := mkW ax cI cZ LAYC σ ++ [(ao, OUTE cJ ov)]
def Ao (ax : List Nat) (ao sz : Nat) : Nat → Prop := fun q => q ∈ ax ∨ q = ao ∨ sz ≤ q
def NX (s : State) : Prop := ∀ E F : Nat, E < 3 → F < 3 → ¬ E = F → va_Nc (exN E) (exN F) s
theorem NX.moved {s U : State} (hw : s.WarmedH U.vm) (h : NX s) : NX U := fun E F h1 h2 h3 => (h E F h1 h2 h3).moved hw.alike
def KO (D : va_G) (cI cZ cJ : ClassId) (s : State) : Prop := va_K D vwCl (aT3 cI cZ cJ) s ∧ NW s ∧ NX s
theorem KO.moved {D : va_G} {cI cZ cJ : ClassId} {s U : State} (hw : s.WarmedH U.vm) (h : KO D cI cZ cJ s) : KO D cI cZ cJ U := ⟨va_K.moved hw.alike h.1, NW.moved hw h.2.1, NX.moved hw h.2.2⟩
theorem KO.kn {D : va_G} {cI cZ cJ : ClassId} {s : State} (h : KO D cI cZ cJ s) : KN D cI cZ s := ⟨h.1.sub [0, 1] rfl, h.2.1⟩
def PreO (D : va_G) (cI cZ cJ : ClassId) (ax : List Nat) (ao sz : Nat) (σ : Sg) (ov : Int) (U : State) : Prop :=
  U.heap.size = sz ∧ va_P D vwCl (Wo cI cZ cJ ax ao σ ov) U.heap ∧ KO D cI cZ cJ U ∧ va_D (fun _ => True) (Wo cI cZ cJ ax ao σ ov) ∧ TH (Ao ax ao sz) U U.heap
def wsH (y : MethodName) (bytes : ByteArray) (maxL : Nat) (hh : List (Nat × Nat × Nat × Nat)) : List Cond := .codeWith y bytes maxL (some .int) hh :: TB
/-- the helper gives k; the world's numbers are σ', and what the row of one long holds ov' -/
def WC (l : Launch) (d : Nat) (y : MethodName) (bytes : ByteArray) (maxL : Nat) (hh : List (Nat × Nat × Nat × Nat)) (as : List AV) (σ : Sg) (ov k : Int) (σ' : Sg) (ov' : Int) : Prop :=
  ∀ (D : va_G) (cI cZ cJ : ClassId) (ax : List Nat) (ao sz : Nat) (cvs : List Value), vrs (ax ++ [ao]) as cvs → ax.length = 55 → (∀ k i : Nat, inR (σ k i)) →
    Met l y (wsH y bytes maxL hh) (rmD d 1 6) (va_Pc cvs (PreO D cI cZ cJ ax ao sz σ ov)) (va_Qi (fun (r : Int32) (_ : Unit) => r = Int32.ofInt k) (fun _ t => va_P D vwCl (Wo cI cZ cJ ax ao σ' ov') t.heap ∧ ∀ k i : Nat, inR (σ' k i)) (Ao ax ao sz)) 1 6 (Ao ax ao sz)
theorem lenC : LAYC.length = 55 := rfl
theorem wo_get {cI cZ cJ : ClassId} {ax : List Nat} {ao : Nat} {σ : Sg} {ov : Int} (k : Nat) : (Wo cI cZ cJ ax ao σ ov)[k]? = if k < 55 then (LAYC[k]?).map (fun q => (ax.getD k 0, cellE ax cI cZ q (σ k))) else if k = 55 then some (ao, OUTE cJ ov) else none := by
  unfold Wo
  by_cases h : k < 55
  · rw [if_pos h, List.getElem?_append_left (by rw [mkW_len, lenC]; exact h), mkW_get]
  · rw [if_neg h, List.getElem?_append_right (by rw [mkW_len, lenC]; omega), mkW_len, lenC]
    by_cases h2 : k = 55
    · rw [if_pos h2, h2]; rfl
    · rw [if_neg h2, List.getElem?_eq_none (by show 1 ≤ k - 55; omega)]
theorem wo_fst {cI cZ cJ : ClassId} {ax : List Nat} {ao : Nat} {σ σ' : Sg} {ov ov' : Int} {k : Nat} {q : Nat × va_E} (h : (Wo cI cZ cJ ax ao σ ov)[k]? = some q) : ∃ q' : Nat × va_E, (Wo cI cZ cJ ax ao σ' ov')[k]? = some q' ∧ q'.1 = q.1 := by
  rw [wo_get] at h
  split at h
  · rename_i hk
    cases hq : LAYC[k]? with
    | none => rw [hq] at h; cases h
    | some x =>
      rw [hq] at h; cases h
      exact ⟨(ax.getD k 0, cellE ax cI cZ x (σ' k)), by rw [wo_get, if_pos hk, hq]; rfl, rfl⟩
  · rename_i hk
    split at h
    · rename_i hk2
      cases h
      exact ⟨(ao, OUTE cJ ov'), by rw [wo_get, if_neg hk, if_pos hk2], rfl⟩
    · cases h
theorem wo_D {A : Nat → Prop} {cI cZ cJ : ClassId} {ax : List Nat} {ao : Nat} {σ σ' : Sg} {ov ov' : Int} (h : va_D A (Wo cI cZ cJ ax ao σ ov)) : va_D A (Wo cI cZ cJ ax ao σ' ov') := by
  refine ⟨fun i j p q hi hj hpq => ?_, fun k q hk => ?_⟩
  · obtain ⟨p', hp, e1⟩ := wo_fst (σ' := σ) (ov' := ov) hi
    obtain ⟨q', hq, e2⟩ := wo_fst (σ' := σ) (ov' := ov) hj
    exact h.1 i j p' q' hp hq (by rw [e1, e2, hpq])
  · obtain ⟨q', hq, e⟩ := wo_fst (σ' := σ) (ov' := ov) hk
    rw [← e]; exact h.2 k q' hq
theorem wo_left {cI cZ cJ : ClassId} {ax : List Nat} {ao : Nat} {σ : Sg} {ov : Int} {k : Nat} {q : Nat × va_E} (h : (mkW ax cI cZ LAYC σ)[k]? = some q) : (Wo cI cZ cJ ax ao σ ov)[k]? = some q := by
  unfold Wo
  rw [List.getElem?_append_left (List.getElem?_eq_some_iff.mp h).1]; exact h
section RN2
variable {p : Program} {l : Launch} {e : Env} {R : Room} {s : State} {m : MethodId} {args : Array Value} {below : List Frame} {meth : Method} {c : Code} {A : Nat → Prop} {D : va_G} {cI cZ : ClassId} {Q : State → Prop}
variable {on : Nat} {cc : ByteArray} {nL : Nat} {init : Bool} {ads0 : List Nat} {n0 n1 pc : Nat} {L : List (Option AV)} {st : List AV} {S S' : LSt}
variable {y : MethodName} {bytes : ByteArray} {maxL n idx d d1 : Nat} {ret : Option FieldType} {as : List AV} {ls : Array Slot}
theorem callW_V {ci k : Nat} {q : List Nat} (hC : Cx on cc nL init p s m args meth c A D cI cZ) (hRf : R.frames = d) (hRl : R.locals = 40 * d) (hd : decode cc pc = .ok (.invokevirtual idx, 3)) (hl : Cond.methodLink (ownN on) idx y ∈ TB) (hs : Cond.instanceMethod y ∈ TB ∧ Cond.selects y.cls y y ∈ TB) (hm : MOK y bytes maxL ret n) (hci : ci < 12) (hy : y.cls = ownN ci) (hk : S.1[k]? = some (ci, q)) (hn : as.length = n) (hd1 : d1 + 1 ≤ d) : ∀ (ads : List Nat) (H : Heap) (locs : List Loc) (cells slots : Nat) (cas crest : List Value) (v : Option AV) (S' : LSt), WH s A D cI cZ ads0 ads S H locs → vrs ads (.inr k :: as) cas → (crest.map fun v => v.category).sum ≤ 8 → ls.size = nL → CT l d1 y bytes maxL ret (.inr k :: as) S v S' → cells + (S'.1.length - S.1.length) ≤ R.cells → slots + (nSl S'.1 - nSl S.1) ≤ R.slots →
    va_Run p l e R s m args below meth c H locs cells slots (S'.1.length - S.1.length) (nSl S'.1 - nSl S.1) (F0 m pc ls (cas.reverse ++ crest)) crest (QR D cI cZ (AA ads H.size) ads v S' cas.toArray) (AA ads H.size) := by
  intro ads H locs cells slots cas crest v S' hW has hrest hsz hct hcl hsl
  obtain ⟨hx, hb, hml, hown, hts, -, -, ⟨hK, hN⟩, hA⟩ := hC
  match cas, has with
  | cb :: cas, has =>
    obtain ⟨a, ha, rfl⟩ := id has.1
    refine va_runV (b := a) (As := cas) (rest := crest) ⟨hx, hb, hml, hown, hts⟩ (hct D cI cZ ads H.size (.ref a :: cas) has hW.2.2.2.1 hW.2.2.2.2.1) (cwV n hts (goodTB (fun w hw => ?_)) rfl rfl rfl ⟨rfl, hm.2.2.1⟩ (hd_room hRf hRl hd1 hm.2.2.2.2)) ⟨frameBlind_pre, by rw [hy]; exact zrecv_of hW hK hci hk ha, fun U hU hw => ⟨rfl, pre_now hW ⟨hK, hN⟩ hU hw⟩⟩ rfl (by rw [← vrs_len has.2, hn]) hsz (by show (Value.ref a :: cas).reverse ++ crest = _; rw [List.reverse_cons, List.append_assoc]; rfl) (by show 2 * 0 + _ ≤ 8; omega) hd ⟨hcl, hsl⟩
    rcases List.mem_append.mp hw with hw | hw
    · simp only [List.mem_cons, List.not_mem_nil, or_false] at hw
      rcases hw with rfl | rfl | rfl | rfl
      · exact hl
      · exact hs.1
      · exact hs.2
      · exact hm.2.1
    · exact in_wsM hm w hw
theorem callWX_V {ci k : Nat} {q : List Nat} (hC : Cx on cc nL init p s m args meth c A D cI cZ) (hRf : R.frames = d) (hRl : R.locals = 40 * d) (hd : decode cc pc = .ok (.invokevirtual idx, 3)) (hl : Cond.methodLink (ownN on) idx y ∈ TB) (hs : Cond.instanceMethod y ∈ TB ∧ Cond.selects y.cls y y ∈ TB) (hm : MOK y bytes maxL ret n) (hci : ci < 12) (hy : y.cls = ownN ci) (hk : S.1[k]? = some (ci, q)) (hn : as.length = n) (hd1 : d1 + 1 ≤ d) : ∀ (ads : List Nat) (H : Heap) (locs : List Loc) (cells slots : Nat) (cas crest : List Value) (E : Nat) (S' : LSt), WH s A D cI cZ ads0 ads S H locs → TH (AA ads H.size) s H → vrs ads (.inr k :: as) cas → (crest.map fun v => v.category).sum ≤ 8 → ls.size = nL → CX l d1 y bytes maxL ret (.inr k :: as) S E S' → cells + 1 ≤ R.cells → slots + 6 ≤ R.slots →
    vx_Run p l e R s m args below meth c H locs cells slots 1 6 (F0 m pc ls (cas.reverse ++ crest)) crest (va_Qv (fun _ : List Nat => False) (BW D cI cZ (AA ads H.size) ads S') (AA ads H.size) cas.toArray) (XO D cI cZ (AA ads H.size) ads E S') (AA ads H.size) := by
  intro ads H locs cells slots cas crest E S' hW hT has hrest hsz hct hcl hsl
  obtain ⟨hx, hb, hml, hown, hts, -, -, ⟨hK, hN⟩, hA⟩ := hC
  match cas, has with
  | cb :: cas, has =>
    obtain ⟨a, ha, rfl⟩ := id has.1
    refine vx_runV (b := a) (As := cas) (rest := crest) ⟨hx, hb, hml, hown, hts⟩ (hct D cI cZ ads H.size (.ref a :: cas) has hW.2.2.2.1 hW.2.2.2.2.1) (cwV n hts (goodTB (fun w hw => ?_)) rfl rfl rfl ⟨rfl, hm.2.2.1⟩ (hd_room hRf hRl hd1 hm.2.2.2.2)) ⟨frameBlind_preX, by rw [hy]; exact zrecv_of hW hK hci hk ha, fun U hU hw => ⟨rfl, pre_now hW ⟨hK, hN⟩ hU hw, by rw [hU]; exact TH.moved hw hT⟩⟩ rfl (by rw [← vrs_len has.2, hn]) hsz (by show (Value.ref a :: cas).reverse ++ crest = _; rw [List.reverse_cons, List.append_assoc]; rfl) (by show 2 * 0 + _ ≤ 8; omega) hd ⟨hcl, hsl⟩
    rcases List.mem_append.mp hw with hw | hw
    · simp only [List.mem_cons, List.not_mem_nil, or_false] at hw
      rcases hw with rfl | rfl | rfl | rfl
      · exact hl
      · exact hs.1
      · exact hs.2
      · exact hm.2.1
    · exact in_wsM hm w hw
end RN2
section RG
variable {p : Program} {l : Launch} {e : Env} {R : Room} {s : State} {m : MethodId} {args : Array Value} {below : List Frame} {meth : Method} {c : Code} {D : va_G} {cI cZ cJ : ClassId} {Q : State → Prop}
variable {cc : ByteArray} {nL : Nat} {ax : List Nat} {ao : Nat} {pc : Nat} {L : List (Option AV)} {st : List AV} {σ σ' : Sg} {ov : Int}
/-- the world of a helper's walk -/
def PwO (D : va_G) (cI cZ cJ : ClassId) (ax : List Nat) (ao : Nat) (s : State) (σ : Sg) (ov : Int) : List Nat → Heap → List Loc → Prop := fun ads H locs =>
  ads = ax ++ [ao] ∧ va_P D vwCl (Wo cI cZ cJ ax ao σ ov) H ∧ va_D (Ao ax ao s.heap.size) (Wo cI cZ cJ ax ao σ ov) ∧ va_S (Ao ax ao s.heap.size) s.heap H locs ∧ ax.length = 55 ∧ ∀ k i : Nat, inR (σ k i)
theorem PwO.wh {ads : List Nat} {H : Heap} {locs : List Loc} (h : PwO D cI cZ cJ ax ao s σ ov ads H locs) : WH s (Ao ax ao s.heap.size) D cI cZ [] ax (LAYC, σ) H locs :=
  ⟨fun k q hk => h.2.1 k q (wo_left hk), ⟨fun i j p q hi hj => h.2.2.1.1 i j p q (wo_left hi) (wo_left hj), fun k q hk => h.2.2.1.2 k q (wo_left hk)⟩, h.2.2.2.1, h.2.2.2.2.1, h.2.2.2.2.2, List.nil_prefix⟩
theorem vrs_drop {ax : List Nat} {ao : Nat} (hl : ax.length = 55) : ∀ {vs : List AV} {cs : List Value}, (∀ k, (.inr k : AV) ∈ vs → k < 55) → vrs (ax ++ [ao]) vs cs → vrs ax vs cs
  | [], [], _, _ => trivial
  | v :: vs, c :: cs, hv, h => by
    refine ⟨?_, vrs_drop hl (fun k hk => hv k (List.mem_cons_of_mem _ hk)) h.2⟩
    cases v with
    | inl x => exact h.1
    | inr k =>
      obtain ⟨a, h1, h2⟩ := h.1
      exact ⟨a, by rw [List.getElem?_append_left (by rw [hl]; exact hv k List.mem_cons_self)] at h1; exact h1, h2⟩
  | [], _ :: _, _, h => h.elim
  | _ :: _, [], _, h => h.elim
/-- behind a call on the object -/
theorem PwO.back {ads ads' : List Nat} {H H1 : Heap} {locs locs1 : List Loc} {t : State} (h : PwO D cI cZ cJ ax ao s σ ov ads H locs) (ht : t.heap = H1) (hB : BW D cI cZ (AA ax H.size) ax (LAYC, σ') ads' t) (hq : ∀ q : Nat, q < H.size → ¬ AA ax H.size q → H1[q]? = H[q]?) (hS : va_S (Ao ax ao s.heap.size) s.heap H1 locs1) : PwO D cI cZ cJ ax ao s σ' ov ads H1 locs1 := by
  obtain ⟨h1, h2, h3, h4, h5, h6⟩ := h
  obtain ⟨b1, -, b3, b4, b5, b6⟩ := hB
  obtain ⟨z, hz⟩ := b6
  have hz0 : z = [] := by
    have := congrArg List.length hz
    rw [List.length_append, b4, lenC, h5] at this
    exact List.eq_nil_of_length_eq_zero (by omega)
  subst hz0
  rw [List.append_nil] at hz
  subst hz
  subst ht
  have hao := h2 55 (ao, OUTE cJ ov) (by rw [wo_get]; rfl)
  refine ⟨h1, fun k q hk => ?_, wo_D h3, hS, h5, b5⟩
  have hk2 := hk
  rw [wo_get] at hk
  split at hk
  · rename_i hlt
    refine b1 k q ?_
    unfold Wo at hk2
    rw [List.getElem?_append_left (by rw [mkW_len, lenC]; exact hlt)] at hk2
    exact hk2
  · split at hk
    · cases hk
      refine va_at.kept hao (hq ao (vx_lt h2 (show (Wo cI cZ cJ ax ao σ ov)[55]? = some (ao, OUTE cJ ov) by rw [wo_get]; rfl)) ?_)
      rintro (h9 | h9)
      · obtain ⟨i, hi⟩ := List.getElem?_of_mem h9
        have hi5 : i < 55 := by rw [← h5]; exact (List.getElem?_eq_some_iff.mp hi).1
        obtain ⟨x, hx⟩ : ∃ x, LAYC[i]? = some x := ⟨_, List.getElem?_eq_getElem (by rw [lenC]; exact hi5)⟩
        have := h3.1 i 55 (ax.getD i 0, cellE ax cI cZ x (σ i)) (ao, OUTE cJ ov) (by rw [wo_get, if_pos hi5, hx]; rfl) (by rw [wo_get]; rfl) (getD_of hi)
        omega
      · have := vx_lt h2 (show (Wo cI cZ cJ ax ao σ ov)[55]? = some (ao, OUTE cJ ov) by rw [wo_get]; rfl)
        exact absurd h9 (by simp only at this ⊢; omega)
    · cases hk
theorem Ao_sub {ads : List Nat} {H : Heap} {locs : List Loc} (h : PwO D cI cZ cJ ax ao s σ ov ads H locs) : ∀ q, AA ax H.size q → Ao ax ao s.heap.size q := fun q hq => hq.elim Or.inl (fun h9 => Or.inr (Or.inr (Nat.le_trans h.2.2.2.1.1 h9)))
theorem wr_call {M1 : Mr} {idx n d d1 : Nat} {as : List AV} {z : Option AV ⊕ Nat} (hC : Cx 12 cc nL false p s m args meth c (Ao ax ao s.heap.size) D cI cZ) (hRf : R.frames = d) (hRl : R.locals = 40 * d) (hRc : 1 ≤ R.cells) (hRs : 6 ≤ R.slots) (hd : decode cc pc = .ok (.invokevirtual idx, 3)) (hl : Cond.methodLink (ownN 12) idx M1.2.1 ∈ TB) (hs : Cond.instanceMethod M1.2.1 ∈ TB ∧ Cond.selects M1.2.1.cls M1.2.1 M1.2.1 ∈ TB) (hm : MOK M1.2.1 M1.2.2.1 M1.2.2.2.1 M1.2.2.2.2 n) (hy : M1.2.1.cls = ownN 10) (hn : as.length = n) (hst : st.length ≤ 8) (hd1 : d1 + 1 ≤ d)
    (has : ∀ k, (.inr k : AV) ∈ as → k < 55) (hTH : TH (Ao ax ao s.heap.size) s s.heap) (hct : outZ z l d1 M1.2.1 M1.2.2.1 M1.2.2.2.1 M1.2.2.2.2 (.inr 0 :: as) (LAYC, σ) (LAYC, σ'))
    (hz : ∀ v, z = .inl v → ∃ x, v = some (.inl x))
    (kv : ∀ v, z = .inl (some (.inl v)) → Rg p l e R s m args below meth c (PwO D cI cZ cJ ax ao s σ' ov) 0 0 Q nL (pc + 3) L (.inl v :: st))
    (kx : ∀ E, z = .inr E → ∀ (ads : List Nat) (H1 : Heap) (locs1 : List Loc) (ls : Array Slot) (crest : List Value) (ce : Cell) (q9 : Addr), PwO D cI cZ cJ ax ao s σ' ov ads H1 locs1 → lrs ads nL L ls → H1[q9]? = some ce → ce.vm = .none → s.vm.findClass (exN E) = some ce.cls → vx_W p l e R s m args below meth c H1 locs1 1 6 Q (F0 m pc ls crest) q9)
    (st0 : List AV) (hs0 : st0 = (.inr 0 :: as).reverse ++ st) : Rg p l e R s m args below meth c (PwO D cI cZ cJ ax ao s σ ov) 0 0 Q nL pc L st0 := by
  intro ads H locs ls cst hP hL hv
  subst hs0
  obtain ⟨cr, crest, rfl, h1, h2⟩ := vrs_app hv
  have h3 := vrs_rev h1
  rw [List.reverse_reverse] at h3
  have hW := hP.wh
  have hads := hP.1
  subst hads
  have h4 : vrs ax (.inr 0 :: as) cr.reverse := vrs_drop hP.2.2.2.2.1 (fun k hk => by
    rcases List.mem_cons.mp hk with hk | hk
    · cases hk; omega
    · exact has k hk) h3
  have hk0 : LAYC[0]? = some (10, [3, 7, 12, 24, 26, 29, 34, 35, 45, 51]) := rfl
  have hcat : (crest.map fun v => v.category).sum ≤ 8 := by rw [vrs_cat h2]; exact hst
  match z, hct, hz, kv, kx with
  | .inr E, hct, _, _, kx =>
    have hTH2 : TH (AA ax H.size) s H := (hTH.kept hP.2.2.2.1.2.1).narrow (Ao_sub hP)
    have hrun := callWX_V (ls := ls) (S := (LAYC, σ)) (ads0 := []) (l := l) (e := e) (below := below) hC hRf hRl hd hl hs hm (by decide) hy hk0 hn hd1 ax H locs 0 0 cr.reverse crest E (LAYC, σ') hW hTH2 h4 hcat hL.1 hct (by omega) (by omega)
    rw [List.reverse_reverse] at hrun
    refine vx_callv (a := cr.reverse.toArray) hrun hP.2.2.2.1 (fun q _ h => Ao_sub hP q h) (Ao_sub hP) (fun q _ h => Ao_sub hP q h) (fun E' ce q9 u t H1 locs1 ht hal _ hB _ hq hS hce hcv hcl9 => ?_) (fun u t H1 locs1 _ _ hp _ _ _ _ => hp.elim)
    obtain ⟨hE, hB⟩ := hB
    subst hE
    exact kx E rfl (ax ++ [ao]) H1 locs1 ls crest ce q9 (hP.back ht hB hq hS) hL hce hcv hcl9
  | .inl v, hct, hz, kv, _ =>
    obtain ⟨x, rfl⟩ := hz v rfl
    have hrun := callW_V (ls := ls) (S := (LAYC, σ)) (ads0 := []) (l := l) (e := e) (below := below) hC hRf hRl hd hl hs hm (by decide) hy hk0 hn hd1 ax H locs 0 0 cr.reverse crest (some (.inl x)) (LAYC, σ') hW h4 hcat hL.1 hct (show 0 + (LAYC.length - LAYC.length) ≤ _ by rw [Nat.sub_self]; exact Nat.zero_le _) (show 0 + (nSl LAYC - nSl LAYC) ≤ _ by rw [Nat.sub_self]; exact Nat.zero_le _)
    rw [List.reverse_reverse] at hrun
    refine va_calli (a := cr.reverse.toArray) hrun hP.2.2.2.1 (fun q _ h => Ao_sub hP q h) (Ao_sub hP) (fun r u t H1 locs1 ht _ hp hB _ hq hS => ?_)
    rw [hp.1, show 0 + ((LAYC, σ').1.length - (LAYC, σ).1.length) = 0 from (by show 0 + (LAYC.length - LAYC.length) = 0; rw [Nat.sub_self]), show 0 + (nSl (LAYC, σ').1 - nSl (LAYC, σ).1) = 0 from (by show 0 + (nSl LAYC - nSl LAYC) = 0; rw [Nat.sub_self])]
    exact kv x rfl (ax ++ [ao]) H1 locs1 ls _ (hP.back ht hB hq hS) hL ⟨⟨hp.2, rfl⟩, h2⟩
/-- the answer into the row -/
theorem wr_put {v : Int} {tgt : Nat} {off : Int} (hC : Cx 12 cc nL false p s m args meth c (Ao ax ao s.heap.size) D cI cZ) (hK : KO D cI cZ cJ s) (d0 : decode cc pc = .ok (.i2l, 1)) (d1 : decode cc (pc + 1) = .ok (.lastore, 1)) (d2 : decode cc (pc + 2) = .ok (.goto off, 3)) (ht : ((pc + 2 : Nat) : Int) + off = (tgt : Int))
    (k : Rg p l e R s m args below meth c (PwO D cI cZ cJ ax ao s σ v) 0 0 Q nL tgt L []) : Rg p l e R s m args below meth c (PwO D cI cZ cJ ax ao s σ ov) 0 0 Q nL pc L [.inl v, .inl 0, .inr 55] := by
  intro ads H locs ls cst hP hL hv
  obtain ⟨h1, h2, h3, h4, h5, h6⟩ := hP
  match cst, hv with
  | [c1, c2, c3], hv =>
    obtain ⟨hvr, rfl⟩ := vr_int hv.1
    obtain ⟨-, rfl⟩ := vr_int hv.2.1
    obtain ⟨a, ha, rfl⟩ := id hv.2.2.1
    have ha2 : a = ao := by
      rw [h1, List.getElem?_append_right (by omega), h5] at ha
      exact (Option.some.inj ha).symm
    subst ha2
    refine lv_i2l hC.1 hC.2.1 d0 rfl ?_
    refine va_last (i := Int32.ofInt 0) (n := 1) hC.1 hC.2.1 hK.1 h2 h3 h4 55 2 (by rw [wo_get]; rfl) rfl (by unfold vp_in; decide) d1 (fun H1 locs1 g1 g2 g3 => ?_)
    refine lv_goto hC.1 hC.2.1 d2 ht ?_
    have hw : (Wo cI cZ cJ ax a σ ov).set 55 (a, .inl (cJ, 1, .inr (.inl (vp_updL (fun j => if j = 0 then (Int32.ofInt ov).toInt64 else 0) (Int32.ofInt 0).toNatClampNeg (Int32.ofInt v).toInt64)))) = Wo cI cZ cJ ax a σ v := by
      unfold Wo
      rw [List.set_append_right _ _ (by rw [mkW_len, lenC]; exact Nat.le_refl _), mkW_len, lenC]
      have hf : vp_updL (fun j => if j = 0 then (Int32.ofInt ov).toInt64 else 0) (Int32.ofInt 0).toNatClampNeg (Int32.ofInt v).toInt64 = fun j => if j = 0 then (Int32.ofInt v).toInt64 else 0 := by
        funext j
        show (if j = 0 then (Int32.ofInt v).toInt64 else if j = 0 then (Int32.ofInt ov).toInt64 else 0) = _
        by_cases hj : j = 0
        · rw [if_pos hj, if_pos hj]
        · rw [if_neg hj, if_neg hj, if_neg hj]
      rw [hf]; rfl
    rw [hw] at g1 g2
    exact k ads H1 locs1 ls [] ⟨h1, g1, g2, g3, h5, h6⟩ hL trivial
/-- the end -/
theorem wr_ret {k : Int} {kc ks : Nat} (hC : Cx 12 cc nL false p s m args meth c (Ao ax ao s.heap.size) D cI cZ) (hkc : kc ≤ 1) (hks : ks ≤ 6) (d0 : decode cc pc = .ok (.iconst k, 1)) (hk : inR k) (d1 : decode cc (pc + 1) = .ok (.ireturn, 1)) (hr : meth.sig.returnType = some .int) :
    Rg p l e R s m args below meth c (PwO D cI cZ cJ ax ao s σ ov) kc ks (MQ below (va_Qi (fun (r : Int32) (_ : Unit) => r = Int32.ofInt k) (fun _ t => va_P D vwCl (Wo cI cZ cJ ax ao σ ov) t.heap ∧ ∀ k i : Nat, inR (σ k i)) (Ao ax ao s.heap.size)) args s 1 6 (Ao ax ao s.heap.size)) nL pc L [] := by
  intro ads H locs ls cst hP hL hv
  obtain ⟨h1, h2, h3, h4, h5, h6⟩ := hP
  match cst, hv with
  | [], _ =>
    refine W.widen (k := 1) (n := 6) hkc hks ?_
    refine lv_iconst hC.1 hC.2.1 d0 rfl ?_
    exact W.iret hC.1 hC.2.1 hr (fun t ht hw => ⟨⟨_, (), rfl, rfl, by rw [ht]; exact h2, h6⟩, h4.F ht⟩) h4.2.2 d1 hC.2.2.2.2.2.1
/-- an exception, taken -/
theorem wr_exc {k : Int} {E : Nat} {ads : List Nat} {H : Heap} {locs : List Loc} {ls : Array Slot} {crest : List Value} {ce : Cell} {q9 : Addr} {j hpc : Nat} (hC : Cx 12 cc nL false p s m args meth c (Ao ax ao s.heap.size) D cI cZ) (hK : KO D cI cZ cJ s) (hP : PwO D cI cZ cJ ax ao s σ ov ads H locs) (hL : lrs ads nL L ls) (hj : j < L.length) (hce : H[q9]? = some ce) (hcv : ce.vm = .none) (hcl : s.vm.findClass (exN E) = some ce.cls)
    (pre : List ExceptionTableEntry) (x : ExceptionTableEntry) (suf : List ExceptionTableEntry) (hsplit : c.exceptionTable.toList = pre ++ x :: suf) (hpass : ∀ z ∈ pre, z.catchType ≠ 0 ∧ ∃ nm : String, Cond.classLink "PatternforgeLaw" z.catchType nm ∈ TB ∧ va_Nc (exN E) nm s) (hx : covers x pc = true) (h0 : x.catchType ≠ 0) (hlk : Cond.classLink "PatternforgeLaw" x.catchType (exN E) ∈ TB) (hh : x.handlerPc = hpc)
    {n : Nat} (d0 : (n = 2 ∧ decode cc hpc = .ok (.astore j, 2)) ∨ (n = 1 ∧ ∃ i : Fin 4, i.val = j ∧ decode cc hpc = .ok (.astore_n i, 1))) (d1 : decode cc (hpc + n) = .ok (.iconst k, 1)) (d2 : decode cc (hpc + n + 1) = .ok (.ireturn, 1)) (hk : inR k) (hr : meth.sig.returnType = some .int) :
    vx_W p l e R s m args below meth c H locs 1 6 (MQ below (va_Qi (fun (r : Int32) (_ : Unit) => r = Int32.ofInt k) (fun _ t => va_P D vwCl (Wo cI cZ cJ ax ao σ ov) t.heap ∧ ∀ k i : Nat, inR (σ k i)) (Ao ax ao s.heap.size)) args s 1 6 (Ao ax ao s.heap.size)) (F0 m pc ls crest) q9 := by
  obtain ⟨h1, h2, h3, h4, h5, h6⟩ := hP
  have hts := hC.2.2.2.2.1
  refine vx_catch (own := "PatternforgeLaw") (name := exN E) hC.2.2.2.1 pre x suf hsplit (fun z hz => Or.inr ⟨(hpass z hz).1, (hpass z hz).2.imp (fun nm hnm => ⟨hts _ hnm.1, hnm.2⟩)⟩) hx h0 (hts _ hlk) (va_Nw.use rfl (hK.2.1.2.1 E)) hce hcv hcl ?_
  rw [hh]
  have fin : ∀ (ls' : Array Slot), W p l e R s m args below meth c H locs 1 6 (MQ below (va_Qi (fun (r : Int32) (_ : Unit) => r = Int32.ofInt k) (fun _ t => va_P D vwCl (Wo cI cZ cJ ax ao σ ov) t.heap ∧ ∀ k i : Nat, inR (σ k i)) (Ao ax ao s.heap.size)) args s 1 6 (Ao ax ao s.heap.size)) (F0 m (hpc + n) ls' []) := by
    intro ls'
    refine lv_iconst hC.1 hC.2.1 d1 rfl ?_
    exact W.iret hC.1 hC.2.1 hr (fun t ht hw => ⟨⟨_, (), rfl, rfl, by rw [ht]; exact h2, h6⟩, h4.F ht⟩) h4.2.2 d2 hC.2.2.2.2.2.1
  rcases d0 with ⟨rfl, d0⟩ | ⟨rfl, i, hi, d0⟩
  · exact lv_astore hC.1 hC.2.1 d0 (allv_has hL) (Nat.lt_of_lt_of_le hj hL.2.1) rfl (fun ls' _ => fin ls')
  · exact lv_astore_n hC.1 hC.2.1 d0 rfl (allv_has hL) (Nat.lt_of_lt_of_le (by rw [hi]; exact hj) hL.2.1) rfl (fun ls' _ => fin ls')
/-- a truth value into the row -/
theorem wr_putB {b : Bool} {tgt : Nat} {o1 o2 o3 : Int} {p1 p2 : Nat} (hC : Cx 12 cc nL false p s m args meth c (Ao ax ao s.heap.size) D cI cZ) (hK : KO D cI cZ cJ s) (d0 : decode cc pc = .ok (.ifCond .eq o1, 3)) (t0 : (pc : Int) + o1 = (p1 : Int)) (d1 : decode cc (pc + 3) = .ok (.lconst 1, 1)) (d2 : decode cc (pc + 4) = .ok (.goto o2, 3)) (t2 : ((pc + 4 : Nat) : Int) + o2 = (p2 : Int)) (d3 : decode cc p1 = .ok (.lconst 0, 1)) (e3 : p1 + 1 = p2) (d4 : decode cc p2 = .ok (.lastore, 1)) (d5 : decode cc (p2 + 1) = .ok (.goto o3, 3)) (ht : ((p2 + 1 : Nat) : Int) + o3 = (tgt : Int))
    (k : Rg p l e R s m args below meth c (PwO D cI cZ cJ ax ao s σ (b2i b)) 0 0 Q nL tgt L []) : Rg p l e R s m args below meth c (PwO D cI cZ cJ ax ao s σ ov) 0 0 Q nL pc L [.inl (b2i b), .inl 0, .inr 55] := by
  have fin : ∀ (ads : List Nat) (H : Heap) (locs : List Loc) (ls : Array Slot) (w : Int64) (a : Nat), w = (Int32.ofInt (b2i b)).toInt64 → a = ao → PwO D cI cZ cJ ax ao s σ ov ads H locs → lrs ads nL L ls → W p l e R s m args below meth c H locs 0 0 Q (F0 m p2 ls [.long w, .int (Int32.ofInt 0), .ref a]) := by
    intro ads H locs ls w a hw ha hP hL
    subst hw ha
    obtain ⟨h1, h2, h3, h4, h5, h6⟩ := hP
    refine va_last (i := Int32.ofInt 0) (n := 1) hC.1 hC.2.1 hK.1 h2 h3 h4 55 2 (by rw [wo_get]; rfl) rfl (by unfold vp_in; decide) d4 (fun H1 locs1 g1 g2 g3 => ?_)
    refine lv_goto hC.1 hC.2.1 d5 ht ?_
    have hw : (Wo cI cZ cJ ax a σ ov).set 55 (a, .inl (cJ, 1, .inr (.inl (vp_updL (fun j => if j = 0 then (Int32.ofInt ov).toInt64 else 0) (Int32.ofInt 0).toNatClampNeg (Int32.ofInt (b2i b)).toInt64)))) = Wo cI cZ cJ ax a σ (b2i b) := by
      unfold Wo
      rw [List.set_append_right _ _ (by rw [mkW_len, lenC]; exact Nat.le_refl _), mkW_len, lenC]
      have hf : vp_updL (fun j => if j = 0 then (Int32.ofInt ov).toInt64 else 0) (Int32.ofInt 0).toNatClampNeg (Int32.ofInt (b2i b)).toInt64 = fun j => if j = 0 then (Int32.ofInt (b2i b)).toInt64 else 0 := by
        funext j
        show (if j = 0 then (Int32.ofInt (b2i b)).toInt64 else if j = 0 then (Int32.ofInt ov).toInt64 else 0) = _
        by_cases hj : j = 0
        · rw [if_pos hj, if_pos hj]
        · rw [if_neg hj, if_neg hj, if_neg hj]
      rw [hf]; rfl
    rw [hw] at g1 g2
    exact k ads H1 locs1 ls [] ⟨h1, g1, g2, g3, h5, h6⟩ hL trivial
  intro ads H locs ls cst hP hL hv
  match cst, hv with
  | [c1, c2, c3], hv =>
    obtain ⟨hvr, rfl⟩ := vr_int hv.1
    obtain ⟨-, rfl⟩ := vr_int hv.2.1
    obtain ⟨a, ha, rfl⟩ := id hv.2.2.1
    have ha2 : a = ao := by
      rw [hP.1, List.getElem?_append_right (by rw [hP.2.2.2.2.1]; exact Nat.le_refl _), hP.2.2.2.2.1] at ha
      exact (Option.some.inj ha).symm
    cases b with
    | true =>
      refine lv_if_eq hC.1 hC.2.1 d0 t0 (fun h => absurd h (by decide)) (fun _ => ?_)
      refine lv_lconst hC.1 hC.2.1 d1 rfl ?_
      refine lv_goto hC.1 hC.2.1 d2 t2 ?_
      exact fin ads H locs ls _ a (by decide) ha2 hP hL
    | false =>
      refine lv_if_eq hC.1 hC.2.1 d0 t0 (fun _ => ?_) (fun h => absurd (by decide) h)
      refine lv_lconst hC.1 hC.2.1 d3 rfl ?_
      rw [e3]
      exact fin ads H locs ls _ a (by decide) ha2 hP hL
end RG
/-- what a helper gives: 0 and the answer, or an exception's number -/
def kE : List (Nat × Int) → Nat → Option Int
  | [], _ => none
  | q :: t, E => if E = q.1 then some q.2 else kE t E
theorem kE_inv {q : Nat × Int} {t : List (Nat × Int)} {E : Nat} {k : Int} (h : kE (q :: t) E = some k) : (E = q.1 ∧ k = q.2) ∨ (¬ E = q.1 ∧ kE t E = some k) := by
  unfold kE at h
  split at h
  · cases h; exact Or.inl ⟨by assumption, rfl⟩
  · exact Or.inr ⟨by assumption, h⟩
def kW (es : List (Nat × Int)) (r : Int ⊕ Nat) (ov : Int) : Option (Int × Int) := match r with
  | .inl v => some (0, v)
  | .inr E => match kE es E with
    | none => none
    | some k => some (k, ov)
def kWB (es : List (Nat × Int)) (r : Bool ⊕ Nat) (ov : Int) : Option (Int × Int) := match r with
  | .inl v => some (0, b2i v)
  | .inr E => match kE es E with
    | none => none
    | some k => some (k, ov)
theorem kW_inr {es : List (Nat × Int)} {E : Nat} {ov : Int} {k ov' : Int} (h : kW es (.inr E) ov = some (k, ov')) : kE es E = some k ∧ ov' = ov := by
  have h2 : (match kE es E with | none => none | some k => some (k, ov)) = some (k, ov') := h
  cases hk : kE es E with
  | none => rw [hk] at h2; cases h2
  | some k9 => rw [hk] at h2; cases h2; exact ⟨rfl, rfl⟩
theorem kWB_inr {es : List (Nat × Int)} {E : Nat} {ov : Int} {k ov' : Int} (h : kWB es (.inr E) ov = some (k, ov')) : kE es E = some k ∧ ov' = ov := by
  have h2 : (match kE es E with | none => none | some k => some (k, ov)) = some (k, ov') := h
  cases hk : kE es E with
  | none => rw [hk] at h2; cases h2
  | some k9 => rw [hk] at h2; cases h2; exact ⟨rfl, rfl⟩
theorem clw0 : Cond.classLink "PatternforgeLaw" 13 (exN 0) ∈ TB := tb_at 384 (by decide +kernel) (by decide +kernel)
theorem clw1 : Cond.classLink "PatternforgeLaw" 15 (exN 1) ∈ TB := tb_at 385 (by decide +kernel) (by decide +kernel)
theorem clw2 : Cond.classLink "PatternforgeLaw" 17 (exN 2) ∈ TB := tb_at 386 (by decide +kernel) (by decide +kernel)
theorem wo_A {cI cZ cJ : ClassId} {ax : List Nat} {ao sz : Nat} {σ : Sg} {ov : Int} (hax : ax.length = 55) (h : va_D (fun _ => True) (Wo cI cZ cJ ax ao σ ov)) : va_D (Ao ax ao sz) (Wo cI cZ cJ ax ao σ ov) := by
  refine ⟨h.1, fun k q hk => ?_⟩
  rw [wo_get] at hk
  split at hk
  · rename_i hlt
    cases hq : LAYC[k]? with
    | none => rw [hq] at hk; cases hk
    | some x =>
      rw [hq] at hk; cases hk
      refine Or.inl ?_
      show ax.getD k 0 ∈ ax
      rw [List.getD_eq_getElem?_getD, List.getElem?_eq_getElem (by rw [hax]; exact hlt)]
      exact List.getElem_mem _
  · split at hk
    · cases hk; exact Or.inr (Or.inl rfl)
    · cases hk
