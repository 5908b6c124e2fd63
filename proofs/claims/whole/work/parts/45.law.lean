/-! the law's own walk: rules for its world -/
def AL (s : State) : Nat → Prop := fun q => s.heap.size ≤ q
section RN3
variable {p : Program} {l : Launch} {e : Env} {R : Room} {s : State} {m : MethodId} {args : Array Value} {below : List Frame} {meth : Method} {c : Code} {A : Nat → Prop} {D : va_G} {cI cZ : ClassId} {Q : State → Prop}
variable {on : Nat} {cc : ByteArray} {nL : Nat} {init : Bool} {ads0 : List Nat} {n0 n1 pc : Nat} {L : List (Option AV)} {st : List AV} {S S' : LSt}
variable {y : MethodName} {bytes : ByteArray} {maxL n idx d1 : Nat} {ret : Option FieldType} {as : List AV} {ls : Array Slot}
theorem hd_room2 {d1 : Nat} {maxL mc ms : Nat} (hRf : d1 + 1 ≤ R.frames) (hRl : 8 + 31 + 40 * d1 ≤ R.locals) (hm : maxL ≤ 20) : (rmD d1 mc ms).frames + 1 ≤ R.frames ∧ 8 + (maxL + 11) + (rmD d1 mc ms).locals ≤ R.locals := by
  show d1 + 1 ≤ R.frames ∧ 8 + (maxL + 11) + 40 * d1 ≤ R.locals
  omega
theorem callL_V {ci k : Nat} {q : List Nat} (hC : Cx on cc nL init p s m args meth c A D cI cZ) (hRf : d1 + 1 ≤ R.frames) (hRl : 8 + 31 + 40 * d1 ≤ R.locals) (hd : decode cc pc = .ok (.invokevirtual idx, 3)) (hl : Cond.methodLink (ownN on) idx y ∈ TB) (hs : Cond.instanceMethod y ∈ TB ∧ Cond.selects y.cls y y ∈ TB) (hm : MOK y bytes maxL ret n) (hci : ci < 12) (hy : y.cls = ownN ci) (hk : S.1[k]? = some (ci, q)) (hn : as.length = n) : ∀ (ads : List Nat) (H : Heap) (locs : List Loc) (cells slots : Nat) (cas crest : List Value) (v : Option AV) (S' : LSt), WH s A D cI cZ ads0 ads S H locs → vrs ads (.inr k :: as) cas → (crest.map fun v => v.category).sum ≤ 8 → ls.size = nL → CT l d1 y bytes maxL ret (.inr k :: as) S v S' → cells + (S'.1.length - S.1.length) ≤ R.cells → slots + (nSl S'.1 - nSl S.1) ≤ R.slots →
    va_Run p l e R s m args below meth c H locs cells slots (S'.1.length - S.1.length) (nSl S'.1 - nSl S.1) (F0 m pc ls (cas.reverse ++ crest)) crest (QR D cI cZ (AA ads H.size) ads v S' cas.toArray) (AA ads H.size) := by
  intro ads H locs cells slots cas crest v S' hW has hrest hsz hct hcl hsl
  obtain ⟨hx, hb, hml, hown, hts, -, -, ⟨hK, hN⟩, hA⟩ := hC
  match cas, has with
  | cb :: cas, has =>
    obtain ⟨a, ha, rfl⟩ := id has.1
    refine va_runV (b := a) (As := cas) (rest := crest) ⟨hx, hb, hml, hown, hts⟩ (hct D cI cZ ads H.size (.ref a :: cas) has hW.2.2.2.1 hW.2.2.2.2.1) (cwV n hts (goodTB (fun w hw => ?_)) rfl rfl rfl ⟨rfl, hm.2.2.1⟩ (hd_room2 hRf hRl hm.2.2.2.2)) ⟨frameBlind_pre, by rw [hy]; exact zrecv_of hW hK hci hk ha, fun U hU hw => ⟨rfl, pre_now hW ⟨hK, hN⟩ hU hw⟩⟩ rfl (by rw [← vrs_len has.2, hn]) hsz (by show (Value.ref a :: cas).reverse ++ crest = _; rw [List.reverse_cons, List.append_assoc]; rfl) (by show 2 * 0 + _ ≤ 8; omega) hd ⟨hcl, hsl⟩
    rcases List.mem_append.mp hw with hw | hw
    · simp only [List.mem_cons, List.not_mem_nil, or_false] at hw
      rcases hw with rfl | rfl | rfl | rfl
      · exact hl
      · exact hs.1
      · exact hs.2
      · exact hm.2.1
    · exact in_wsM hm w hw
theorem callL_I {k : Nat} (hC : Cx on cc nL init p s m args meth c A D cI cZ) (hRf : d1 + 1 ≤ R.frames) (hRl : 8 + 31 + 40 * d1 ≤ R.locals) (hd : decode cc pc = .ok (.invokespecial idx, 3)) (hl : Cond.methodLink (ownN on) idx y ∈ TB) (hs : Cond.instanceMethod y ∈ TB) (hyn : y.name = "<init>") (hm : MOK y bytes maxL none n) (hn : as.length = n) : ∀ (ads : List Nat) (H : Heap) (locs : List Loc) (cells slots : Nat) (cas crest : List Value) (v : Option AV) (S' : LSt), WH s A D cI cZ ads0 ads S H locs → vrs ads (.inr k :: as) cas → (crest.map fun v => v.category).sum ≤ 8 → ls.size = nL → CT l d1 y bytes maxL none (.inr k :: as) S v S' → cells + (S'.1.length - S.1.length) ≤ R.cells → slots + (nSl S'.1 - nSl S.1) ≤ R.slots →
    va_Run p l e R s m args below meth c H locs cells slots (S'.1.length - S.1.length) (nSl S'.1 - nSl S.1) (F0 m pc ls (cas.reverse ++ crest)) crest (QR D cI cZ (AA ads H.size) ads v S' cas.toArray) (AA ads H.size) := by
  intro ads H locs cells slots cas crest v S' hW has hrest hsz hct hcl hsl
  obtain ⟨hx, hb, hml, hown, hts, -, -, ⟨hK, hN⟩, hA⟩ := hC
  match cas, has with
  | cb :: cas, has =>
    obtain ⟨a, ha, rfl⟩ := id has.1
    exact va_runI (b := a) (As := cas) (rest := crest) ⟨hx, hb, hml, hown, hts⟩ (hct D cI cZ ads H.size (.ref a :: cas) has hW.2.2.2.1 hW.2.2.2.2.1) (cwI n hts (goodTB (in_wsM hm)) rfl rfl rfl (hts _ hm.2.1) (hts _ hl) (hts _ hs) hyn hm.2.2.1 (hd_room2 hRf hRl hm.2.2.2.2)) ⟨frameBlind_pre, fun U hU hw => ⟨rfl, pre_now hW ⟨hK, hN⟩ hU hw⟩⟩ rfl (by rw [← vrs_len has.2, hn]) hsz (by show (Value.ref a :: cas).reverse ++ crest = _; rw [List.reverse_cons, List.append_assoc]; rfl) (by show 2 * 0 + _ ≤ 8; omega) hd ⟨hcl, hsl⟩
end RN3
section RL
variable {p : Program} {l : Launch} {e : Env} {R : Room} {s : State} {m : MethodId} {args : Array Value} {below : List Frame} {meth : Method} {c : Code} {D : va_G} {cI cZ cJ : ClassId} {Q : State → Prop}
variable {cc : ByteArray} {nL : Nat} {ax am : List Nat} {ao b : Nat} {kc ks pc : Nat} {L : List (Option AV)} {st : List AV} {σ σ' τ τ' : Sg} {ov ov' : Int}
theorem vrs_app2 {ads : List Nat} : ∀ {v1 v2 : List AV} {c1 c2 : List Value}, vrs ads v1 c1 → vrs ads v2 c2 → vrs ads (v1 ++ v2) (c1 ++ c2)
  | [], _, [], _, _, h => h
  | _ :: _, _, _ :: _, _, h1, h => ⟨h1.1, vrs_app2 h1.2 h⟩
  | [], _, _ :: _, _, h, _ => h.elim
  | _ :: _, _, [], _, h, _ => h.elim
theorem vrs_len2 {ads : List Nat} : ∀ {vs : List AV} {cs : List Value}, vrs ads vs cs → cs.length = vs.length
  | [], [], _ => rfl
  | _ :: _, _ :: _, h => congrArg (· + 1) (vrs_len2 h.2)
  | [], _ :: _, h => h.elim
  | _ :: _, [], h => h.elim
/-- a world of cells ws, and the references that the law has -/
def PwN (D : va_G) (s : State) (ws : va_W) (rs : List Nat) : List Nat → Heap → List Loc → Prop := fun ads H locs =>
  ads = rs ∧ va_P D vwCl ws H ∧ va_D (AL s) ws ∧ va_S (AL s) s.heap H locs
theorem at_right {α : Type} {xs ys : List α} {k : Nat} {q : α} (h : ys[k]? = some q) : (xs ++ ys)[xs.length + k]? = some q := by
  rw [List.getElem?_append_right (by omega), show xs.length + k - xs.length = k by omega]; exact h
theorem at_left {α : Type} {xs ys : List α} {k : Nat} {q : α} (h : xs[k]? = some q) : (xs ++ ys)[k]? = some q := by
  rw [List.getElem?_append_left (List.getElem?_eq_some_iff.mp h).1]; exact h
theorem at_split {α : Type} {xs ys : List α} {k : Nat} {q : α} (h : (xs ++ ys)[k]? = some q) : xs[k]? = some q ∨ (xs.length ≤ k ∧ ys[k - xs.length]? = some q) := by
  by_cases hk : k < xs.length
  · rw [List.getElem?_append_left hk] at h; exact Or.inl h
  · rw [List.getElem?_append_right (by omega)] at h; exact Or.inr ⟨by omega, h⟩
theorem va_P_app {ws1 ws2 : va_W} {H : Heap} : va_P D vwCl (ws1 ++ ws2) H ↔ va_P D vwCl ws1 H ∧ va_P D vwCl ws2 H :=
  ⟨fun h => ⟨fun k q hk => h k q (at_left hk), fun k q hk => h _ q (at_right hk)⟩, fun h k q hk => (at_split hk).elim (h.1 k q) (fun h2 => h.2 _ q h2.2)⟩
theorem va_D_app {A : Nat → Prop} {ws1 ws2 : va_W} : va_D A (ws1 ++ ws2) ↔ va_D A ws1 ∧ va_D A ws2 ∧ ∀ (i j : Nat) (p q : Nat × va_E), ws1[i]? = some p → ws2[j]? = some q → p.1 ≠ q.1 := by
  constructor
  · intro h
    refine ⟨⟨fun i j p q hi hj => h.1 i j p q (at_left hi) (at_left hj), fun k q hk => h.2 k q (at_left hk)⟩, ⟨fun i j p q hi hj hpq => ?_, fun k q hk => h.2 _ q (at_right hk)⟩, fun i j p q hi hj hpq => ?_⟩
    · have := h.1 _ _ p q (at_right (xs := ws1) hi) (at_right (xs := ws1) hj) hpq; omega
    · have := h.1 _ _ p q (at_left (ys := ws2) hi) (at_right (xs := ws1) hj) hpq
      have := (List.getElem?_eq_some_iff.mp hi).1
      omega
  · rintro ⟨h1, h2, h3⟩
    refine ⟨fun i j p q hi hj hpq => ?_, fun k q hk => (at_split hk).elim (h1.2 k q) (fun h => h2.2 _ q h.2)⟩
    rcases at_split hi with hi | ⟨g1, hi⟩
    · rcases at_split hj with hj | ⟨g2, hj⟩
      · exact h1.1 i j p q hi hj hpq
      · exact absurd hpq (h3 _ _ p q hi hj)
    · rcases at_split hj with hj | ⟨g2, hj⟩
      · exact absurd hpq.symm (h3 _ _ q p hj hi)
      · have := h2.1 _ _ p q hi hj hpq; omega
/-- an object of the law's: made -/
theorem rl_new {ci idx : Nat} {ws : va_W} {rs : List Nat} (hC : Cx 12 cc nL false p s m args meth c (AL s) D cI cZ) (hd : decode cc pc = .ok (.new idx, 3)) (hf : (12, idx, ci) ∈ nlk) (hci : ci < 12) (hcl : kc + 1 ≤ R.cells) (hsl : ks + fN.getD ci 0 ≤ R.slots)
    (kk : ∀ a : Nat, Rg p l e R s m args below meth c (PwN D s (ws ++ mkW [a] cI cZ [(ci, sl0 ci)] (fun _ _ => 0)) (rs ++ [a])) (kc + 1) (ks + fN.getD ci 0) Q nL (pc + 3) L (.inr rs.length :: st)) : Rg p l e R s m args below meth c (PwN D s ws rs) kc ks Q nL pc L st := by
  intro ads H locs ls cst hW hL hv
  obtain ⟨rfl, hP, hD, hS⟩ := hW
  obtain ⟨hx, hb, -, hown, hts, -, -, ⟨hK, hN⟩, hA⟩ := hC
  obtain ⟨cq, hcq⟩ := vwCl_some hci
  obtain ⟨o1, o2, o3, o4, o5, o6⟩ := cls_ok ci cq hcq
  have hN : fN.getD ci 0 = cq.2.2 := by rw [List.getD_eq_getElem?_getD, o5]; rfl
  have k1 := nlk_ok1 _ hf
  have k2 := nlk_ok2 _ hf
  have k3 := nlk_ok3 _ hf
  dsimp only at k1 k2 k3
  rw [← o1] at k1 k2 k3
  rw [hN] at k2
  have hlen : (sl0 ci).length = cq.2.2 := by unfold sl0; rw [List.length_map, List.length_range, hN]
  refine va_new (fs := (sl0 ci).mapIdx (fun i s => if s = 0 then Value.int (Int32.ofInt 0) else if s = 1 then Value.null else Value.ref 0)) hx hb hts o2 (tyC ci) o3 hown (hts _ k1) (hts _ k2) (hts _ k3) hK hP hD hS hA hcq (fun j hj => ?_) (by omega) (by omega) hd (fun q H1 hP1 hD1 hS1 => ?_)
  · have h9 := cls_def ci hci j (by rw [hN]; exact hj)
    unfold vp_V
    rw [List.getD_eq_getElem?_getD, List.getElem?_mapIdx]
    unfold sl0
    rw [List.getElem?_map, List.getElem?_range (by rw [hN]; exact hj)]
    simp only [Option.map_some, Option.getD_some]
    rcases h9 with ⟨h, h2⟩ | ⟨h, h2⟩
    · rw [h2]; simp [h]
    · rw [h2]; simp [h]
  · have he : mkW [q] cI cZ [(ci, sl0 ci)] (fun _ _ => 0) = [(q, .inr (ci, (sl0 ci).mapIdx (fun i s => if s = 0 then Value.int (Int32.ofInt 0) else if s = 1 then Value.null else Value.ref 0)))] := by
      unfold mkW
      simp only [List.mapIdx_cons, List.mapIdx_nil, List.getD_cons_zero]
      unfold cellE
      rw [if_pos hci]
      have hm : ∀ (xs : List Nat), (∀ x ∈ xs, x = 0 ∨ x = 1) → xs.mapIdx (fun i s => if s = 0 then Value.int (Int32.ofInt 0) else if s = 1 then Value.null else Value.ref ([q].getD (s - 2) 0)) = xs.mapIdx (fun i s => if s = 0 then Value.int (Int32.ofInt 0) else if s = 1 then Value.null else Value.ref 0) := by
        intro xs hxs
        refine List.ext_getElem? (fun j => ?_)
        rw [List.getElem?_mapIdx, List.getElem?_mapIdx]
        cases hj : xs[j]? with
        | none => rfl
        | some x =>
          rcases hxs x (List.mem_of_getElem? hj) with rfl | rfl <;> rfl
      rw [hm]
      intro x hx
      unfold sl0 at hx
      obtain ⟨k, -, rfl⟩ := List.mem_map.mp hx
      by_cases h : ftc ci k = 2
      · rw [if_pos h]; exact Or.inr rfl
      · rw [if_neg h]; exact Or.inl rfl
    have hkk := kk q (ads ++ [q]) H1 locs ls (.ref q :: cst) ⟨rfl, by rw [he]; exact hP1, by rw [he]; exact hD1, hS1⟩ (lrs_mono hL) ⟨⟨q, by rw [List.getElem?_append_right (Nat.le_refl _), Nat.sub_self]; rfl, rfl⟩, vrs_mono hv⟩
    rw [hN] at hkk
    exact hkk
theorem mem_mkW {lay : List Lay} {q : Nat × va_E} {k : Nat} (hl : ax.length = lay.length) (h : (mkW ax cI cZ lay σ)[k]? = some q) : q.1 ∈ ax ∧ ax[k]? = some q.1 := by
  rw [mkW_get] at h
  cases hk : lay[k]? with
  | none => rw [hk] at h; cases h
  | some x =>
    rw [hk] at h; cases h
    have hlt : k < ax.length := by rw [hl]; exact (List.getElem?_eq_some_iff.mp hk).1
    have : ax[k]? = some (ax.getD k 0) := by rw [List.getD_eq_getElem?_getD, List.getElem?_eq_getElem hlt]; rfl
    exact ⟨List.mem_of_getElem? this, this⟩
theorem get_mkW {lay : List Lay} {a : Nat} (hl : ax.length = lay.length) (h : a ∈ ax) : ∃ (k : Nat) (E : va_E), (mkW ax cI cZ lay σ)[k]? = some (a, E) := by
  obtain ⟨k, hk⟩ := List.getElem?_of_mem h
  have hlt : k < lay.length := by rw [← hl]; exact (List.getElem?_eq_some_iff.mp hk).1
  have h2 := mkW_get ax cI cZ lay σ k
  rw [List.getElem?_eq_getElem hlt, getD_of hk] at h2
  exact ⟨k, _, h2⟩
/-- what a call on one of the objects leaves of the world -/
theorem pw_back {ws : va_W} {lay lay' : List Lay} {ads' : List Nat} {H H1 : Heap} {t : State} (hl : ax.length = lay.length) (hP : va_P D vwCl (ws ++ mkW ax cI cZ lay σ) H) (hD : va_D (AL s) (ws ++ mkW ax cI cZ lay σ)) (hsz : s.heap.size ≤ H.size)
    (ht : t.heap = H1) (hB : BW D cI cZ (AA ax H.size) ax (lay', σ') ads' t) (hq : ∀ q : Nat, q < H.size → ¬ AA ax H.size q → H1[q]? = H[q]?) : va_P D vwCl (ws ++ mkW ads' cI cZ lay' σ') H1 ∧ va_D (AL s) (ws ++ mkW ads' cI cZ lay' σ') ∧ ads'.length = lay'.length ∧ (∀ k i : Nat, inR (σ' k i)) ∧ ax <+: ads' := by
  obtain ⟨b1, -, b3, b4, b5, b6⟩ := hB
  subst ht
  obtain ⟨p1, p2⟩ := va_P_app.mp hP
  obtain ⟨d1, d2, d3⟩ := va_D_app.mp hD
  have hw : ∀ (k : Nat) (q : Nat × va_E), ws[k]? = some q → q.1 < H.size ∧ ¬ AA ax H.size q.1 := by
    intro k q hk
    have hlt := vx_lt p1 hk
    refine ⟨hlt, ?_⟩
    rintro (h | h)
    · obtain ⟨j, E, hj⟩ := get_mkW (cI := cI) (cZ := cZ) (σ := σ) hl h
      exact d3 k j q _ hk hj rfl
    · omega
  have hAA : ∀ q, AA ax H.size q → AL s q := by
    rintro q (h | h)
    · obtain ⟨j, E, hj⟩ := get_mkW (cI := cI) (cZ := cZ) (σ := σ) hl h
      exact d2.2 j _ hj
    · exact Nat.le_trans hsz h
  refine ⟨va_P_app.mpr ⟨fun k q hk => ?_, b1⟩, va_D_app.mpr ⟨d1, ⟨b3.1, fun k q hk => hAA _ (b3.2 k q hk)⟩, fun i j p q hi hj hpq => ?_⟩, b4, b5, b6⟩
  · obtain ⟨g1, g2⟩ := hw k q hk
    exact (p1 k q hk).kept (hq q.1 g1 g2)
  · exact (hw i p hi).2 (by rw [hpq]; exact b3.2 j q hj)
theorem pw_sub {ws : va_W} {lay : List Lay} {H : Heap} {locs : List Loc} (hl : ax.length = lay.length) (hP : va_P D vwCl (ws ++ mkW ax cI cZ lay σ) H) (hD : va_D (AL s) (ws ++ mkW ax cI cZ lay σ)) (hS : va_S (AL s) s.heap H locs) (hr : ∀ k i : Nat, inR (σ k i)) : WH s (AL s) D cI cZ [] ax (lay, σ) H locs :=
  ⟨(va_P_app.mp hP).2, (va_D_app.mp hD).2.1, hS, hl, hr, List.nil_prefix⟩
theorem aa_sub {ws : va_W} {lay : List Lay} {H : Heap} (hl : ax.length = lay.length) (hD : va_D (AL s) (ws ++ mkW ax cI cZ lay σ)) (hsz : s.heap.size ≤ H.size) : ∀ q, AA ax H.size q → AL s q := by
  rintro q (h | h)
  · obtain ⟨j, E, hj⟩ := get_mkW (cI := cI) (cZ := cZ) (σ := σ) hl h
    exact (va_D_app.mp hD).2.1.2 j _ hj
  · exact Nat.le_trans hsz h
/-- its constructor -/
theorem rl_init {M1 : Mr} {lay lay' : List Lay} {ws : va_W} {rs : List Nat} {a r idx d1 : Nat} (hC : Cx 12 cc nL false p s m args meth c (AL s) D cI cZ) (hRf : d1 + 1 ≤ R.frames) (hRl : 8 + 31 + 40 * d1 ≤ R.locals) (hd : decode cc pc = .ok (.invokespecial idx, 3)) (hl : Cond.methodLink (ownN 12) idx M1.2.1 ∈ TB) (hs : Cond.instanceMethod M1.2.1 ∈ TB) (hyn : M1.2.1.name = "<init>") (hm : MOK M1.2.1 M1.2.2.1 M1.2.2.2.1 none 0) (hst : st.length ≤ 8) (hlay : lay.length = 1)
    (hr : rs[r]? = some a) (hct : CT l d1 M1.2.1 M1.2.2.1 M1.2.2.2.1 none [.inr 0] (lay, fun _ _ => 0) none (lay', σ')) (hlen : 1 ≤ lay'.length) (hsl0 : nSl lay ≤ nSl lay') (hcl : kc + (lay'.length - 1) ≤ R.cells) (hsl : ks + (nSl lay' - nSl lay) ≤ R.slots)
    (kk : ∀ ax : List Nat, ax.length = lay'.length → ax.getD 0 0 = a → (∀ k i : Nat, inR (σ' k i)) → Rg p l e R s m args below meth c (PwN D s (ws ++ mkW ax cI cZ lay' σ') rs) (kc + (lay'.length - 1)) (ks + (nSl lay' - nSl lay)) Q nL (pc + 3) L st) : Rg p l e R s m args below meth c (PwN D s (ws ++ mkW [a] cI cZ lay (fun _ _ => 0)) rs) kc ks Q nL pc L (.inr r :: st) := by
  intro ads H locs ls cst hW hL hv
  obtain ⟨rfl, hP, hD, hS⟩ := hW
  match cst, hv with
  | cv :: crest, hv =>
    obtain ⟨a', ha', rfl⟩ := id hv.1
    have : a' = a := by rw [hr] at ha'; exact (Option.some.inj ha').symm
    subst this
    have hcat : (crest.map fun v => v.category).sum ≤ 8 := by rw [vrs_cat hv.2]; exact hst
    have hl1 : [a'].length = lay.length := by rw [hlay]; rfl
    have hW := pw_sub hl1 hP hD hS (fun _ _ => in0)
    have hrun := callL_I (ls := ls) (S := (lay, fun _ _ => 0)) (ads0 := []) (l := l) (e := e) (below := below) (as := []) (k := 0) hC hRf hRl hd hl hs hyn hm rfl [a'] H locs kc ks [.ref a'] crest none (lay', σ') hW ⟨⟨a', rfl, rfl⟩, trivial⟩ hcat hL.1 hct (by show kc + (lay'.length - lay.length) ≤ _; rw [hlay]; exact hcl) hsl
    refine va_callv (a := [Value.ref a'].toArray) hrun hS (fun q _ h => aa_sub hl1 hD hS.1 q h) (aa_sub hl1 hD hS.1) (fun u t H1 locs1 ht _ _ hB _ hq hS1 => ?_)
    obtain ⟨g1, g2, g3, g4, g5⟩ := pw_back hl1 hP hD hS.1 ht hB hq
    obtain ⟨z, hz⟩ := g5
    have hk := kk u g3 (by rw [← hz]; rfl) g4 ads H1 locs1 ls crest ⟨rfl, g1, g2, hS1⟩ hL hv.2
    show W p l e R s m args below meth c H1 locs1 (kc + (lay'.length - lay.length)) _ Q _
    rw [hlay]
    exact hk
/-- the array of one long -/
theorem rl_out {ws : va_W} {rs : List Nat} (hC : Cx 12 cc nL false p s m args meth c (AL s) D cI cZ) (hK : KO D cI cZ cJ s) (hw : Cond.arrayClass .long ∈ TB) (hd : decode cc pc = .ok (.newarray .long, 2)) (hcl : kc + 1 ≤ R.cells) (hsl : ks + 1 ≤ R.slots)
    (kk : ∀ a : Nat, Rg p l e R s m args below meth c (PwN D s (ws ++ [(a, OUTE cJ 0)]) (rs ++ [a])) (kc + 1) (ks + 1) Q nL (pc + 2) L (.inr rs.length :: st)) : Rg p l e R s m args below meth c (PwN D s ws rs) kc ks Q nL pc L (.inl 1 :: st) := by
  intro ads H locs ls cst hW hL hv
  obtain ⟨rfl, hP, hD, hS⟩ := hW
  match cst, hv with
  | cv :: crest, hv =>
    obtain ⟨-, rfl⟩ := vr_int hv.1
    refine va_newa (atype := .long) (ty := .long) (N' := 1) (a0 := (1, .inr (.inl (fun _ => 0)))) hC.1 hC.2.1 (hC.2.2.2.2.1 _ hw) rfl hK.1 hP hD hS hC.2.2.2.2.2.2.2.2 (fun cA => rfl) (by decide) rfl (by decide) hcl hsl hd (fun q cA H1 hK1 hP1 hD1 hS1 => ?_)
    have h1 : va_RA s cA .long := (hK1.2 3 (cA, .long) rfl).2
    have h2 : va_RA s cJ .long := (hK.1.2 2 (cJ, .long) rfl).2
    have h3 : cA = cJ := by
      have h1' : s.vm.findClass ("[" ++ FieldType.long.toString) = some cA := h1
      have h2' : s.vm.findClass ("[" ++ FieldType.long.toString) = some cJ := h2
      rw [h1'] at h2'; exact Option.some.inj h2'
    subst h3
    have he : OUTE cA 0 = .inl (cA, 1, .inr (.inl (fun _ => 0))) := by
      unfold OUTE
      have : (fun j : Nat => if j = 0 then (Int32.ofInt 0).toInt64 else (0 : Int64)) = fun _ => 0 := by
        funext j
        by_cases h : j = 0
        · rw [if_pos h]; decide
        · rw [if_neg h]
      rw [this]
    exact kk q (ads ++ [q]) H1 locs ls (.ref q :: crest) ⟨rfl, by rw [he]; exact hP1, by rw [he]; exact hD1, hS1⟩ (lrs_mono hL) ⟨⟨q, by rw [List.getElem?_append_right (Nat.le_refl _), Nat.sub_self]; rfl, rfl⟩, vrs_mono hv.2⟩
/-- the world of the law's loop -/
def PwL (D : va_G) (cI cZ cJ : ClassId) (s : State) (ax am : List Nat) (ao b : Nat) (σ τ : Sg) (ov : Int) : List Nat → Heap → List Loc → Prop := fun ads H locs =>
  PwN D s (Wo cI cZ cJ ax ao σ ov ++ mkW am cI cZ LAYM τ) [b, ax.getD 0 0, am.getD 0 0, ao] ads H locs ∧ ax.length = 55 ∧ am.length = 51 ∧ (∀ k i : Nat, inR (σ k i)) ∧ ∀ k i : Nat, inR (τ k i)
theorem lenM : LAYM.length = 51 := rfl
theorem vrs_ints {a1 a2 : List Nat} : ∀ {vs : List Int} {cs : List Value}, vrs a1 (vs.map .inl) cs → vrs a2 (vs.map .inl) cs
  | [], [], _ => trivial
  | _ :: _, _ :: _, h => ⟨h.1, vrs_ints h.2⟩
  | [], _ :: _, h => h.elim
  | _ :: _, [], h => h.elim
theorem va_P_swap {ws1 ws2 ws3 : va_W} {H : Heap} (h : va_P D vwCl ((ws1 ++ ws2) ++ ws3) H) : va_P D vwCl ((ws2 ++ ws3) ++ ws1) H := by
  obtain ⟨h1, h3⟩ := va_P_app.mp h
  obtain ⟨h1, h2⟩ := va_P_app.mp h1
  exact va_P_app.mpr ⟨va_P_app.mpr ⟨h2, h3⟩, h1⟩
theorem at_app {ws1 ws2 : va_W} {i : Nat} {p : Nat × va_E} (h : (ws1 ++ ws2)[i]? = some p) : (∃ j : Nat, ws1[j]? = some p) ∨ ∃ j : Nat, ws2[j]? = some p := (at_split h).elim (fun h => Or.inl ⟨_, h⟩) (fun h => Or.inr ⟨_, h.2⟩)
theorem va_D_swap {A : Nat → Prop} {ws1 ws2 ws3 : va_W} (h : va_D A ((ws1 ++ ws2) ++ ws3)) : va_D A ((ws2 ++ ws3) ++ ws1) := by
  obtain ⟨h12, h3, h4⟩ := va_D_app.mp h
  obtain ⟨h1, h2, h5⟩ := va_D_app.mp h12
  refine va_D_app.mpr ⟨va_D_app.mpr ⟨h2, h3, fun i j p q hi hj => h4 _ j p q (at_right (xs := ws1) hi) hj⟩, h1, fun i j p q hi hj hpq => ?_⟩
  rcases at_app hi with ⟨k, hk⟩ | ⟨k, hk⟩
  · exact h5 j k q p hj hk hpq.symm
  · exact h4 j k q p (at_left hj) hk hpq.symm
/-- a method of the reference's object -/
theorem rl_m {M1 : Mr} {n idx d1 : Nat} {vs : List Int} {x : Int} (hC : Cx 12 cc nL false p s m args meth c (AL s) D cI cZ) (hRf : d1 + 1 ≤ R.frames) (hRl : 8 + 31 + 40 * d1 ≤ R.locals) (hd : decode cc pc = .ok (.invokevirtual idx, 3)) (hl : Cond.methodLink (ownN 12) idx M1.2.1 ∈ TB) (hs : Cond.instanceMethod M1.2.1 ∈ TB ∧ Cond.selects M1.2.1.cls M1.2.1 M1.2.1 ∈ TB) (hm : MOK M1.2.1 M1.2.2.1 M1.2.2.2.1 M1.2.2.2.2 n) (hy : M1.2.1.cls = ownN 11) (hn : vs.length = n) (hst : st.length ≤ 8) (hkc : kc ≤ R.cells) (hks : ks ≤ R.slots)
    (hct : CT l d1 M1.2.1 M1.2.2.1 M1.2.2.2.1 M1.2.2.2.2 (.inr 0 :: vs.map .inl) (LAYM, τ) (some (.inl x)) (LAYM, τ'))
    (kk : Rg p l e R s m args below meth c (PwL D cI cZ cJ s ax am ao b σ τ' ov) kc ks Q nL (pc + 3) L (.inl x :: st))
    (st0 : List AV) (hs0 : st0 = (.inr 2 :: vs.map .inl).reverse ++ st) : Rg p l e R s m args below meth c (PwL D cI cZ cJ s ax am ao b σ τ ov) kc ks Q nL pc L st0 := by
  intro ads H locs ls cst hW hL hv
  subst hs0
  obtain ⟨⟨rfl, hP, hD, hS⟩, hlx, hlm, hrx, hrm⟩ := hW
  obtain ⟨cr, crest, rfl, h1, h2⟩ := vrs_app hv
  have h3 := vrs_rev h1
  rw [List.reverse_reverse] at h3
  have hk0 : ∃ q, LAYM[0]? = some (11, q) := ⟨_, rfl⟩
  obtain ⟨q0, hk0⟩ := hk0
  have hcat : (crest.map fun v => v.category).sum ≤ 8 := by rw [vrs_cat h2]; exact hst
  have hl1 : am.length = LAYM.length := by rw [hlm, lenM]
  have hWH := pw_sub hl1 hP hD hS hrm
  obtain ⟨cv, cas, hcr⟩ : ∃ cv cas, cr.reverse = cv :: cas := by
    cases h : cr.reverse with
    | nil => rw [h] at h3; exact h3.elim
    | cons a t => exact ⟨a, t, rfl⟩
  rw [hcr] at h3
  have hcr2 : cr = (cv :: cas).reverse := by rw [← hcr, List.reverse_reverse]
  subst hcr2
  have h4 : vrs am (.inr 0 :: vs.map .inl) (cv :: cas) := by
    refine ⟨?_, vrs_ints h3.2⟩
    obtain ⟨a, ha, rfl⟩ := id h3.1
    refine ⟨a, ?_, rfl⟩
    have : a = am.getD 0 0 := (Option.some.inj ha).symm
    subst this
    rw [List.getD_eq_getElem?_getD, List.getElem?_eq_getElem (by omega)]; rfl
  have hrun := callL_V (ls := ls) (S := (LAYM, τ)) (ads0 := []) (l := l) (e := e) (below := below) (k := 0) hC hRf hRl hd hl hs hm (by decide) hy hk0 (by rw [List.length_map]; exact hn) am H locs kc ks (cv :: cas) crest (some (.inl x)) (LAYM, τ') hWH h4 hcat hL.1 hct (by show kc + (LAYM.length - LAYM.length) ≤ _; omega) (by show ks + (nSl LAYM - nSl LAYM) ≤ _; omega)
  refine va_calli (a := (cv :: cas).toArray) hrun hS (fun q _ h => aa_sub hl1 hD hS.1 q h) (aa_sub hl1 hD hS.1) (fun r u t H1 locs1 ht _ hp hB _ hq hS1 => ?_)
  obtain ⟨g1, g2, g3, g4, z, hz⟩ := pw_back hl1 hP hD hS.1 ht hB hq
  have hu : u = am := by
    have h9 := congrArg List.length hz
    rw [List.length_append, g3, hl1] at h9
    have hz0 : z = [] := List.eq_nil_of_length_eq_zero (by omega)
    rw [hz0, List.append_nil] at hz; exact hz.symm
  subst hu
  show W p l e R s m args below meth c H1 locs1 (kc + (LAYM.length - LAYM.length)) (ks + (nSl LAYM - nSl LAYM)) Q _
  rw [Nat.sub_self, Nat.sub_self, hp.1]
  exact kk _ H1 locs1 ls _ ⟨⟨rfl, g1, g2, hS1⟩, hlx, hlm, hrx, g4⟩ hL ⟨⟨hp.2, rfl⟩, h2⟩
/-- a method of the class's object, asked by the law itself -/
theorem rl_x {M1 : Mr} {n idx d1 : Nat} {vs : List Int} {x : Int} (hC : Cx 12 cc nL false p s m args meth c (AL s) D cI cZ) (hRf : d1 + 1 ≤ R.frames) (hRl : 8 + 31 + 40 * d1 ≤ R.locals) (hd : decode cc pc = .ok (.invokevirtual idx, 3)) (hl : Cond.methodLink (ownN 12) idx M1.2.1 ∈ TB) (hs : Cond.instanceMethod M1.2.1 ∈ TB ∧ Cond.selects M1.2.1.cls M1.2.1 M1.2.1 ∈ TB) (hm : MOK M1.2.1 M1.2.2.1 M1.2.2.2.1 M1.2.2.2.2 n) (hy : M1.2.1.cls = ownN 10) (hn : vs.length = n) (hst : st.length ≤ 8) (hkc : kc ≤ R.cells) (hks : ks ≤ R.slots)
    (hct : CT l d1 M1.2.1 M1.2.2.1 M1.2.2.2.1 M1.2.2.2.2 (.inr 0 :: vs.map .inl) (LAYC, σ) (some (.inl x)) (LAYC, σ'))
    (kk : Rg p l e R s m args below meth c (PwL D cI cZ cJ s ax am ao b σ' τ ov) kc ks Q nL (pc + 3) L (.inl x :: st))
    (st0 : List AV) (hs0 : st0 = (.inr 1 :: vs.map .inl).reverse ++ st) : Rg p l e R s m args below meth c (PwL D cI cZ cJ s ax am ao b σ τ ov) kc ks Q nL pc L st0 := by
  intro ads H locs ls cst hW hL hv
  subst hs0
  obtain ⟨⟨rfl, hP, hD, hS⟩, hlx, hlm, hrx, hrm⟩ := hW
  obtain ⟨cr, crest, rfl, h1, h2⟩ := vrs_app hv
  have h3 := vrs_rev h1
  rw [List.reverse_reverse] at h3
  have hk0 : ∃ q, LAYC[0]? = some (10, q) := ⟨_, rfl⟩
  obtain ⟨q0, hk0⟩ := hk0
  have hcat : (crest.map fun v => v.category).sum ≤ 8 := by rw [vrs_cat h2]; exact hst
  have hl1 : ax.length = LAYC.length := by rw [hlx, lenC]
  have hP' := va_P_swap hP
  have hD' := va_D_swap hD
  have hWH := pw_sub hl1 hP' hD' hS hrx
  obtain ⟨cv, cas, hcr⟩ : ∃ cv cas, cr.reverse = cv :: cas := by
    cases h : cr.reverse with
    | nil => rw [h] at h3; exact h3.elim
    | cons a t => exact ⟨a, t, rfl⟩
  rw [hcr] at h3
  have hcr2 : cr = (cv :: cas).reverse := by rw [← hcr, List.reverse_reverse]
  subst hcr2
  have h4 : vrs ax (.inr 0 :: vs.map .inl) (cv :: cas) := by
    refine ⟨?_, vrs_ints h3.2⟩
    obtain ⟨a, ha, rfl⟩ := id h3.1
    refine ⟨a, ?_, rfl⟩
    have : a = ax.getD 0 0 := (Option.some.inj ha).symm
    subst this
    rw [List.getD_eq_getElem?_getD, List.getElem?_eq_getElem (by omega)]; rfl
  have hrun := callL_V (ls := ls) (S := (LAYC, σ)) (ads0 := []) (l := l) (e := e) (below := below) (k := 0) hC hRf hRl hd hl hs hm (by decide) hy hk0 (by rw [List.length_map]; exact hn) ax H locs kc ks (cv :: cas) crest (some (.inl x)) (LAYC, σ') hWH h4 hcat hL.1 hct (by show kc + (LAYC.length - LAYC.length) ≤ _; omega) (by show ks + (nSl LAYC - nSl LAYC) ≤ _; omega)
  refine va_calli (a := (cv :: cas).toArray) hrun hS (fun q _ h => aa_sub hl1 hD' hS.1 q h) (aa_sub hl1 hD' hS.1) (fun r u t H1 locs1 ht _ hp hB _ hq hS1 => ?_)
  obtain ⟨g1, g2, g3, g4, z, hz⟩ := pw_back hl1 hP' hD' hS.1 ht hB hq
  have hu : u = ax := by
    have h9 := congrArg List.length hz
    rw [List.length_append, g3, hl1] at h9
    have hz0 : z = [] := List.eq_nil_of_length_eq_zero (by omega)
    rw [hz0, List.append_nil] at hz; exact hz.symm
  subst hu
  show W p l e R s m args below meth c H1 locs1 (kc + (LAYC.length - LAYC.length)) (ks + (nSl LAYC - nSl LAYC)) Q _
  rw [Nat.sub_self, Nat.sub_self, hp.1]
  exact kk _ H1 locs1 ls _ ⟨⟨rfl, va_P_swap (va_P_swap g1), va_D_swap (va_D_swap g2), hS1⟩, hlx, hlm, g4, hrm⟩ hL ⟨⟨hp.2, rfl⟩, h2⟩
/-- a helper -/
theorem rl_help {y : MethodName} {bytes : ByteArray} {maxL idx n d1 : Nat} {hh : List (Nat × Nat × Nat × Nat)} {vs : List Int} {k : Int} (hC : Cx 12 cc nL false p s m args meth c (AL s) D cI cZ) (hK : KO D cI cZ cJ s) (hT : TH (AL s) s s.heap) (hRf : d1 + 1 ≤ R.frames) (hRl : 8 + 31 + 40 * d1 ≤ R.locals) (hd : decode cc pc = .ok (.invokestatic idx, 3)) (hl : Cond.methodLink (ownN 12) idx y ∈ TB) (hcw : Cond.codeWith y bytes maxL (some .int) hh ∈ TB) (hsw : Cond.static y ∈ TB) (hin : Cond.initialized y.cls ∈ TB) (hmx : maxL ≤ 20)
    (hy : y.cls ≠ "java/lang/invoke/MethodHandle" ∧ y.cls ≠ "java/lang/invoke/VarHandle" ∧ (parseMethodDescriptor y.desc).map (fun d => d.parameters.length) = some n) (hn : vs.length + 2 = n) (hst : st.length ≤ 8) (hkc : kc + 1 ≤ R.cells) (hks : ks + 6 ≤ R.slots)
    (hwc : WC l d1 y bytes maxL hh (.inr 0 :: (vs.map .inl ++ [.inr 55])) σ ov k σ' ov')
    (kk : Rg p l e R s m args below meth c (PwL D cI cZ cJ s ax am ao b σ' τ ov') (kc + 1) (ks + 6) Q nL (pc + 3) L (.inl k :: st)) (hkr : inR k)
    (st0 : List AV) (hs0 : st0 = (.inr 1 :: (vs.map .inl ++ [.inr 3])).reverse ++ st) : Rg p l e R s m args below meth c (PwL D cI cZ cJ s ax am ao b σ τ ov) kc ks Q nL pc L st0 := by
  intro ads H locs ls cst hW hL hv
  subst hs0
  obtain ⟨⟨rfl, hP, hD, hS⟩, hlx, hlm, hrx, hrm⟩ := hW
  obtain ⟨cr, crest, rfl, h1, h2⟩ := vrs_app hv
  have h3 := vrs_rev h1
  rw [List.reverse_reverse] at h3
  have hcat : (crest.map fun v => v.category).sum ≤ 8 := by rw [vrs_cat h2]; exact hst
  obtain ⟨cv, cas, hcr⟩ : ∃ cv cas, cr.reverse = cv :: cas := by
    cases h : cr.reverse with
    | nil => rw [h] at h3; exact h3.elim
    | cons a t => exact ⟨a, t, rfl⟩
  rw [hcr] at h3
  have hcr2 : cr = (cv :: cas).reverse := by rw [← hcr, List.reverse_reverse]
  subst hcr2
  have h4 : vrs (ax ++ [ao]) (.inr 0 :: (vs.map .inl ++ [.inr 55])) (cv :: cas) := by
    refine ⟨?_, ?_⟩
    · obtain ⟨a, ha, rfl⟩ := id h3.1
      refine ⟨a, ?_, rfl⟩
      have : a = ax.getD 0 0 := (Option.some.inj ha).symm
      subst this
      rw [List.getElem?_append_left (by omega), List.getD_eq_getElem?_getD, List.getElem?_eq_getElem (by omega)]; rfl
    · obtain ⟨c1, c2, rfl, g1, g2⟩ := vrs_app h3.2
      refine vrs_app2 (vrs_ints g1) ?_
      match c2, g2 with
      | [w], g2 =>
        refine ⟨?_, trivial⟩
        obtain ⟨a, ha, rfl⟩ := id g2.1
        have : a = ao := (Option.some.inj ha).symm
        subst this
        exact ⟨a, by rw [List.getElem?_append_right (by omega), hlx]; rfl, rfl⟩
  obtain ⟨p1, p2⟩ := va_P_app.mp hP
  obtain ⟨d1', d2, d3⟩ := va_D_app.mp hD
  have hlw : ∀ q, q ∈ ax → ∃ (j : Nat) (E : va_E), (Wo cI cZ cJ ax ao σ ov)[j]? = some (q, E) := by
    intro q hq
    obtain ⟨j, E, hj⟩ := get_mkW (cI := cI) (cZ := cZ) (σ := σ) (lay := LAYC) (by rw [hlx, lenC]) hq
    exact ⟨j, E, wo_left hj⟩
  have hlo : (Wo cI cZ cJ ax ao σ ov)[55]? = some (ao, OUTE cJ ov) := by rw [wo_get]; rfl
  have hAo : ∀ q, Ao ax ao H.size q → AL s q := by
    rintro q (h | h | h)
    · obtain ⟨j, E, hj⟩ := hlw q h
      exact d1'.2 j _ hj
    · subst h; exact d1'.2 55 _ hlo
    · exact Nat.le_trans hS.1 h
  have hTH : TH (Ao ax ao H.size) s H := (hT.kept hS.2.1).narrow hAo
  have hts := hC.2.2.2.2.1
  have hcwr := vx_cwSW (R := R) (s := s) (args := args) (own := ownN 12) (index := idx) (maxL := maxL) (mc := 1) (ms := 6) (y := y) (bytes := bytes) (ret := some .int) (hh := hh) (Ts := TB) (ws := wsH y bytes maxL hh) (ws' := TB) (rm := rmD d1 1 6) n hts (goodTB (fun w hw => by
    unfold va_wsS at hw
    rcases List.mem_append.mp hw with hw | hw
    · simp only [List.mem_cons, List.not_mem_nil, or_false] at hw
      rcases hw with rfl | rfl | rfl
      · exact hl
      · exact hsw
      · exact hin
    · rcases List.mem_cons.mp hw with rfl | hw
      · exact hcw
      · exact hw)) rfl rfl rfl hy (hd_room2 hRf hRl hmx)
  have hrun := vx_runSW (cc := cc) (g := F0 m pc ls ((cv :: cas).reverse ++ crest)) (H := H) (locs := locs) (cells := kc) (slots := ks) (e := e) (below := below) (c := c) (meth := meth) (Ts := TB) (As := cv :: cas) (rest := crest) ⟨hC.1, hC.2.1, hC.2.2.1, hC.2.2.2.1, hts⟩ (hwc D cI cZ cJ ax ao H.size (cv :: cas) h4 hlx hrx) hcwr ⟨fun a U g mk q => by
      obtain ⟨q0, q1, qP, qK, qD, qT⟩ := q
      exact ⟨q0, q1, qP, KO.moved (s := U) (U := U.calling g mk a) (State.WarmedH.refl U) qK, qD, TH.moved (u := U) (U := U.calling g mk a) (State.WarmedH.refl U) qT⟩, fun U hU hw => ⟨rfl, by rw [hU], by rw [hU]; exact p1, KO.moved hw hK, ⟨d1'.1, fun _ _ _ => trivial⟩, by rw [hU]; exact TH.moved hw hTH⟩⟩ rfl (by rw [vrs_len2 h4]; simp; omega) hL.1 rfl (by show 2 * 0 + _ ≤ 8; omega) hd ⟨hkc, hks⟩
  refine va_calli (a := (cv :: cas).toArray) hrun hS (fun q _ h => hAo q h) hAo (fun r u t H1 locs1 ht _ hp hB _ hq hS1 => ?_)
  subst ht
  have hM : ∀ (k : Nat) (q : Nat × va_E), (mkW am cI cZ LAYM τ)[k]? = some q → q.1 < H.size ∧ ¬ Ao ax ao H.size q.1 := by
    intro k q hk
    have hlt := vx_lt p2 hk
    refine ⟨hlt, ?_⟩
    rintro (h | h | h)
    · obtain ⟨j, E, hj⟩ := hlw _ h
      exact d3 j k _ q hj hk rfl
    · exact d3 55 k _ q hlo hk h.symm
    · omega
  rw [hp]
  exact kk _ t.heap locs1 ls _ ⟨⟨rfl, va_P_app.mpr ⟨hB.1, fun k q hk => (p2 k q hk).kept (hq q.1 (hM k q hk).1 (hM k q hk).2)⟩, va_D_app.mpr ⟨wo_D d1', d2, fun i j p q hi hj => by
    obtain ⟨p', hp', e1⟩ := wo_fst (σ' := σ) (ov' := ov) hi
    rw [← e1]; exact d3 i j p' q hp' hj⟩, hS1⟩, hlx, hlm, hB.2, hrm⟩ hL ⟨⟨hkr, rfl⟩, h2⟩
/-- reading the script -/
theorem rl_sld {xs : Nat → Int32} {L9 : Nat} {i : Int} (hC : Cx 12 cc nL false p s m args meth c (AL s) D cI cZ) (hX : va_X b L9 xs s s.heap) (hbl : b < s.heap.size) (hd : decode cc pc = .ok (.iaload, 1)) (hi : 0 ≤ i ∧ i < L9)
    (kk : Rg p l e R s m args below meth c (PwL D cI cZ cJ s ax am ao b σ τ ov) kc ks Q nL (pc + 1) L (.inl (xs i.toNat).toInt :: st)) : Rg p l e R s m args below meth c (PwL D cI cZ cJ s ax am ao b σ τ ov) kc ks Q nL pc L (.inl i :: .inr 0 :: st) := by
  intro ads H locs ls cst hW hL hv
  match cst, hv with
  | c1 :: c2 :: crest, hv =>
    obtain ⟨hir, rfl⟩ := vr_int hv.1
    obtain ⟨a, ha, rfl⟩ := id hv.2.1
    have : a = b := by rw [hW.1.1] at ha; exact (Option.some.inj ha).symm
    subst this
    have hnat : (Int32.ofInt i).toNatClampNeg = i.toNat := by
      rw [Int32.toNatClampNeg, i32_ofInt_toInt hir]
    refine va_sld (i := Int32.ofInt i) hC.1 hC.2.1 hX hbl (Nat.not_le.mpr hbl) hW.1.2.2.2 ?_ hd ?_
    · unfold vp_in
      rintro (h | h)
      · exact absurd ((i32_lt hir in0).mp h) (by omega)
      · rw [hnat] at h; omega
    · rw [hnat]
      exact kk ads H locs ls _ hW hL ⟨⟨i32_toInt_in _, by rw [Int32.ofInt_toInt]⟩, hv.2.2⟩
  | [c1], hv => exact hv.2.elim
theorem rl_slen {xs : Nat → Int32} {L9 : Nat} (hC : Cx 12 cc nL false p s m args meth c (AL s) D cI cZ) (hX : va_X b L9 xs s s.heap) (hbl : b < s.heap.size) (hd : decode cc pc = .ok (.arraylength, 1)) (hL9 : L9 ≤ 3072)
    (kk : Rg p l e R s m args below meth c (PwL D cI cZ cJ s ax am ao b σ τ ov) kc ks Q nL (pc + 1) L (.inl (L9 : Int) :: st)) : Rg p l e R s m args below meth c (PwL D cI cZ cJ s ax am ao b σ τ ov) kc ks Q nL pc L (.inr 0 :: st) := by
  intro ads H locs ls cst hW hL hv
  match cst, hv with
  | c1 :: crest, hv =>
    obtain ⟨a, ha, rfl⟩ := id hv.1
    have : a = b := by rw [hW.1.1] at ha; exact (Option.some.inj ha).symm
    subst this
    refine va_slen hC.1 hC.2.1 hX hbl (Nat.not_le.mpr hbl) hW.1.2.2.2 hd ?_
    exact kk ads H locs ls _ hW hL ⟨⟨⟨by omega, by omega⟩, rfl⟩, hv.2⟩
/-- the two answers are one -/
theorem rl_cmp {off : Int} {tgt j : Nat} (hC : Cx 12 cc nL false p s m args meth c (AL s) D cI cZ) (hK : KO D cI cZ cJ s) (d0 : decode cc pc = .ok (.laload, 1)) (d1 : decode cc (pc + 1) = .ok (.iload j, 2)) (hj : L[j]? = some (some (.inl ov))) (d2 : decode cc (pc + 3) = .ok (.i2l, 1)) (d3 : decode cc (pc + 4) = .ok (.lcmp, 1)) (d4 : decode cc (pc + 5) = .ok (.ifCond .eq off, 3)) (ht : ((pc + 5 : Nat) : Int) + off = (tgt : Int))
    (kk : Rg p l e R s m args below meth c (PwL D cI cZ cJ s ax am ao b σ τ ov) kc ks Q nL tgt L st) : Rg p l e R s m args below meth c (PwL D cI cZ cJ s ax am ao b σ τ ov) kc ks Q nL pc L (.inl 0 :: .inr 3 :: st) := by
  intro ads H locs ls cst hW hL hv
  match cst, hv with
  | c1 :: c2 :: crest, hv =>
    obtain ⟨hir, rfl⟩ := vr_int hv.1
    obtain ⟨a, ha, rfl⟩ := id hv.2.1
    have : a = ao := by rw [hW.1.1] at ha; exact (Option.some.inj ha).symm
    subst this
    have hlo : (Wo cI cZ cJ ax a σ ov ++ mkW am cI cZ LAYM τ)[55]? = some (a, OUTE cJ ov) := at_left (by rw [wo_get]; rfl)
    refine va_lald (i := Int32.ofInt 0) (n := 1) hC.1 hC.2.1 hK.1 hW.1.2.1 55 2 hlo rfl (by unfold vp_in; decide) d0 ?_
    obtain ⟨cv, g1, g2⟩ := hL.2.2.2 j _ hj
    obtain ⟨g3, rfl⟩ := vr_int g1
    refine lv_iload hC.1 hC.2.1 d1 g2 ?_
    refine lv_i2l hC.1 hC.2.1 d2 rfl ?_
    refine W.lcmp hC.1 hC.2.1 d3 ?_
    have : lg_cmp (if (Int32.ofInt 0).toNatClampNeg = 0 then (Int32.ofInt ov).toInt64 else 0) (Int32.ofInt ov).toInt64 = 0 := by
      rw [if_pos (by decide)]; simp [lg_cmp]
    show W p l e R s m args below meth c H locs kc ks Q (F0 m (pc + 4 + 1) ls (.int (lg_cmp (if (Int32.ofInt 0).toNatClampNeg = 0 then (Int32.ofInt ov).toInt64 else 0) (Int32.ofInt ov).toInt64) :: crest))
    rw [this]
    exact lv_if_eq hC.1 hC.2.1 d4 ht (fun _ => kk ads H locs ls crest hW hL hv.2.2) (fun h => absurd rfl h)
  | [c1], hv => exact hv.2.elim
/-- likewise of two truth values -/
theorem rl_cmpB {o1 o2 off : Int} {p1 p2 tgt j : Nat} {x : Bool} (hC : Cx 12 cc nL false p s m args meth c (AL s) D cI cZ) (hK : KO D cI cZ cJ s) (d0 : decode cc pc = .ok (.laload, 1)) (d1 : decode cc (pc + 1) = .ok (.iload j, 2)) (hj : L[j]? = some (some (.inl (b2i x)))) (d2 : decode cc (pc + 3) = .ok (.ifCond .eq o1, 3)) (t1 : ((pc + 3 : Nat) : Int) + o1 = (p1 : Int)) (d3 : decode cc (pc + 6) = .ok (.lconst 1, 1)) (d4 : decode cc (pc + 7) = .ok (.goto o2, 3)) (t2 : ((pc + 7 : Nat) : Int) + o2 = (p2 : Int)) (d5 : decode cc p1 = .ok (.lconst 0, 1)) (e5 : p1 + 1 = p2) (d6 : decode cc p2 = .ok (.lcmp, 1)) (d7 : decode cc (p2 + 1) = .ok (.ifCond .eq off, 3)) (ht : ((p2 + 1 : Nat) : Int) + off = (tgt : Int))
    (kk : Rg p l e R s m args below meth c (PwL D cI cZ cJ s ax am ao b σ τ (b2i x)) kc ks Q nL tgt L st) : Rg p l e R s m args below meth c (PwL D cI cZ cJ s ax am ao b σ τ (b2i x)) kc ks Q nL pc L (.inl 0 :: .inr 3 :: st) := by
  intro ads H locs ls cst hW hL hv
  match cst, hv with
  | c1 :: c2 :: crest, hv =>
    obtain ⟨hir, rfl⟩ := vr_int hv.1
    obtain ⟨a, ha, rfl⟩ := id hv.2.1
    have : a = ao := by rw [hW.1.1] at ha; exact (Option.some.inj ha).symm
    subst this
    have hlo : (Wo cI cZ cJ ax a σ (b2i x) ++ mkW am cI cZ LAYM τ)[55]? = some (a, OUTE cJ (b2i x)) := at_left (by rw [wo_get]; rfl)
    refine va_lald (i := Int32.ofInt 0) (n := 1) hC.1 hC.2.1 hK.1 hW.1.2.1 55 2 hlo rfl (by unfold vp_in; decide) d0 ?_
    obtain ⟨cv, g1, g2⟩ := hL.2.2.2 j _ hj
    obtain ⟨g3, rfl⟩ := vr_int g1
    refine lv_iload hC.1 hC.2.1 d1 g2 ?_
    have fin : ∀ w : Int64, w = (Int32.ofInt (b2i x)).toInt64 → W p l e R s m args below meth c H locs kc ks Q (F0 m p2 ls (.long w :: .long (if (Int32.ofInt 0).toNatClampNeg = 0 then (Int32.ofInt (b2i x)).toInt64 else 0) :: crest)) := by
      intro w hw
      subst hw
      refine W.lcmp hC.1 hC.2.1 d6 ?_
      have : lg_cmp (if (Int32.ofInt 0).toNatClampNeg = 0 then (Int32.ofInt (b2i x)).toInt64 else 0) (Int32.ofInt (b2i x)).toInt64 = 0 := by
        rw [if_pos (by decide)]; simp [lg_cmp]
      rw [this]
      exact lv_if_eq hC.1 hC.2.1 d7 ht (fun _ => kk ads H locs ls crest hW hL hv.2.2) (fun h => absurd rfl h)
    cases x with
    | true =>
      refine lv_if_eq hC.1 hC.2.1 d2 t1 (fun h => absurd h (by decide)) (fun _ => ?_)
      refine lv_lconst hC.1 hC.2.1 d3 rfl ?_
      refine lv_goto hC.1 hC.2.1 d4 t2 ?_
      exact fin _ (by decide)
    | false =>
      refine lv_if_eq hC.1 hC.2.1 d2 t1 (fun _ => ?_) (fun h => absurd (by decide) h)
      refine lv_lconst hC.1 hC.2.1 d5 rfl ?_
      rw [e5]
      exact fin _ (by decide)
  | [c1], hv => exact hv.2.elim
theorem rl_widen {Pw : List Nat → Heap → List Loc → Prop} {kc' ks' : Nat} (h1 : kc ≤ kc') (h2 : ks ≤ ks') (kk : Rg p l e R s m args below meth c Pw kc' ks' Q nL pc L st) : Rg p l e R s m args below meth c Pw kc ks Q nL pc L st :=
  fun ads H locs ls cst hW hL hv => W.widen (k := kc') (n := ks') h1 h2 (kk ads H locs ls cst hW hL hv)
end RL
