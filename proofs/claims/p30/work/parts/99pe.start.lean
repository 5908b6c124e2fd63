/-! what stands at the law's entry; the objects made -/
def AL (s : State) : Nat → Prop := fun q => s.heap.size ≤ q
theorem zip_in {α : Type} {f : α → Cond} {rs : List α} {ps : List Nat} (hl : rs.length = ps.length) (h : (rs.zip ps).all (fun q => decide (tables_1[q.2]? = some (f q.1))) = true) : ∀ r ∈ rs, f r ∈ lw_tbl := by
  intro r hr
  obtain ⟨i, hi⟩ := List.getElem?_of_mem hr
  have hil : i < rs.length := (List.getElem?_eq_some_iff.mp hi).1
  have hz : (rs.zip ps)[i]? = some (r, ps[i]'(by omega)) := by
    rw [List.getElem?_zip_eq_some]
    exact ⟨hi, List.getElem?_eq_getElem (by omega)⟩
  have h1 := List.all_eq_true.mp h _ (List.mem_of_getElem? hz)
  exact List.mem_append_right _ (List.mem_of_getElem? (of_decide_eq_true h1))
theorem tb_in {w : Cond} (i : Nat) (h : tables_1[i]? = some w) : w ∈ lw_tbl := List.mem_append_right _ (List.mem_of_getElem? h)
theorem nl_in : ∀ q ∈ NL, Cond.methodLinkNest q.1 q.2.1 q.2.2.1 q.2.2.2 ∈ lw_tbl := zip_in (f := fun q : String × Nat × MethodName × String => Cond.methodLinkNest q.1 q.2.1 q.2.2.1 q.2.2.2) (ps := [31, 55, 76, 123, 130, 385, 490, 529, 530, 552, 561, 572, 603, 631, 636, 641, 654, 667, 668, 796, 816, 817, 842, 843, 932, 933, 971, 973, 989, 1000, 1070, 1083, 1111, 1112, 1125, 1148, 1152, 1185, 1203, 1229, 1234, 1265]) (by decide +kernel) (by decide +kernel)
theorem ca_in (E : Nat) : Cond.castable (exN E) (exN E) ∈ lw_tbl := by
  unfold exN
  split
  · exact tb_in 393 (by decide +kernel)
  · split
    · exact tb_in 465 (by decide +kernel)
    · exact tb_in 498 (by decide +kernel)
theorem dl_in : ∀ Y ∈ DL, Cond.declares (Bundle.initS Y) ∈ lw_tbl := zip_in (f := fun Y : String => Cond.declares (Bundle.initS Y)) (ps := [395, 397, 399]) (by decide +kernel) (by decide +kernel)
theorem nw_start {s : State} {A : Array Value} (hts : ∀ w ∈ lw_tbl, w.before A s = true) : NW s :=
  ⟨fun q hq => va_Nw.of rfl (hts _ (nl_in q hq)), fun E => va_Nw.of rfl (hts _ (ca_in E)), fun Y hY => va_Nw.of rfl (hts _ (dl_in Y hY))⟩
theorem nx_start {s : State} {A : Array Value} (hg : (Jvm.Cond.and given_1 narrow_1).before A s = true) : NX s := by
  have hs := flat_of_before _ hg
  intro E F h1 h2 h3
  match E, F, h1, h2, h3 with
  | 0, 0, _, _, h3 => exact absurd rfl h3
  | 1, 1, _, _, h3 => exact absurd rfl h3
  | 2, 2, _, _, h3 => exact absurd rfl h3
  | 0, 1, _, _, _ => exact va_Nc.of (hs _ (by decide +kernel))
  | 0, 2, _, _, _ => exact va_Nc.of (hs _ (by decide +kernel))
  | 1, 0, _, _, _ => exact va_Nc.of (hs _ (by decide +kernel))
  | 1, 2, _, _, _ => exact va_Nc.of (hs _ (by decide +kernel))
  | 2, 0, _, _, _ => exact va_Nc.of (hs _ (by decide +kernel))
  | 2, 1, _, _, _ => exact va_Nc.of (hs _ (by decide +kernel))
  | (_ + 3), _, h1, _, _ => omega
  | 0, (_ + 3), _, h2, _ => omega
  | 1, (_ + 3), _, h2, _ => omega
  | 2, (_ + 3), _, h2, _ => omega
theorem str_start {s : State} {A : Array Value} {k : Nat} {tx : String} (h1 : (Cond.stringRef "Patternforge" k tx).before A s = true) (h2 : (Cond.exactly (.string "Patternforge" k) "java/lang/String").before A s = true) : ∃ a, vk_R "Patternforge" k tx a s := by
  obtain ⟨a, c, cA, kA, q1, q2, q3, q4, q5, q6, -⟩ := Cond.exactly_spec (args := A) (first := s) (o := none) (s := s) (idx := []) (t := .string "Patternforge" k) (cls := "java/lang/String") h2
  exact ⟨a, vk_R.of h1 q1⟩
theorem th_start {s : State} {A : Array Value} {B : Nat → Prop} (hts : ∀ w ∈ lw_tbl, w.before A s = true) (hg : (Jvm.Cond.and given_1 narrow_1).before A s = true) (hA : ∀ a : Nat, a < s.heap.size → ¬ B a) : TH B s s.heap := by
  have hs := flat_of_before _ hg
  exact ⟨vx_Zqof (hts _ (tb_in 418 (by decide +kernel))) (hts _ (tb_in 13 (by decide +kernel))) (hs _ (by decide +kernel)) hA,
    vx_Zqof (hts _ (tb_in 420 (by decide +kernel))) (hts _ (tb_in 13 (by decide +kernel))) (hs _ (by decide +kernel)) hA,
    str_start (hts _ (tb_in 432 (by decide +kernel))) (hs _ (by decide +kernel)),
    str_start (hts _ (tb_in 472 (by decide +kernel))) (hs _ (by decide +kernel)),
    str_start (hts _ (tb_in 505 (by decide +kernel))) (hs _ (by decide +kernel))⟩
theorem arr_start {s : State} {A : Array Value} {ty : FieldType} (hp : ∀ C, ty ≠ .object C) (h : (Cond.arrayClass ty).before A s = true) : ∃ cA : ClassId, ArrOfT s cA ty ∧ va_RA s cA ty := by
  obtain ⟨c, k, comp, h1, h2, h3⟩ := Cond.arrayClass_spec h
  refine ⟨c, fun n z => ⟨fun k h => (by cases h), k, h2, comp, h3⟩, ?_⟩
  cases ty <;> first | exact h1 | exact absurd rfl (hp _)
theorem cls_start {s : State} {A : Array Value} (hts : ∀ w ∈ lw_tbl, w.before A s = true) : ∃ D : va_G, ∀ (c : Nat) (q : vw_C), vwCl[c]? = some q → u_Kn s q.1 q.2.1 q.2.2 (D.1 c) (D.2 c) := by
  have htb : ∀ w ∈ TB, w.before A s = true := fun w hw => hts w (List.mem_filter.mp hw).1
  have hex : ∀ c : Nat, ∃ g : ClassId × (Nat → Nat), ∀ q : vw_C, vwCl[c]? = some q → u_Kn s q.1 q.2.1 q.2.2 g.1 g.2 := by
    intro c
    cases hc : vwCl[c]? with
    | none => exact ⟨(0, fun _ => 0), fun q h => by cases h⟩
    | some q =>
      have hok := cls_ok c q hc
      have hc12 : c < 12 := (List.getElem?_eq_some_iff.mp hc).1
      have hin : ∃ r ∈ nlk, ownN r.2.2 = ownN c ∧ fN.getD r.2.2 0 = fN.getD c 0 := by
        have : ∀ c : Nat, c < 12 → ∃ r ∈ nlk, ownN r.2.2 = ownN c ∧ fN.getD r.2.2 0 = fN.getD c 0 := by decide +kernel
        exact this c hc12
      obtain ⟨r, hr, hrc, hrf⟩ := hin
      have hi := htb _ (nlk_ok2 r hr)
      rw [hrc, hrf, ← hok.1] at hi
      obtain ⟨cC, iS, hk⟩ := u_known (C := q.1) (T := q.2.1) (N := q.2.2) htb hok.2.1 hi
      exact ⟨(cC, iS), fun q' h => by cases h; exact hk⟩
  obtain ⟨g, hg⟩ := Classical.skolem.mp hex
  exact ⟨(fun c => (g c).1, fun c => (g c).2), fun c q hq => hg c q hq⟩
theorem kn_start {s : State} {A : Array Value} (hts : ∀ w ∈ lw_tbl, w.before A s = true) : ∃ (D : va_G) (cI cZ : ClassId), KN D cI cZ s := by
  obtain ⟨D, hD⟩ := cls_start hts
  obtain ⟨cI, hI⟩ := arr_start (ty := .int) (fun _ h => by cases h) (hts _ (tb_in 45 (by decide +kernel)))
  refine ⟨D, cI, cI, ⟨hD, fun k q hk => ?_⟩, nw_start hts⟩
  match k, hk with
  | 0, hk => cases hk; exact hI
  | _ + 1, hk => cases hk
section RN3
variable {p : Program} {l : Launch} {e : Env} {R : Room} {s : State} {m : MethodId} {args : Array Value} {below : List Frame} {meth : Method} {c : Code} {A : Nat → Prop} {D : va_G} {cI cZ : ClassId} {Q : State → Prop}
variable {on : Nat} {cc : ByteArray} {nL : Nat} {init : Bool} {ads0 : List Nat} {n0 n1 pc : Nat} {L : List (Option AV)} {st : List AV} {S S' : LSt}
variable {y : MethodName} {bytes : ByteArray} {maxL n idx d1 : Nat} {ret : Option FieldType} {as : List AV} {ls : Array Slot}
theorem callL_I {k : Nat} (hC : Cx on cc nL init p s m args meth c A D cI cZ) (hRf : d1 + 1 ≤ R.frames) (hRl : 8 + 31 + 40 * d1 ≤ R.locals) (hd : decode cc pc = .ok (.invokespecial idx, 3)) (hl : Cond.methodLink (ownN on) idx y ∈ TB) (hs : Cond.instanceMethod y ∈ TB) (hyn : y.name = "<init>") (hm : MOK y bytes maxL none n) (hn : as.length = n) : ∀ (ads : List Nat) (H : Heap) (locs : List Loc) (cells slots : Nat) (cas crest : List Value) (v : Option AV) (S' : LSt), WH s A D cI cZ ads0 ads S H locs → vrs ads (.inr k :: as) cas → (crest.map fun v => v.category).sum ≤ 8 → ls.size = nL → CT l d1 y bytes maxL none (.inr k :: as) S v S' → cells + (S'.1.length - S.1.length) ≤ R.cells → slots + (nSl S'.1 - nSl S.1) ≤ R.slots →
    va_Run p l e R s m args below meth c H locs cells slots (S'.1.length - S.1.length) (nSl S'.1 - nSl S.1) (F0 m pc ls (cas.reverse ++ crest)) crest (QR D cI cZ (AA ads H.size) ads v S' cas.toArray) (AA ads H.size) := by
  intro ads H locs cells slots cas crest v S' hW has hrest hsz hct hcl hsl
  obtain ⟨hx, hb, hml, hown, hts, -, -, ⟨hK, hN⟩, hA⟩ := hC
  match cas, has with
  | cb :: cas, has =>
    obtain ⟨a, ha, rfl⟩ := id has.1
    exact va_runI (b := a) (As := cas) (rest := crest) ⟨hx, hb, hml, hown, hts⟩ (hct D cI cZ ads H.size (.ref a :: cas) has hW.2.2.2.1 hW.2.2.2.2.1) (cwI n hts (goodTB (in_wsM hm)) rfl rfl rfl (hts _ hm.2.1) (hts _ hl) (hts _ hs) hyn hm.2.2.1 (hd_room2 hRf hRl hm.2.2.2.2)) ⟨frameBlind_pre, fun U hU hw => ⟨rfl, pre_now hW ⟨hK, hN⟩ hU hw⟩⟩ rfl (by rw [← vrs_len has.2, hn]) hsz (by show (Value.ref a :: cas).reverse ++ crest = _; rw [List.reverse_cons, List.append_assoc]; rfl) (by show 2 * 0 + _ ≤ 8; omega) hd ⟨hcl, hsl⟩
end RN3
section RL
variable {p : Program} {l : Launch} {e : Env} {R : Room} {s : State} {m : MethodId} {args : Array Value} {below : List Frame} {meth : Method} {c : Code} {D : va_G} {cI cZ : ClassId} {Q : State → Prop}
variable {cc : ByteArray} {nL : Nat} {ax : List Nat} {b : Nat} {kc ks pc : Nat} {L : List (Option AV)} {st : List AV} {σ σ' : Sg}
/-- a world of cells ws, and the references that the law has -/
def PwS (D : va_G) (s : State) (ws : va_W) (rs : List Nat) : List Nat → Heap → List Loc → Prop := fun ads H locs =>
  ads = rs ∧ va_P D vwCl ws H ∧ va_D (AL s) ws ∧ va_S (AL s) s.heap H locs
theorem at_right {α : Type} {xs ys : List α} {k : Nat} {q : α} (h : ys[k]? = some q) : (xs ++ ys)[xs.length + k]? = some q := by
  rw [List.getElem?_append_right (by omega), show xs.length + k - xs.length = k by omega]; exact h
theorem at_left {α : Type} {xs ys : List α} {k : Nat} {q : α} (h : xs[k]? = some q) : (xs ++ ys)[k]? = some q := by
  rw [List.getElem?_append_left (List.getElem?_eq_some_iff.mp h).1]; exact h
theorem at_split {α : Type} {xs ys : List α} {k : Nat} {q : α} (h : (xs ++ ys)[k]? = some q) : xs[k]? = some q ∨ (xs.length ≤ k ∧ ys[k - xs.length]? = some q) := by
  by_cases hk : k < xs.length
  · rw [List.getElem?_append_left hk] at h; exact Or.inl h
  · rw [List.getElem?_append_right (by omega)] at h; exact Or.inr ⟨by omega, h⟩
theorem va_P_app {ws1 ws2 : va_W} {H : Heap} : va_P D vwCl (ws1 ++ ws2) H ↔ va_P D vwCl ws1 H ∧ va_P D vwCl ws2 H :=
  ⟨fun h => ⟨fun k q hk => h k q (at_left hk), fun k q hk => h _ q (at_right hk)⟩, fun h k q hk => (at_split hk).elim (h.1 k q) (fun h2 => h.2 _ q h2.2)⟩
theorem va_D_app {A : Nat → Prop} {ws1 ws2 : va_W} : va_D A (ws1 ++ ws2) ↔ va_D A ws1 ∧ va_D A ws2 ∧ ∀ (i j : Nat) (p q : Nat × va_E), ws1[i]? = some p → ws2[j]? = some q → p.1 ≠ q.1 := by
  constructor
  · intro h
    refine ⟨⟨fun i j p q hi hj => h.1 i j p q (at_left hi) (at_left hj), fun k q hk => h.2 k q (at_left hk)⟩, ⟨fun i j p q hi hj hpq => ?_, fun k q hk => h.2 _ q (at_right hk)⟩, fun i j p q hi hj hpq => ?_⟩
    · have := h.1 _ _ p q (at_right (xs := ws1) hi) (at_right (xs := ws1) hj) hpq; omega
    · have := h.1 _ _ p q (at_left (ys := ws2) hi) (at_right (xs := ws1) hj) hpq
      have := (List.getElem?_eq_some_iff.mp hi).1
      omega
  · rintro ⟨h1, h2, h3⟩
    refine ⟨fun i j p q hi hj hpq => ?_, fun k q hk => (at_split hk).elim (h1.2 k q) (fun h => h2.2 _ q h.2)⟩
    rcases at_split hi with hi | ⟨g1, hi⟩
    · rcases at_split hj with hj | ⟨g2, hj⟩
      · exact h1.1 i j p q hi hj hpq
      · exact absurd hpq (h3 _ _ p q hi hj)
    · rcases at_split hj with hj | ⟨g2, hj⟩
      · exact absurd hpq.symm (h3 _ _ q p hj hi)
      · have := h2.1 _ _ p q hi hj hpq; omega
/-- an object of the law's: made -/
theorem rl_new {ci idx : Nat} {ws : va_W} {rs : List Nat} (hC : Cx 12 cc nL false p s m args meth c (AL s) D cI cZ) (hd : decode cc pc = .ok (.new idx, 3)) (hf : (12, idx, ci) ∈ nlk) (hci : ci < 12) (hcl : kc + 1 ≤ R.cells) (hsl : ks + fN.getD ci 0 ≤ R.slots)
    (kk : ∀ a : Nat, Rg p l e R s m args below meth c (PwS D s (ws ++ mkW [a] cI cZ [(ci, sl0 ci)] (fun _ _ => 0)) (rs ++ [a])) (kc + 1) (ks + fN.getD ci 0) Q nL (pc + 3) L (.inr rs.length :: st)) : Rg p l e R s m args below meth c (PwS D s ws rs) kc ks Q nL pc L st := by
  intro ads H locs ls cst hW hL hv
  obtain ⟨rfl, hP, hD, hS⟩ := hW
  obtain ⟨hx, hb, -, hown, hts, -, -, ⟨hK, hN⟩, hA⟩ := hC
  obtain ⟨cq, hcq⟩ := vwCl_some hci
  obtain ⟨o1, o2, o3, o4, o5, o6⟩ := cls_ok ci cq hcq
  have hN : fN.getD ci 0 = cq.2.2 := by rw [List.getD_eq_getElem?_getD, o5]; rfl
  have k1 := nlk_ok1 _ hf
  have k2 := nlk_ok2 _ hf
  have k3 := nlk_ok3 _ hf
  dsimp only at k1 k2 k3
  rw [← o1] at k1 k2 k3
  rw [hN] at k2
  have hlen : (sl0 ci).length = cq.2.2 := by unfold sl0; rw [List.length_map, List.length_range, hN]
  refine va_new (fs := (sl0 ci).mapIdx (fun i s => if s = 0 then Value.int (Int32.ofInt 0) else if s = 1 then Value.null else Value.ref 0)) hx hb hts o2 (tyC ci) o3 hown (hts _ k1) (hts _ k2) (hts _ k3) hK hP hD hS hA hcq (fun j hj => ?_) (by omega) (by omega) hd (fun q H1 hP1 hD1 hS1 => ?_)
  · have h9 := cls_def ci hci j (by rw [hN]; exact hj)
    unfold vp_V
    rw [List.getD_eq_getElem?_getD, List.getElem?_mapIdx]
    unfold sl0
    rw [List.getElem?_map, List.getElem?_range (by rw [hN]; exact hj)]
    simp only [Option.map_some, Option.getD_some]
    rcases h9 with ⟨h, h2⟩ | ⟨h, h2⟩
    · rw [h2]; simp [h]
    · rw [h2]; simp [h]
  · have he : mkW [q] cI cZ [(ci, sl0 ci)] (fun _ _ => 0) = [(q, .inr (ci, (sl0 ci).mapIdx (fun i s => if s = 0 then Value.int (Int32.ofInt 0) else if s = 1 then Value.null else Value.ref 0)))] := by
      unfold mkW
      simp only [List.mapIdx_cons, List.mapIdx_nil, List.getD_cons_zero]
      unfold cellE
      rw [if_pos hci]
      have hm : ∀ (xs : List Nat), (∀ x ∈ xs, x = 0 ∨ x = 1) → xs.mapIdx (fun i s => if s = 0 then Value.int (Int32.ofInt 0) else if s = 1 then Value.null else Value.ref ([q].getD (s - 2) 0)) = xs.mapIdx (fun i s => if s = 0 then Value.int (Int32.ofInt 0) else if s = 1 then Value.null else Value.ref 0) := by
        intro xs hxs
        refine List.ext_getElem? (fun j => ?_)
        rw [List.getElem?_mapIdx, List.getElem?_mapIdx]
        cases hj : xs[j]? with
        | none => rfl
        | some x =>
          rcases hxs x (List.mem_of_getElem? hj) with rfl | rfl <;> rfl
      rw [hm]
      intro x hx
      unfold sl0 at hx
      obtain ⟨k, -, rfl⟩ := List.mem_map.mp hx
      by_cases h : ftc ci k = 2
      · rw [if_pos h]; exact Or.inr rfl
      · rw [if_neg h]; exact Or.inl rfl
    have hkk := kk q (ads ++ [q]) H1 locs ls (.ref q :: cst) ⟨rfl, by rw [he]; exact hP1, by rw [he]; exact hD1, hS1⟩ (lrs_mono hL) ⟨⟨q, by rw [List.getElem?_append_right (Nat.le_refl _), Nat.sub_self]; rfl, rfl⟩, vrs_mono hv⟩
    rw [hN] at hkk
    exact hkk
theorem mem_mkW {lay : List Lay} {q : Nat × va_E} {k : Nat} (hl : ax.length = lay.length) (h : (mkW ax cI cZ lay σ)[k]? = some q) : q.1 ∈ ax ∧ ax[k]? = some q.1 := by
  rw [mkW_get] at h
  cases hk : lay[k]? with
  | none => rw [hk] at h; cases h
  | some x =>
    rw [hk] at h; cases h
    have hlt : k < ax.length := by rw [hl]; exact (List.getElem?_eq_some_iff.mp hk).1
    have : ax[k]? = some (ax.getD k 0) := by rw [List.getD_eq_getElem?_getD, List.getElem?_eq_getElem hlt]; rfl
    exact ⟨List.mem_of_getElem? this, this⟩
theorem get_mkW {lay : List Lay} {a : Nat} (hl : ax.length = lay.length) (h : a ∈ ax) : ∃ (k : Nat) (E : va_E), (mkW ax cI cZ lay σ)[k]? = some (a, E) := by
  obtain ⟨k, hk⟩ := List.getElem?_of_mem h
  have hlt : k < lay.length := by rw [← hl]; exact (List.getElem?_eq_some_iff.mp hk).1
  have h2 := mkW_get ax cI cZ lay σ k
  rw [List.getElem?_eq_getElem hlt, getD_of hk] at h2
  exact ⟨k, _, h2⟩
/-- what a call on one of the objects leaves of the world -/
theorem pw_back {ws : va_W} {lay lay' : List Lay} {ads' : List Nat} {H H1 : Heap} {t : State} (hl : ax.length = lay.length) (hP : va_P D vwCl (ws ++ mkW ax cI cZ lay σ) H) (hD : va_D (AL s) (ws ++ mkW ax cI cZ lay σ)) (hsz : s.heap.size ≤ H.size)
    (ht : t.heap = H1) (hB : BW D cI cZ (AA ax H.size) ax (lay', σ') ads' t) (hq : ∀ q : Nat, q < H.size → ¬ AA ax H.size q → H1[q]? = H[q]?) : va_P D vwCl (ws ++ mkW ads' cI cZ lay' σ') H1 ∧ va_D (AL s) (ws ++ mkW ads' cI cZ lay' σ') ∧ ads'.length = lay'.length ∧ (∀ k i : Nat, inR (σ' k i)) ∧ ax <+: ads' := by
  obtain ⟨b1, -, b3, b4, b5, b6⟩ := hB
  subst ht
  obtain ⟨p1, p2⟩ := va_P_app.mp hP
  obtain ⟨d1, d2, d3⟩ := va_D_app.mp hD
  have hw : ∀ (k : Nat) (q : Nat × va_E), ws[k]? = some q → q.1 < H.size ∧ ¬ AA ax H.size q.1 := by
    intro k q hk
    have hlt := vx_lt p1 hk
    refine ⟨hlt, ?_⟩
    rintro (h | h)
    · obtain ⟨j, E, hj⟩ := get_mkW (cI := cI) (cZ := cZ) (σ := σ) hl h
      exact d3 k j q _ hk hj rfl
    · omega
  have hAA : ∀ q, AA ax H.size q → AL s q := by
    rintro q (h | h)
    · obtain ⟨j, E, hj⟩ := get_mkW (cI := cI) (cZ := cZ) (σ := σ) hl h
      exact d2.2 j _ hj
    · exact Nat.le_trans hsz h
  refine ⟨va_P_app.mpr ⟨fun k q hk => ?_, b1⟩, va_D_app.mpr ⟨d1, ⟨b3.1, fun k q hk => hAA _ (b3.2 k q hk)⟩, fun i j p q hi hj hpq => ?_⟩, b4, b5, b6⟩
  · obtain ⟨g1, g2⟩ := hw k q hk
    exact (p1 k q hk).kept (hq q.1 g1 g2)
  · exact (hw i p hi).2 (by rw [hpq]; exact b3.2 j q hj)
theorem pw_sub {ws : va_W} {lay : List Lay} {H : Heap} {locs : List Loc} (hl : ax.length = lay.length) (hP : va_P D vwCl (ws ++ mkW ax cI cZ lay σ) H) (hD : va_D (AL s) (ws ++ mkW ax cI cZ lay σ)) (hS : va_S (AL s) s.heap H locs) (hr : ∀ k i : Nat, inR (σ k i)) : WH s (AL s) D cI cZ [] ax (lay, σ) H locs :=
  ⟨(va_P_app.mp hP).2, (va_D_app.mp hD).2.1, hS, hl, hr, List.nil_prefix⟩
theorem aa_sub {ws : va_W} {lay : List Lay} {H : Heap} (hl : ax.length = lay.length) (hD : va_D (AL s) (ws ++ mkW ax cI cZ lay σ)) (hsz : s.heap.size ≤ H.size) : ∀ q, AA ax H.size q → AL s q := by
  rintro q (h | h)
  · obtain ⟨j, E, hj⟩ := get_mkW (cI := cI) (cZ := cZ) (σ := σ) hl h
    exact (va_D_app.mp hD).2.1.2 j _ hj
  · exact Nat.le_trans hsz h
/-- its constructor -/
theorem rl_init {M1 : Mr} {lay lay' : List Lay} {ws : va_W} {rs : List Nat} {a r idx d1 : Nat} (hC : Cx 12 cc nL false p s m args meth c (AL s) D cI cZ) (hRf : d1 + 1 ≤ R.frames) (hRl : 8 + 31 + 40 * d1 ≤ R.locals) (hd : decode cc pc = .ok (.invokespecial idx, 3)) (hl : Cond.methodLink (ownN 12) idx M1.2.1 ∈ TB) (hs : Cond.instanceMethod M1.2.1 ∈ TB) (hyn : M1.2.1.name = "<init>") (hm : MOK M1.2.1 M1.2.2.1 M1.2.2.2.1 none 0) (hst : st.length ≤ 8) (hlay : lay.length = 1)
    (hr : rs[r]? = some a) (hct : CT l d1 M1.2.1 M1.2.2.1 M1.2.2.2.1 none [.inr 0] (lay, fun _ _ => 0) none (lay', σ')) (hlen : 1 ≤ lay'.length) (hsl0 : nSl lay ≤ nSl lay') (hcl : kc + (lay'.length - 1) ≤ R.cells) (hsl : ks + (nSl lay' - nSl lay) ≤ R.slots)
    (kk : ∀ ax : List Nat, ax.length = lay'.length → ax.getD 0 0 = a → (∀ k i : Nat, inR (σ' k i)) → Rg p l e R s m args below meth c (PwS D s (ws ++ mkW ax cI cZ lay' σ') rs) (kc + (lay'.length - 1)) (ks + (nSl lay' - nSl lay)) Q nL (pc + 3) L st) : Rg p l e R s m args below meth c (PwS D s (ws ++ mkW [a] cI cZ lay (fun _ _ => 0)) rs) kc ks Q nL pc L (.inr r :: st) := by
  intro ads H locs ls cst hW hL hv
  obtain ⟨rfl, hP, hD, hS⟩ := hW
  match cst, hv with
  | cv :: crest, hv =>
    obtain ⟨a', ha', rfl⟩ := id hv.1
    have : a' = a := by rw [hr] at ha'; exact (Option.some.inj ha').symm
    subst this
    have hcat : (crest.map fun v => v.category).sum ≤ 8 := by rw [vrs_cat hv.2]; exact hst
    have hl1 : [a'].length = lay.length := by rw [hlay]; rfl
    have hW := pw_sub hl1 hP hD hS (fun _ _ => in0)
    have hrun := callL_I (ls := ls) (S := (lay, fun _ _ => 0)) (ads0 := []) (l := l) (e := e) (below := below) (as := []) (k := 0) hC hRf hRl hd hl hs hyn hm rfl [a'] H locs kc ks [.ref a'] crest none (lay', σ') hW ⟨⟨a', rfl, rfl⟩, trivial⟩ hcat hL.1 hct (by show kc + (lay'.length - lay.length) ≤ _; rw [hlay]; exact hcl) hsl
    refine va_callv (a := [Value.ref a'].toArray) hrun hS (fun q _ h => aa_sub hl1 hD hS.1 q h) (aa_sub hl1 hD hS.1) (fun u t H1 locs1 ht _ _ hB _ hq hS1 => ?_)
    obtain ⟨g1, g2, g3, g4, g5⟩ := pw_back hl1 hP hD hS.1 ht hB hq
    obtain ⟨z, hz⟩ := g5
    have hk := kk u g3 (by rw [← hz]; rfl) g4 ads H1 locs1 ls crest ⟨rfl, g1, g2, hS1⟩ hL hv.2
    show W p l e R s m args below meth c H1 locs1 (kc + (lay'.length - lay.length)) _ Q _
    rw [hlay]
    exact hk
/-- the row of counts -/
theorem rl_row {ws : va_W} {rs : List Nat} (hC : Cx 12 cc nL false p s m args meth c (AL s) D cI cZ) (hd : decode cc pc = .ok (.newarray .int, 2)) (hcl : kc + 1 ≤ R.cells) (hsl : ks + 4 ≤ R.slots)
    (kk : ∀ a : Nat, Rg p l e R s m args below meth c (PwS D s (ws ++ mkW [a] cI cZ [(12, [4])] (fun _ _ => 0)) (rs ++ [a])) (kc + 1) (ks + 4) Q nL (pc + 2) L (.inr rs.length :: st)) : Rg p l e R s m args below meth c (PwS D s ws rs) kc ks Q nL pc L (.inl 4 :: st) := by
  intro ads H locs ls cst hW hL hv
  obtain ⟨rfl, hP, hD, hS⟩ := hW
  obtain ⟨hx, hb, -, hown, hts, -, -, ⟨hK, hN⟩, hA⟩ := hC
  match cst, hv with
  | cv :: crest, hv =>
    obtain ⟨-, rfl⟩ := vr_int hv.1
    refine va_newa (atype := .int) (ty := .int) (N' := 4) (a0 := (4, .inl (fun _ => Int32.ofInt 0))) hx hb (hts _ arr_okI) rfl hK hP hD hS hA (fun cA => rfl) (by decide) rfl (by decide) hcl hsl hd (fun q cA H1 hK1 hP1 hD1 hS1 => ?_)
    have e1 := (hK.2 0 _ rfl).2
    have e2 := (hK1.2 1 _ rfl).2
    simp only [va_RA] at e1 e2
    have e3 : cI = cA := Option.some.inj (e1.symm.trans e2)
    subst e3
    have he : mkW [q] cI cZ [(12, [4])] (fun _ _ => 0) = [(q, .inl (cI, 4, .inl (fun _ => Int32.ofInt 0)))] := rfl
    exact kk q (ads ++ [q]) H1 locs ls (.ref q :: crest) ⟨rfl, by rw [he]; exact hP1, by rw [he]; exact hD1, hS1⟩ (lrs_mono hL) ⟨⟨q, by rw [List.getElem?_append_right (Nat.le_refl _), Nat.sub_self]; rfl, rfl⟩, vrs_mono hv.2⟩
theorem mkW_ix {ax : List Nat} {lay : List Lay} {σ : Sg} {i a : Nat} (hl : ax.length = lay.length) (h : ax[i]? = some a) : ∃ E, (mkW ax cI cZ lay σ)[i]? = some (a, E) := by
  have hlt : i < lay.length := by rw [← hl]; exact (List.getElem?_eq_some_iff.mp h).1
  refine ⟨cellE ax cI cZ lay[i] (σ i), ?_⟩
  rw [mkW_get, List.getElem?_eq_getElem hlt]
  show some (ax.getD i 0, _) = _
  rw [getD_of h]
theorem nd_of {A : Nat → Prop} {ax : List Nat} {lay : List Lay} {σ : Sg} (hl : ax.length = lay.length) (h : va_D A (mkW ax cI cZ lay σ)) : NDa ax ∧ ∀ a ∈ ax, A a := by
  refine ⟨fun i j a hi hj => ?_, fun a ha => ?_⟩
  · obtain ⟨E, h1⟩ := mkW_ix (cI := cI) (cZ := cZ) (σ := σ) hl hi
    obtain ⟨E', h2⟩ := mkW_ix (cI := cI) (cZ := cZ) (σ := σ) hl hj
    exact h.1 i j _ _ h1 h2 rfl
  · obtain ⟨i, hi⟩ := List.getElem?_of_mem ha
    obtain ⟨E, h1⟩ := mkW_ix (cI := cI) (cZ := cZ) (σ := σ) hl hi
    exact h.2 i _ h1
theorem dis_of {A : Nat → Prop} {ax ay : List Nat} {lx ly : List Lay} {σ τ : Sg} (hx : ax.length = lx.length) (hy : ay.length = ly.length) (h : ∀ (i j : Nat) (p q : Nat × va_E), (mkW ax cI cZ lx σ)[i]? = some p → (mkW ay cI cZ ly τ)[j]? = some q → p.1 ≠ q.1) : ∀ a, a ∈ ax → a ∈ ay → False := fun a h1 h2 => by
  obtain ⟨i, hi⟩ := List.getElem?_of_mem h1
  obtain ⟨j, hj⟩ := List.getElem?_of_mem h2
  obtain ⟨E, g1⟩ := mkW_ix (cI := cI) (cZ := cZ) (σ := σ) hx hi
  obtain ⟨E', g2⟩ := mkW_ix (cI := cI) (cZ := cZ) (σ := τ) hy hj
  exact h i j _ _ g1 g2 rfl
/-- the world of the law's loop -/
theorem rl_conv {ax ay : List Nat} {an b : Nat} {σ1 σ2 ν : Sg} {rs : List Nat} (hlx : ax.length = LAYC.length) (hly : ay.length = LAYC.length) (hrs : rs = [b, ax.getD 0 0, ay.getD 0 0, an]) (h1 : ∀ k i : Nat, inR (σ1 k i)) (h2 : ∀ k i : Nat, inR (σ2 k i)) (h3 : ∀ k i : Nat, inR (ν k i))
    (kk : FOK [(ax, LAYC), (ay, LAYC), FN an] → (∀ f ∈ ([(ax, LAYC), (ay, LAYC), FN an] : Fr), ∀ a ∈ f.1, AL s a) → Rg p l e R s m args below meth c (PwB D cI cZ (AL s) s [(ax, LAYC), (ay, LAYC), FN an] [b, ax.getD 0 0, ay.getD 0 0, an] [σ1, σ2, ν]) kc ks Q nL pc L st) :
    Rg p l e R s m args below meth c (PwS D s (((([] : va_W) ++ mkW ax cI cZ LAYC σ1) ++ mkW ay cI cZ LAYC σ2) ++ mkW [an] cI cZ [(12, [4])] ν) rs) kc ks Q nL pc L st := by
  intro ads H locs ls cst hW hL hv
  subst hrs
  obtain ⟨g1, g2, g3, g4⟩ := hW
  obtain ⟨p12, p3⟩ := va_P_app.mp g2
  obtain ⟨p01, p2⟩ := va_P_app.mp p12
  obtain ⟨-, p1⟩ := va_P_app.mp p01
  obtain ⟨d12, d3, d123⟩ := va_D_app.mp g3
  obtain ⟨d01, d2, d012⟩ := va_D_app.mp d12
  obtain ⟨-, d1, -⟩ := va_D_app.mp d01
  have hl3 : [an].length = ([(12, [4])] : List Lay).length := rfl
  obtain ⟨n1, A1⟩ := nd_of hlx d1
  obtain ⟨n2, A2⟩ := nd_of hly d2
  obtain ⟨n3, A3⟩ := nd_of hl3 d3
  have e12 : ∀ a, a ∈ ax → a ∈ ay → False := dis_of hlx hly (A := AL s) (fun i j p q hi hj => d012 _ j p q (at_right (xs := ([] : va_W)) hi) hj)
  have e13 : ∀ a, a ∈ ax → a ∈ [an] → False := dis_of hlx hl3 (A := AL s) (fun i j p q hi hj => d123 _ j p q (at_left (at_right (xs := ([] : va_W)) hi)) hj)
  have e23 : ∀ a, a ∈ ay → a ∈ [an] → False := dis_of hly hl3 (A := AL s) (fun i j p q hi hj => d123 _ j p q (at_right hi) hj)
  refine kk ⟨fun i f hi => ?_, fun i j f g hi hj hn => ?_⟩ (fun f hf => ?_) ads H locs ls cst ⟨g1, fun i f σ hi hs => ?_, g4, fun σ hs => ?_⟩ hL hv
  · match i, hi with
    | 0, hi => cases hi; exact ⟨hlx, n1⟩
    | 1, hi => cases hi; exact ⟨hly, n2⟩
    | 2, hi => cases hi; exact ⟨hl3, n3⟩
  · match i, j, hi, hj, hn with
    | 0, 1, hi, hj, _ => cases hi; cases hj; exact e12
    | 0, 2, hi, hj, _ => cases hi; cases hj; exact e13
    | 1, 2, hi, hj, _ => cases hi; cases hj; exact e23
    | 1, 0, hi, hj, _ => cases hi; cases hj; exact fun a h1 h2 => e12 a h2 h1
    | 2, 0, hi, hj, _ => cases hi; cases hj; exact fun a h1 h2 => e13 a h2 h1
    | 2, 1, hi, hj, _ => cases hi; cases hj; exact fun a h1 h2 => e23 a h2 h1
    | 0, 0, _, _, hn => exact absurd rfl hn
    | 1, 1, _, _, hn => exact absurd rfl hn
    | 2, 2, _, _, hn => exact absurd rfl hn
  · rcases List.mem_cons.mp hf with rfl | hf
    · exact A1
    rcases List.mem_cons.mp hf with rfl | hf
    · exact A2
    · rw [List.mem_singleton.mp hf]; exact A3
  · match i, hi, hs with
    | 0, hi, hs => cases hi; cases hs; exact p1
    | 1, hi, hs => cases hi; cases hs; exact p2
    | 2, hi, hs => cases hi; cases hs; exact p3
  · rcases List.mem_cons.mp hs with rfl | hs
    · exact h1
    rcases List.mem_cons.mp hs with rfl | hs
    · exact h2
    · rw [List.mem_singleton.mp hs]; exact h3
end RL
