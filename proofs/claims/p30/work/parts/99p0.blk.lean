/-! the law's world: blocks of cells, each with its numbers; room for what is thrown and caught -/
abbrev Fr : Type := List (List Nat × List Lay)
def NX (s : State) : Prop := ∀ E F : Nat, E < 3 → F < 3 → ¬ E = F → va_Nc (exN E) (exN F) s
theorem NX.moved {s U : State} (hw : s.WarmedH U.vm) (h : NX s) : NX U := fun E F h1 h2 h3 => (h E F h1 h2 h3).moved hw.alike
def NDa (ax : List Nat) : Prop := ∀ (i j a : Nat), ax[i]? = some a → ax[j]? = some a → i = j
def FOK (F : Fr) : Prop := (∀ (i : Nat) (f : List Nat × List Lay), F[i]? = some f → f.1.length = f.2.length ∧ NDa f.1) ∧ ∀ (i j : Nat) (f g : List Nat × List Lay), F[i]? = some f → F[j]? = some g → ¬ i = j → ∀ a, a ∈ f.1 → a ∈ g.1 → False
def AFr (F : Fr) (sz : Nat) : Nat → Prop := fun q => (∃ f ∈ F, q ∈ f.1) ∨ sz ≤ q
def PBs (D : va_G) (cI cZ : ClassId) (F : Fr) (ss : List Sg) (H : Heap) : Prop := ∀ (i : Nat) (f : List Nat × List Lay) (σ : Sg), F[i]? = some f → ss[i]? = some σ → va_P D vwCl (mkW f.1 cI cZ f.2 σ) H
def RBs (ss : List Sg) : Prop := ∀ σ ∈ ss, ∀ k i : Nat, inR (σ k i)
theorem mkW_adr {ax : List Nat} {cI cZ : ClassId} {lay : List Lay} {σ : Sg} {k : Nat} {q : Nat × va_E} (hl : ax.length = lay.length) (h : (mkW ax cI cZ lay σ)[k]? = some q) : ax[k]? = some q.1 := by
  rw [mkW_get] at h
  cases hq : lay[k]? with
  | none => rw [hq] at h; cases h
  | some x =>
    rw [hq] at h; cases h
    have hk : k < lay.length := (List.getElem?_eq_some_iff.mp hq).1
    show ax[k]? = some (ax.getD k 0)
    rw [List.getD_eq_getElem?_getD, List.getElem?_eq_getElem (by omega)]; rfl
theorem mkW_D {A : Nat → Prop} {ax : List Nat} {cI cZ : ClassId} {lay : List Lay} {σ : Sg} (hl : ax.length = lay.length) (hn : NDa ax) (hA : ∀ a ∈ ax, A a) : va_D A (mkW ax cI cZ lay σ) :=
  ⟨fun i j p q hi hj e => hn i j q.1 (e ▸ mkW_adr hl hi) (mkW_adr hl hj), fun k q hk => hA q.1 (List.mem_of_getElem? (mkW_adr hl hk))⟩
theorem mkW_at {ax : List Nat} {cI cZ : ClassId} {lay : List Lay} {σ : Sg} {a : Nat} (hl : ax.length = lay.length) (h : a ∈ ax) : ∃ (k : Nat) (E : va_E), (mkW ax cI cZ lay σ)[k]? = some (a, E) := by
  obtain ⟨k, hk⟩ := List.getElem?_of_mem h
  have hlt : k < lay.length := by rw [← hl]; exact (List.getElem?_eq_some_iff.mp hk).1
  refine ⟨k, cellE ax cI cZ lay[k] (σ k), ?_⟩
  rw [mkW_get, List.getElem?_eq_getElem hlt]
  show some (ax.getD k 0, _) = _
  rw [getD_of hk]
theorem wP_lt {D : va_G} {ws : va_W} {H : Heap} {k : Nat} {q : Nat × va_E} (hP : va_P D vwCl ws H) (hk : ws[k]? = some q) : q.1 < H.size := vx_lt hP hk
/-- a block of which nothing changed -/
theorem blk_kept {D : va_G} {cI cZ : ClassId} {ax : List Nat} {lay : List Lay} {σ : Sg} {H H1 : Heap} {B : Nat → Prop} (hl : ax.length = lay.length) (hP : va_P D vwCl (mkW ax cI cZ lay σ) H) (hB : ∀ a ∈ ax, a < H.size → ¬ B a) (hq : ∀ q : Nat, q < H.size → ¬ B q → H1[q]? = H[q]?) : va_P D vwCl (mkW ax cI cZ lay σ) H1 := fun k q hk => by
  have hlt := vx_lt hP hk
  exact (hP k q hk).kept (hq q.1 hlt (hB q.1 (List.mem_of_getElem? (mkW_adr hl hk)) hlt))
/-- a callee's blocks among the caller's -/
def SelOK (F F' : Fr) (ss ss1 ss1' ss2 : List Sg) (sel : List Nat) : Prop :=
  (∀ (i : Nat) (f : List Nat × List Lay), F'[i]? = some f → ∃ k : Nat, sel[i]? = some k ∧ F[k]? = some f) ∧
  (∀ i j k : Nat, sel[i]? = some k → sel[j]? = some k → i = j) ∧
  (∀ (i : Nat) (σ : Sg), ss1[i]? = some σ → ∃ k : Nat, sel[i]? = some k ∧ ss[k]? = some σ) ∧
  ∀ (k : Nat) (σ : Sg), ss2[k]? = some σ → (∃ i : Nat, sel[i]? = some k ∧ F'[i]? = F[k]? ∧ ss1'[i]? = some σ) ∨ ((∀ i : Nat, ¬ sel[i]? = some k) ∧ ss[k]? = some σ)
theorem SelOK.fok {F F' : Fr} {ss ss1 ss1' ss2 : List Sg} {sel : List Nat} (h : SelOK F F' ss ss1 ss1' ss2 sel) (hF : FOK F) : FOK F' := by
  refine ⟨fun i f hi => ?_, fun i j f g hi hj hn a ha hb => ?_⟩
  · obtain ⟨k, -, k2⟩ := h.1 i f hi
    exact hF.1 k f k2
  · obtain ⟨k, k1, k2⟩ := h.1 i f hi
    obtain ⟨k', k3, k4⟩ := h.1 j g hj
    exact hF.2 k k' f g k2 k4 (fun e => hn (h.2.1 i j k k1 (e ▸ k3))) a ha hb
theorem SelOK.af {F F' : Fr} {ss ss1 ss1' ss2 : List Sg} {sel : List Nat} (h : SelOK F F' ss ss1 ss1' ss2 sel) {sz : Nat} {A : Nat → Prop} (hA : ∀ f ∈ F, ∀ a ∈ f.1, A a) (hz : ∀ q, sz ≤ q → A q) : ∀ q, AFr F' sz q → A q := by
  rintro q (⟨f, hf, hq⟩ | hq)
  · obtain ⟨i, hi⟩ := List.getElem?_of_mem hf
    obtain ⟨k, -, k2⟩ := h.1 i f hi
    exact hA f (List.mem_of_getElem? k2) q hq
  · exact hz q hq
theorem SelOK.pre {F F' : Fr} {ss ss1 ss1' ss2 : List Sg} {sel : List Nat} (h : SelOK F F' ss ss1 ss1' ss2 sel) {D : va_G} {cI cZ : ClassId} {H : Heap} (hP : PBs D cI cZ F ss H) : PBs D cI cZ F' ss1 H := fun i f σ hi hs => by
  obtain ⟨k, k1, k2⟩ := h.1 i f hi
  obtain ⟨k', k3, k4⟩ := h.2.2.1 i σ hs
  rw [k1] at k3; cases k3
  exact hP k f σ k2 k4
theorem SelOK.rpre {F F' : Fr} {ss ss1 ss1' ss2 : List Sg} {sel : List Nat} (h : SelOK F F' ss ss1 ss1' ss2 sel) (hR : RBs ss) : RBs ss1 := fun σ hs => by
  obtain ⟨i, hi⟩ := List.getElem?_of_mem hs
  obtain ⟨k, -, k2⟩ := h.2.2.1 i σ hi
  exact hR σ (List.mem_of_getElem? k2)
theorem SelOK.post {F F' : Fr} {ss ss1 ss1' ss2 : List Sg} {sel : List Nat} (h : SelOK F F' ss ss1 ss1' ss2 sel) (hF : FOK F) {D : va_G} {cI cZ : ClassId} {H H1 : Heap} (hP : PBs D cI cZ F ss H) (hP' : PBs D cI cZ F' ss1' H1) (hq : ∀ q : Nat, q < H.size → ¬ AFr F' H.size q → H1[q]? = H[q]?) : PBs D cI cZ F ss2 H1 := fun k f σ hk hs => by
  rcases h.2.2.2 k σ hs with ⟨i, i1, i2, i3⟩ | ⟨i1, i2⟩
  · exact hP' i f σ (i2.trans hk) i3
  · refine blk_kept (B := AFr F' H.size) (hF.1 k f hk).1 (hP k f σ hk i2) (fun a ha hlt hb => ?_) hq
    rcases hb with ⟨g, hg, hag⟩ | hb
    · obtain ⟨j, hj⟩ := List.getElem?_of_mem hg
      obtain ⟨k', k1, k2⟩ := h.1 j g hj
      exact hF.2 k k' f g hk k2 (fun e => i1 j (e ▸ k1)) a ha hag
    · omega
theorem SelOK.rpost {F F' : Fr} {ss ss1 ss1' ss2 : List Sg} {sel : List Nat} (h : SelOK F F' ss ss1 ss1' ss2 sel) (hR : RBs ss) (hR' : RBs ss1') : RBs ss2 := fun σ hs => by
  obtain ⟨k, hk⟩ := List.getElem?_of_mem hs
  rcases h.2.2.2 k σ hk with ⟨i, -, -, i3⟩ | ⟨-, i2⟩
  · exact hR' σ (List.mem_of_getElem? i3)
  · exact hR σ (List.mem_of_getElem? i2)
/-! contracts of the law's methods -/
def PreF (D : va_G) (cI cZ : ClassId) (F : Fr) (sz : Nat) (ss : List Sg) (U : State) : Prop :=
  U.heap.size = sz ∧ PBs D cI cZ F ss U.heap ∧ KN D cI cZ U ∧ NX U ∧ TH (AFr F sz) U U.heap
def BF (D : va_G) (cI cZ : ClassId) (F : Fr) (ss : List Sg) : Unit → State → Prop := fun _ t => PBs D cI cZ F ss t.heap ∧ RBs ss
def QF (D : va_G) (cI cZ : ClassId) (F : Fr) (sz : Nat) (v : Option Int) (ss : List Sg) : Array Value → State → Outcome → State → Prop := match v with
  | none => va_Qv (fun _ : Unit => True) (BF D cI cZ F ss) (AFr F sz)
  | some x => va_Qi (fun (r : Int32) (_ : Unit) => r = Int32.ofInt x ∧ inR x) (BF D cI cZ F ss) (AFr F sz)
def LC (l : Launch) (d g : Nat) (y : MethodName) (ws : List Cond) (as : List AV) (rs : List Nat) (F : Fr) (ss : List Sg) (v : Option Int) (ss' : List Sg) : Prop :=
  ∀ (D : va_G) (cI cZ : ClassId) (sz : Nat) (cvs : List Value), vrs rs as cvs → FOK F → RBs ss →
    Met l y ws (rmD d g (6 * g)) (va_Pc cvs (PreF D cI cZ F sz ss)) (QF D cI cZ F sz v ss') g (6 * g) (AFr F sz)
theorem PreF.blind {D : va_G} {cI cZ : ClassId} {F : Fr} {sz : Nat} {ss : List Sg} {cvs : List Value} : FrameBlind (va_Pc cvs (PreF D cI cZ F sz ss)) := fun a U g mk q => by
  obtain ⟨q0, q1, qP, qK, qN, qT⟩ := q
  exact ⟨q0, q1, qP, KN.moved (s := U) (U := U.calling g mk a) (State.WarmedH.refl U) qK, NX.moved (s := U) (U := U.calling g mk a) (State.WarmedH.refl U) qN, TH.moved (u := U) (U := U.calling g mk a) (State.WarmedH.refl U) qT⟩
/-- a contract over one compiler's cells -/
def CTW (l : Launch) (d g : Nat) (y : MethodName) (ws : List Cond) (as : List AV) (σ : Sg) (k : Int) (σ' : Sg) : Prop :=
  ∀ (D : va_G) (cI cZ : ClassId) (ax : List Nat) (sz : Nat) (cvs : List Value), vrs ax as cvs → ax.length = LAYC.length → (∀ k i : Nat, inR (σ k i)) →
    Met l y ws (rmD d g (6 * g)) (va_Pc cvs (fun U => PreW D cI cZ ax sz (LAYC, σ) U ∧ NX U ∧ TH (AA ax sz) U U.heap)) (QR D cI cZ (AA ax sz) ax (some (.inl k)) (LAYC, σ')) g (6 * g) (AA ax sz)
theorem AFr1 {ax : List Nat} {lay : List Lay} {sz q : Nat} : AFr [(ax, lay)] sz q ↔ AA ax sz q := by
  constructor
  · rintro (⟨f, hf, hq⟩ | hq)
    · rw [List.mem_singleton.mp hf] at hq; exact Or.inl hq
    · exact Or.inr hq
  · rintro (h | h)
    · exact Or.inl ⟨_, List.mem_singleton.mpr rfl, h⟩
    · exact Or.inr h
theorem CTW.lc {l : Launch} {d g : Nat} {y : MethodName} {ws : List Cond} {as : List AV} {σ : Sg} {k : Int} {σ' : Sg} (h : CTW l d g y ws as σ k σ') (ax : List Nat) : LC l d g y ws as ax [(ax, LAYC)] [σ] (some k) [σ'] := by
  intro D cI cZ sz cvs hv hF hR
  have hl : ax.length = LAYC.length := (hF.1 0 (ax, LAYC) rfl).1
  have hn : NDa ax := (hF.1 0 (ax, LAYC) rfl).2
  have hm := h D cI cZ ax sz cvs hv hl (hR σ (List.mem_singleton.mpr rfl))
  refine Jvm.Free.MetFree.mono hm (fun a U hp => ?_) (fun _ _ _ _ _ q => q) (fun a st o t hp hq => ?_)
  · obtain ⟨h0, h1, h2, h3, h4, h5⟩ := hp
    have hp0 : va_P D vwCl (mkW ax cI cZ LAYC σ) U.heap := h2 0 (ax, LAYC) σ rfl rfl
    have hd : va_D (fun _ => True) (mkW ax cI cZ LAYC σ) := mkW_D hl hn (fun _ _ => trivial)
    have hw : PreW D cI cZ ax sz (LAYC, σ) U := ⟨h1, hp0, h3, hd⟩
    exact ⟨h0, hw, h4, h5.narrow (fun q hq => AFr1.mpr hq)⟩
  · obtain ⟨⟨⟨r, u, e1, e2, e3⟩, e4⟩, L, hL1, hL2⟩ := hq
    obtain ⟨b1, b2, b3, b4, b5, z, hz⟩ := e3
    have hu : u = ax := by
      have h9 := congrArg List.length hz
      rw [List.length_append, b4, hl] at h9
      have hz0 : z = [] := List.eq_nil_of_length_eq_zero (by show z.length = 0; have : (LAYC, σ').1.length = LAYC.length := rfl; omega)
      rw [hz0, List.append_nil] at hz; exact hz.symm
    subst hu
    refine ⟨⟨⟨r, (), e1, e2, fun i f σ2 hi hs => ?_, fun σ2 hs => ?_⟩, e4.1, fun q hq hn => e4.2 q hq (fun z => hn (AFr1.mpr z))⟩, L, hL1, fun q hq => AFr1.mpr (hL2 q hq)⟩
    · match i, hi, hs with
      | 0, hi, hs => cases hi; cases hs; exact b1
    · rw [List.mem_singleton.mp hs]; exact b5
/-- a method of the class that returns -/
theorem ct_ctw {l : Launch} {d : Nat} {M1 : Mr} {as : List AV} {σ : Sg} {k : Int} {σ' : Sg} (h : CT l d M1.2.1 M1.2.2.1 M1.2.2.2.1 M1.2.2.2.2 as (LAYC, σ) (some (.inl k)) (LAYC, σ')) : CTW l d 0 M1.2.1 (wsM M1.2.1 M1.2.2.1 M1.2.2.2.1 M1.2.2.2.2) as σ k σ' := by
  intro D cI cZ ax sz cvs hv hl hR
  have hm := h D cI cZ ax sz cvs hv hl hR
  have e1 : (LAYC, σ').1.length - (LAYC, σ).1.length = 0 := by show LAYC.length - LAYC.length = 0; omega
  have e2 : nSl (LAYC, σ').1 - nSl (LAYC, σ).1 = 0 := by show nSl LAYC - nSl LAYC = 0; omega
  rw [e1, e2] at hm
  exact Jvm.Free.MetFree.mono hm (fun a U hp => ⟨hp.1, hp.2.1⟩) (fun _ _ _ _ _ q => q) (fun a st o t hp hq => hq)
