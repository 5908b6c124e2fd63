/-! the same patterns, columns and cases -/
def SmR (τ s : Sg) : Prop :=
  (∀ r, 1 ≤ r → r ≤ 25 → s r = τ r) ∧
  (s 0 9 = τ 0 9) ∧
  (s 0 21 = τ 0 21) ∧
  (s 0 23 = τ 0 23)
theorem SmR.r {τ s : Sg} (h : SmR τ s) : ∀ r, 1 ≤ r → r ≤ 25 → s r = τ r := h.1
theorem SmR.c9 {τ s : Sg} (h : SmR τ s) : s 0 9 = τ 0 9 := h.2.1
theorem SmR.c21 {τ s : Sg} (h : SmR τ s) : s 0 21 = τ 0 21 := h.2.2.1
theorem SmR.c23 {τ s : Sg} (h : SmR τ s) : s 0 23 = τ 0 23 := h.2.2.2
theorem SmR.eqp {τ s : Sg} (h : SmR τ s) : EqP τ s := EqP.same (fun k k1 k2 => h.r k k1 (by omega)) h.c21 h.c23
theorem SmR.wfk {τ s : Sg} (h : SmR τ s) (hF : WFK (τ 1) (τ 2) (τ 3)) : WFK (s 1) (s 2) (s 3) := by
  rw [h.r 1 (by omega) (by omega), h.r 2 (by omega) (by omega), h.r 3 (by omega) (by omega)]; exact hF
theorem SmR.wfp {τ s : Sg} (h : SmR τ s) (hW : WFP τ) : WFP s := by
  unfold WFP at *
  rw [h.c9]
  refine ⟨hW.1, hW.2.1, fun p hp => ?_⟩
  have e := hW.2.2 p hp
  unfold WFP1 fitsK szo dpo nmo prt at *
  rw [h.c9, h.r 1 (by omega) (by omega), h.r 2 (by omega) (by omega), h.r 3 (by omega) (by omega), h.r 8 (by omega) (by omega), h.r 9 (by omega) (by omega), h.r 10 (by omega) (by omega), h.r 11 (by omega) (by omega), h.r 12 (by omega) (by omega), h.r 13 (by omega) (by omega), h.r 14 (by omega) (by omega), h.r 15 (by omega) (by omega), h.r 16 (by omega) (by omega), h.r 17 (by omega) (by omega)]
  exact e
theorem SmR.wfm {τ s : Sg} (h : SmR τ s) (hW : WFP τ) (hM : WFM τ) : WFM s :=
  WFM.mono hW hM (ExtK.same (fun r r1 r2 => h.r r r1 (by omega))) (ExtP.same h.c9 (fun r r1 r2 => h.r r (by omega) (by omega))) (fun r r1 r2 => h.r r (by omega) (by omega)) h.c21 h.c23
theorem SmR.wfw {τ s : Sg} (h : SmR τ s) (hW : WFW τ) : WFW s := by
  unfold WFW at *
  rw [h.r 18 (by omega) (by omega)]
  exact hW
theorem EqP.askE {τ τ' : Sg} (h : EqP τ τ') {P : Pth} {a : Ask} : AskOK τ' P a ↔ AskOK τ P a := by
  unfold AskOK
  rw [h.kdE]
theorem EqP.kpE {τ τ' : Sg} (h : EqP τ τ') : ∀ {P : Pth}, KP τ' P ↔ KP τ P
  | [] => Iff.rfl
  | q :: P => by
    show (KP τ' P ∧ q.2 < wid τ' q.1 ∧ (AskOK τ' P q.1 ∨ (q.1.1 = 5 ∧ (0 ≤ q.1.2.1 ∧ q.1.2.1 < τ' 0 23) ∧ fk P q.1.2.1.toNat = false ∧ ¬ τ' 22 q.1.2.1.toNat = -1))) ↔ (KP τ P ∧ q.2 < wid τ q.1 ∧ (AskOK τ P q.1 ∨ (q.1.1 = 5 ∧ (0 ≤ q.1.2.1 ∧ q.1.2.1 < τ 0 23) ∧ fk P q.1.2.1.toNat = false ∧ ¬ τ 22 q.1.2.1.toNat = -1)))
    rw [EqP.kpE h, h.widE, h.askE, h.c23, h.rw_ 22 (by omega)]
/-- what a matching has bound, tests and views, as the reference's cells say -/
def Xo (x : XS) (s : Sg) : Prop := (∀ i : Nat, i < 6 → s 33 i = x.1 i) ∧ s 0 47 = x.2.1 ∧ inR x.2.1 ∧ s 0 48 = x.2.2.length ∧ rnl s x.2.2
theorem Xo.rx {x : XS} {s : Sg} (h : Xo x s) : RX s x s := ⟨⟨fun _ _ => rfl, fun _ _ => rfl⟩, h⟩
theorem Xo.fr {x : XS} {s s' : Sg} (h : Xo x s) (h3 : s' 33 = s 33) (h1 : ∀ r, 36 ≤ r → r ≤ 38 → s' r = s r) (h7 : s' 0 47 = s 0 47) (h8 : s' 0 48 = s 0 48) : Xo x s' :=
  ⟨fun i hi => by rw [h3]; exact h.1 i hi, by rw [h7]; exact h.2.1, h.2.2.1, by rw [h8]; exact h.2.2.2.1, rnl_congr (s := s) (fun k k1 k2 => h1 k k1 k2) h.2.2.2.2⟩
theorem FrN.sm {τ s : Sg} (h : FrN τ s) : SmR τ s := ⟨h.1, h.2.2.2.2 9 (by decide), h.2.2.2.2 21 (by decide), h.2.2.2.2 23 (by decide)⟩
theorem FrN.rfl' {τ : Sg} : FrN τ τ := ⟨fun _ _ _ => rfl, fun _ _ _ => rfl, fun _ _ _ => rfl, rfl, fun _ _ => rfl⟩
/-- what laying leaves as it is -/
def FrW (τ s : Sg) : Prop := (∀ r, 1 ≤ r → r ≤ 25 → s r = τ r) ∧ (∀ r, 39 ≤ r → r ≤ 46 → s r = τ r) ∧ s 35 = τ 35 ∧ s 27 = τ 27 ∧ ∀ i, i ∉ [34, 38, 42, 43, 44, 47, 48, 67] → s 0 i = τ 0 i
theorem FrW.sm {τ s : Sg} (h : FrW τ s) : SmR τ s := ⟨h.1, h.2.2.2.2 9 (by decide), h.2.2.2.2 21 (by decide), h.2.2.2.2 23 (by decide)⟩
theorem FrW.rfl' {τ : Sg} : FrW τ τ := ⟨fun _ _ _ => rfl, fun _ _ _ => rfl, rfl, rfl, fun _ _ => rfl⟩
theorem FrW.n {τ s s' : Sg} (h : FrW τ s) (h' : FrN s s') : FrW τ s' :=
  ⟨fun r r1 r2 => by rw [h'.1 r r1 r2]; exact h.1 r r1 r2, fun r r1 r2 => by rw [h'.2.1 r r1 r2]; exact h.2.1 r r1 r2, by rw [h'.2.2.1 35 (by omega) (by omega)]; exact h.2.2.1, by rw [h'.2.2.2.1]; exact h.2.2.2.1, fun i hi => by
    rw [h'.2.2.2.2 i (by simp only [List.mem_cons, List.not_mem_nil, or_false, not_or] at hi ⊢; omega)]; exact h.2.2.2.2 i hi⟩
theorem Xo.n {x : XS} {s s' : Sg} (h : Xo x s) (h' : FrN s s') : Xo x s' := h.fr (h'.2.2.1 33 (by omega) (by omega)) (fun r r1 r2 => h'.2.2.1 r (by omega) (by omega)) (h'.2.2.2.2 47 (by decide)) (h'.2.2.2.2 48 (by decide))
/-- a case against what is known at a node -/
theorem tryN_c {τ s : Sg} {pf : Nat → Pth} {N n c : Nat} {x : XS} (hP : WFP τ) (hF : WFK (τ 1) (τ 2) (τ 3)) (hM : WFM τ) (hWW : WFW τ) (hN : NodeAt τ pf N n) (h : FrW τ s) (hx : Xo x s) (hc : (c : Int) < τ 0 23) : ∃ s1, F_X11_tryCase c s = some (codeR (tryK τ (pf n) c).1, s1) ∧ FrW τ s1 ∧ Xo ((tryK τ (pf n) c).2.1, x.2) s1 ∧ (∀ r, 26 ≤ r → r ≤ 27 ∨ 39 ≤ r → s1 r = s r) ∧ s1 0 67 = s 0 67 ∧ ∀ a, (tryK τ (pf n) c).1 = .inr a → askd s1 a := by
  obtain ⟨hR, hn, hK, h40, h41⟩ := hN
  have hs := h.sm
  have he := hs.eqp
  have hK' : KP s (pf n) := he.kpE.mpr hK
  have hR' : RTs s pf N := hR.fr (fun r r1 r2 => h.2.1 r (by omega) (by omega))
  have hE := envK_ok (hs.wfw hWW) hR' hn hK' (by rw [h.2.2.2.2 40 (by decide)]; exact h40) (by rw [h.2.2.2.2 41 (by decide)]; exact h41)
  obtain ⟨s1, t1, t2, -, t4⟩ := try_c (c := c) (J := fun _ => True) (hs.wfp hP) (hs.wfk hF) (hs.wfm hP hM) (hK'.hok (hs.wfk hF) (hs.wfm hP hM)) hE (by rw [h.2.2.2.2 23 (by decide)]; exact hc) trivial hx.rx
  rw [he.trySE hP hM hc] at t1 t2 t4
  obtain ⟨k1, k2, k3⟩ := tryK_x (τ := τ) (P := pf n) (c := c) (x := x)
  rw [k1] at t1 t4
  have ex : (tryS τ (envK (pf n)) c x).2 = ((tryK τ (pf n) c).2.1, x.2) := Prod.ext k2 k3
  rw [ex] at t2
  refine ⟨s1, t1, ⟨fun r r1 r2 => ?_, fun r r1 r2 => ?_, ?_, ?_, fun i hi => ?_⟩, t2.2, fun r r1 r2 => t2.1.row (by omega) (by omega), t2.1.2 67 (by decide), t4⟩
  · rw [t2.1.row (by omega) (by omega)]; exact h.1 r r1 r2
  · rw [t2.1.row (by omega) (by omega)]; exact h.2.1 r r1 r2
  · rw [t2.1.row (by omega) (by omega)]; exact h.2.2.1
  · rw [t2.1.row (by omega) (by omega)]; exact h.2.2.2.1
  · have := h.2.2.2.2 i hi
    rw [← this]
    refine t2.1.2 i ?_
    simp only [List.mem_cons, List.not_mem_nil, or_false, not_or] at hi ⊢
    omega
/-! the needs of a case, from its columns -/
def cStk (τ : Sg) (c : Nat) : Nat → List (Nat × Int)
  | 0 => []
  | k + 1 => ((cpt τ c k).toNat, (k : Int) + 1) :: cStk τ c k
theorem cStk_len {τ : Sg} {c : Nat} : ∀ k, (cStk τ c k).length = k
  | 0 => rfl
  | k + 1 => by unfold cStk; rw [List.length_cons, cStk_len k]
theorem cStk_mem {τ : Sg} {c : Nat} {q : Nat × Int} : ∀ {k : Nat}, q ∈ cStk τ c k ↔ ∃ i : Nat, i < k ∧ q = ((cpt τ c i).toNat, (i : Int) + 1)
  | 0 => ⟨fun h => (by cases h), fun ⟨i, h, _⟩ => (by omega)⟩
  | k + 1 => by
    unfold cStk
    rw [List.mem_cons, cStk_mem]
    constructor
    · rintro (z | ⟨i, i1, i2⟩)
      · exact ⟨k, by omega, z⟩
      · exact ⟨i, by omega, i2⟩
    · rintro ⟨i, i1, i2⟩
      by_cases g : i = k
      · rw [g] at i2; exact Or.inl i2
      · exact Or.inr ⟨i, by omega, i2⟩
theorem cStk_cols {τ : Sg} {c : Nat} (hM : WFM τ) {q : Nat × Int} : q ∈ cStk τ c (τ 0 21).toNat ↔ q ∈ colsL τ c := by
  have h3 := hM.1
  rw [cStk_mem]
  constructor
  · rintro ⟨i, i1, rfl⟩
    have e : ∀ k : Nat, k = i → ((cpt τ c i).toNat, (i : Int) + 1) ∈ col1L τ c k := fun k hk => by
      subst hk
      unfold col1L
      rw [if_pos (by omega)]
      exact List.mem_cons_self
    unfold colsL
    rw [List.mem_append, List.mem_append]
    have : i = 0 ∨ i = 1 ∨ i = 2 := by omega
    rcases this with z | z | z
    · exact Or.inl (e 0 z.symm)
    · exact Or.inr (Or.inl (e 1 z.symm))
    · exact Or.inr (Or.inr (e 2 z.symm))
  · intro h
    obtain ⟨k, k3, k1, q1, q2⟩ := colsL_mem h
    exact ⟨k, by omega, Prod.ext q1 q2⟩
theorem ncol_c {τ s : Sg} {c k : Nat} {f : Int → Nat} {D : Int → Prop} (hM : WFM τ) (hc : (c : Int) < τ 0 23) (hk : (k : Int) < τ 0 21) (h : FrN τ s) (hs : wkS s ((cStk τ c k).map toI)) (hN : NI s c f D) : ∃ s', L_X11_needsOf_4 c k k s = some (.inl (((k + 1 : Nat) : Int), ((k + 1 : Nat) : Int), s')) ∧ FrN τ s' ∧ wkS s' ((cStk τ c (k + 1)).map toI) ∧ NI s' c f D := by
  obtain ⟨w1, w2, w3, w4, w5⟩ := hM
  have hf := ((w5 c hc).1 k (by omega)).1 hk
  have e21 := h.2.2.2.2 21 (by decide)
  have e20 := h.1 20 (by omega) (by omega)
  have hl : ((cStk τ c k).map toI).length = k := by rw [List.length_map, cStk_len]
  have hw : wrap ((k : Int) + 1) = ((k + 1 : Nat) : Int) := by rw [wrap_id (z := (k : Int) + 1) (by omega) (by omega)]; omega
  unfold L_X11_needsOf_4
  rw [e21, if_neg (by omega), wrap_id (z := 3 * (c : Int)) (by omega) (by omega), wrap_id (z := 3 * (c : Int) + k) (by omega) (by omega), rdn_ok (by omega) (by omega), Option.bind_some, show (3 * (c : Int) + k).toNat = 3 * c + k by omega, e20, wrn_ok (by omega) (by omega), Option.bind_some, wrn_ok (by omega) (by omega), Option.bind_some, hw, show ((k : Nat) : Int).toNat = k by omega]
  refine ⟨_, rfl, (h.push (Or.inl rfl)).push (Or.inr rfl), ⟨?_, ?_, ?_⟩, (hN.push (Or.inl rfl)).push (Or.inr rfl)⟩
  · show up2 _ 50 k _ 26 ((cStk τ c k).map toI).length = _
    rw [hl, up2_row (by omega), up2_at rfl rfl]
    show cpt τ c k = (((cpt τ c k).toNat : Nat) : Int)
    have := hf.1
    omega
  · show up2 _ 50 k _ 50 ((cStk τ c k).map toI).length = _
    rw [hl, up2_at rfl rfl]
    show ((k + 1 : Nat) : Int) = (k : Int) + 1
    omega
  · exact wkS_up (wkS_up hs (by rw [hl]; exact Nat.le_refl _)) (by rw [hl]; exact Nat.le_refl _)
theorem ncols_c {τ : Sg} {c : Nat} {f : Int → Nat} {D : Int → Prop} (hM : WFM τ) (hc : (c : Int) < τ 0 23) {s : Sg} (h : FrN τ s) (hN : NI s c f D) : ∀ k : Nat, (k : Int) ≤ τ 0 21 → ∃ s', Rch (fun a : (Int × Int × Sg) => L_X11_needsOf_4 c a.1 a.2.1 a.2.2) k (0, 0, s) ((k : Int), (k : Int), s') ∧ FrN τ s' ∧ wkS s' ((cStk τ c k).map toI) ∧ NI s' c f D
  | 0, _ => ⟨s, Rch.nil, h, trivial, hN⟩
  | k + 1, hk => by
    obtain ⟨s1, a1, a2, a3, a4⟩ := ncols_c hM hc h hN k (by omega)
    obtain ⟨s2, b1, b2, b3, b4⟩ := ncol_c hM hc (by omega) a2 a3 a4
    exact ⟨s2, a1.snoc (f := fun a : (Int × Int × Sg) => L_X11_needsOf_4 c a.1 a.2.1 a.2.2) b1, b2, b3, b4⟩
theorem needsOf_c {τ s : Sg} {P : Pth} {c : Nat} {f : Int → Nat} {D : Int → Prop} (hW : WFP τ) (hF : WFK (τ 1) (τ 2) (τ 3)) (hM : WFM τ) (hH : HOK τ (hk P)) (hE : ∀ s, FrN τ s → ∀ pl, 0 ≤ pl → F_X11_factAt pl s = some (hk P pl, s)) (hf : ∀ y, f y ≤ 8) (hc : (c : Int) < τ 0 23) (h : FrN τ s) (hN : NI s c f D) : ∃ s', F_X11_needsOf c s = some s' ∧ FrN τ s' ∧ NI s' c f (fun y => D y ∨ y ∈ ndC τ P c) := by
  have h3 := hM.1
  have h8 := hM.2.1
  obtain ⟨s1, a1, a2, a3, a4⟩ := ncols_c hM hc h hN (τ 0 21).toNat (by omega)
  have hok : ∀ q ∈ cStk τ c (τ 0 21).toNat, okP τ (hk P) q.1 q.2 ∧ 1 ≤ q.2 := fun q hq => by
    have hq' := (cStk_cols hM).mp hq
    refine ⟨cols_ok hM hc q hq', ?_⟩
    obtain ⟨k, k3, k1, q1, q2⟩ := colsL_mem hq'
    omega
  have hge : ∀ q ∈ cStk τ c (τ 0 21).toNat, 1 ≤ τ 14 q.1 ∧ τ 14 q.1 ≤ 40 := fun q hq => hW.ge (hok q hq).1.1
  have hsz : szL τ (cStk τ c (τ 0 21).toNat) ≤ 120 := by
    have : ∀ k : Nat, (k : Int) ≤ τ 0 21 → szL τ (cStk τ c k) ≤ 40 * k := by
      intro k
      induction k with
      | zero => intro _; rw [show cStk τ c 0 = [] from rfl, szL_nil]; omega
      | succ k ih =>
        intro hk
        have := ih (by omega)
        have h2 := hge ((cpt τ c k).toNat, (k : Int) + 1) (cStk_mem.mpr ⟨k, by omega, rfl⟩)
        unfold cStk
        rw [szL_cons]
        have h3 : τ 14 ((cpt τ c k).toNat, (k : Int) + 1).1 ≤ 40 := h2.2
        omega
    have := this (τ 0 21).toNat (by omega)
    omega
  obtain ⟨j, s2, b1, b2, b3, b4, b5⟩ := ndL_c (τ := τ) (P := P) (c := c) (n := 60) (f := f) (cStk τ c (τ 0 21).toNat) (fun q hq => ⟨nd_c hW hF hH hE hf (by omega) 60 q.1 q.2 (hok q hq).1 (hok q hq).2 (by have := (hge q hq).2; omega), (hge q hq).1⟩) [] s1 D a2 (by rw [List.append_nil]; exact a3) a4 (by rw [List.length_nil]; omega)
  rw [List.append_nil, List.length_map, cStk_len] at b2
  refine ⟨s2, ?_, b3, b5.iff (fun x => ?_)⟩
  · have f1 : L_X11_needsOf_4 c ((τ 0 21).toNat : Int) ((τ 0 21).toNat : Int) s1 = some (.inr (((τ 0 21).toNat : Int), s1)) := by
      unfold L_X11_needsOf_4
      rw [a2.2.2.2.2 21 (by decide), if_pos (by omega)]
    have r1 := a1.fin (m := 3000) f1 (by omega)
    have f2 : L_X11_needsOf_46 c 0 s2 = some (.inr s2) := by unfold L_X11_needsOf_46; rw [if_pos (by omega)]
    have r2 := b2.fin (m := 3000) (z := s2) f2 (by omega)
    unfold F_X11_needsOf
    rw [r1, Option.bind_some]
    dsimp only
    rw [show (((τ 0 21).toNat : Nat) : Int) = (((τ 0 21).toNat : Nat) : Int) from rfl, r2, Option.bind_some]
  · have : x ∈ (cStk τ c (τ 0 21).toNat).flatMap (fun q => nd τ P 60 q.1 q.2) ↔ x ∈ ndC τ P c := by
      unfold ndC
      rw [List.mem_flatMap, List.mem_flatMap]
      constructor
      · rintro ⟨q, q1, q2⟩; exact ⟨q, (cStk_cols hM).mp q1, q2⟩
      · rintro ⟨q, q1, q2⟩; exact ⟨q, (cStk_cols hM).mpr q1, q2⟩
    rw [this]
