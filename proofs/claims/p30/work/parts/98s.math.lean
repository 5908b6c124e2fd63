/-! the same patterns, columns and cases: the same trees -/
def EqP (τ τ' : Sg) : Prop :=
  (∀ r, r = 1 ∨ r = 2 ∨ r = 3 ∨ r = 18 ∨ r = 19 ∨ r = 20 ∨ r = 22 → τ' r = τ r) ∧
  (τ' 0 21 = τ 0 21) ∧
  (τ' 0 23 = τ 0 23) ∧
  (∀ p : Nat, (p : Int) < τ 0 9 → τ' 8 p = τ 8 p ∧ τ' 9 p = τ 9 p ∧ τ' 10 p = τ 10 p ∧ τ' 12 p = τ 12 p) ∧
  (∀ p : Nat, (p : Int) < τ 0 9 → ∀ k : Nat, k < 3 → prt τ' p k = prt τ p k)
theorem EqP.rw_ {τ τ' : Sg} (h : EqP τ τ') : ∀ r, r = 1 ∨ r = 2 ∨ r = 3 ∨ r = 18 ∨ r = 19 ∨ r = 20 ∨ r = 22 → τ' r = τ r := h.1
theorem EqP.c21 {τ τ' : Sg} (h : EqP τ τ') : τ' 0 21 = τ 0 21 := h.2.1
theorem EqP.c23 {τ τ' : Sg} (h : EqP τ τ') : τ' 0 23 = τ 0 23 := h.2.2.1
theorem EqP.pt {τ τ' : Sg} (h : EqP τ τ') : ∀ p : Nat, (p : Int) < τ 0 9 → τ' 8 p = τ 8 p ∧ τ' 9 p = τ 9 p ∧ τ' 10 p = τ 10 p ∧ τ' 12 p = τ 12 p := h.2.2.2.1
theorem EqP.pr {τ τ' : Sg} (h : EqP τ τ') : ∀ p : Nat, (p : Int) < τ 0 9 → ∀ k : Nat, k < 3 → prt τ' p k = prt τ p k := h.2.2.2.2
theorem EqP.same {τ τ' : Sg} (h : ∀ r, 1 ≤ r → r ≤ 22 → τ' r = τ r) (h1 : τ' 0 21 = τ 0 21) (h2 : τ' 0 23 = τ 0 23) : EqP τ τ' :=
  ⟨fun r hr => h r (by omega) (by omega), h1, h2, fun p _ => ⟨by rw [h 8 (by omega) (by omega)], by rw [h 9 (by omega) (by omega)], by rw [h 10 (by omega) (by omega)], by rw [h 12 (by omega) (by omega)]⟩, fun p _ k _ => by unfold prt; rw [h 11 (by omega) (by omega)]⟩
theorem EqP.isRE {τ τ' : Sg} (h : EqP τ τ') {p : Nat} (hp : (p : Int) < τ 0 9) (f : Int) : isR τ' p f = isR τ p f := by
  obtain ⟨a, b, c, d⟩ := h.pt p hp
  unfold isR
  rw [a, b, c]
theorem EqP.partsE {τ τ' : Sg} (h : EqP τ τ') {p : Nat} (hp : (p : Int) < τ 0 9) (pl f : Int) : partsL τ' p pl f = partsL τ p pl f := by
  obtain ⟨a, b, c, d⟩ := h.pt p hp
  unfold partsL part1 skipE
  rw [a, b, c, h.pr p hp 0 (by omega), h.pr p hp 1 (by omega), h.pr p hp 2 (by omega)]
theorem EqP.mtE {τ τ' : Sg} (h : EqP τ τ') (hW : WFP τ) {E : EnvQ} : ∀ (n p : Nat) (pl : Int) (x : XS), (p : Int) < τ 0 9 → mt τ' E n p pl x = mt τ E n p pl x
  | 0, p, pl, x, _ => rfl
  | n + 1, p, pl, x, hp => by
    show mtG τ' E (mt τ' E n) p pl x = mtG τ E (mt τ E n) p pl x
    obtain ⟨a, b, c, d⟩ := h.pt p hp
    have sub : ∀ k : Nat, k < 3 → 0 ≤ prt τ p k → ∀ pl x, mt τ' E n (prt τ p k).toNat pl x = mt τ E n (prt τ p k).toNat pl x := fun k k3 hk pl x => by
      have := hW.pb hp k3
      exact EqP.mtE h hW n _ pl x (by omega)
    unfold mtG
    rw [a, b, d, h.pr p hp 0 (by omega), h.pr p hp 1 (by omega), h.isRE hp, h.partsE hp]
    by_cases c0 : τ 8 p = 0
    · rw [if_pos c0, if_pos c0]
    rw [if_neg c0, if_neg c0]
    by_cases c1 : τ 8 p = 1
    · rw [if_pos c1, if_pos c1]; exact sub 0 (by omega) (hW.g1 hp c1).2.1 _ _
    rw [if_neg c1, if_neg c1]
    by_cases c4 : τ 8 p = 4
    · obtain ⟨a1, a2, -⟩ := hW.g4 hp c4
      rw [if_pos c4, if_pos c4, sub 0 (by omega) a1, sub 1 (by omega) a2]
    rw [if_neg c4, if_neg c4]
    by_cases c5 : τ 8 p = 5
    · rw [if_pos c5, if_pos c5, sub 0 (by omega) (hW.g5 hp c5).2.1]
    rw [if_neg c5, if_neg c5, seqM_congr (f := mt τ' E n) (g := mt τ E n) (fun q hq x => by
      have := parts_lt hW hp hq
      exact EqP.mtE h hW n _ _ x this.1)]
theorem EqP.kdE {τ τ' : Sg} (h : EqP τ τ') (H : Int → Int) (pl : Int) : kd τ' H pl = kd τ H pl := by
  have key : ∀ (n : Nat) (pl : Int), kdF τ' H n pl = kdF τ H n pl := by
    intro n
    induction n with
    | zero => intro pl; rfl
    | succ n ih =>
      intro pl
      unfold kdF kdG
      rw [ih, h.c21, h.rw_ 19 (by omega), h.rw_ 1 (by omega), h.rw_ 2 (by omega), h.rw_ 3 (by omega)]
  exact key _ pl
theorem EqP.colsE {τ τ' : Sg} (h : EqP τ τ') (c : Nat) : colsL τ' c = colsL τ c := by
  unfold colsL col1L cpt
  rw [h.rw_ 20 (by omega), h.c21]
theorem EqP.trySE {τ τ' : Sg} (h : EqP τ τ') (hW : WFP τ) (hM : WFM τ) {E : EnvQ} {c : Nat} (hc : (c : Int) < τ 0 23) (x : XS) : tryS τ' E c x = tryS τ E c x := by
  unfold tryS
  rw [h.colsE]
  exact seqM_congr (f := mt τ' E 60) (g := mt τ E 60) (fun q hq x => h.mtE hW 60 _ _ x (cols_ok (H := fun _ => -9) hM hc q hq).1)
theorem EqP.ndE {τ τ' : Sg} (h : EqP τ τ') (hW : WFP τ) {P : Pth} : ∀ (n p : Nat) (pl : Int), (p : Int) < τ 0 9 → nd τ' P n p pl = nd τ P n p pl
  | 0, p, pl, _ => rfl
  | n + 1, p, pl, hp => by
    show ndG τ' P (nd τ' P n) p pl = ndG τ P (nd τ P n) p pl
    obtain ⟨a, b, c, d⟩ := h.pt p hp
    have sub : ∀ k : Nat, k < 3 → 0 ≤ prt τ p k → ∀ pl, nd τ' P n (prt τ p k).toNat pl = nd τ P n (prt τ p k).toNat pl := fun k k3 hk pl => by
      have := hW.pb hp k3
      exact EqP.ndE h hW n _ pl (by omega)
    unfold ndG
    rw [a, h.pr p hp 0 (by omega), h.pr p hp 1 (by omega), h.isRE hp, h.partsE hp]
    by_cases c0 : τ 8 p = 0 ∨ τ 8 p = 5
    · rw [if_pos c0, if_pos c0]
    rw [if_neg c0, if_neg c0]
    by_cases c1 : τ 8 p = 1
    · rw [if_pos c1, if_pos c1]; exact sub 0 (by omega) (hW.g1 hp c1).2.1 _
    rw [if_neg c1, if_neg c1]
    by_cases c4 : τ 8 p = 4
    · obtain ⟨a1, a2, -⟩ := hW.g4 hp c4
      rw [if_pos c4, if_pos c4, sub 0 (by omega) a1, sub 1 (by omega) a2]
    rw [if_neg c4, if_neg c4]
    by_cases c9 : hk P pl = -9
    · rw [if_pos c9, if_pos c9]
    rw [if_neg c9, if_neg c9]
    by_cases cr : isR τ p (hk P pl) = true
    · rw [if_pos cr, if_pos cr]
      have fm : ∀ (L : List (Nat × Int)), (∀ q ∈ L, (q.1 : Int) < τ 0 9) → L.flatMap (fun q => nd τ' P n q.1 q.2) = L.flatMap (fun q => nd τ P n q.1 q.2) := by
        intro L
        induction L with
        | nil => intro _; rfl
        | cons q L ih =>
          intro hq
          rw [List.flatMap_cons, List.flatMap_cons, ih (fun z hz => hq z (List.mem_cons_of_mem _ hz)), EqP.ndE h hW n _ _ (hq q List.mem_cons_self)]
      exact fm _ (fun q hq => (parts_lt hW hp hq).1)
    · rw [if_neg cr, if_neg cr]
theorem flat_congr {f g : Nat → Int → List Int} : ∀ {L : List (Nat × Int)}, (∀ q ∈ L, f q.1 q.2 = g q.1 q.2) → L.flatMap (fun q => f q.1 q.2) = L.flatMap (fun q => g q.1 q.2)
  | [], _ => rfl
  | q :: L, h => by rw [List.flatMap_cons, List.flatMap_cons, flat_congr (L := L) (fun z hz => h z (List.mem_cons_of_mem _ hz)), h q List.mem_cons_self]
theorem EqP.ndCE {τ τ' : Sg} (h : EqP τ τ') (hW : WFP τ) (hM : WFM τ) {P : Pth} {c : Nat} (hc : (c : Int) < τ 0 23) : ndC τ' P c = ndC τ P c := by
  have key : ∀ n : Nat, (colsL τ' c).flatMap (fun q => nd τ' P n q.1 q.2) = (colsL τ c).flatMap (fun q => nd τ P n q.1 q.2) := fun n => by
    rw [h.colsE]
    exact flat_congr (f := nd τ' P n) (g := nd τ P n) (fun q hq => h.ndE hW n _ _ (cols_ok (H := fun _ => -9) hM hc q hq).1)
  exact key 60
theorem EqP.tryKE {τ τ' : Sg} (h : EqP τ τ') (hW : WFP τ) (hM : WFM τ) {P : Pth} {c : Nat} (hc : (c : Int) < τ 0 23) : tryK τ' P c = tryK τ P c := h.trySE hW hM hc x00
theorem EqP.ctedE {τ τ' : Sg} (h : EqP τ τ') (hW : WFP τ) (hM : WFM τ) {P : Pth} {c : Nat} (hc : (c : Int) < τ 0 23) : cted τ' P c = cted τ P c := by
  unfold cted
  rw [h.tryKE hW hM hc]
theorem EqP.cntE {τ τ' : Sg} (h : EqP τ τ') (hW : WFP τ) (hM : WFM τ) (P : Pth) (x : Int) : cnt τ' P x = cnt τ P x := by
  unfold cnt
  rw [h.c23]
  refine congrArg List.length (List.filter_congr fun c hc => ?_)
  rw [List.mem_range] at hc
  rw [h.ctedE hW hM (by omega), h.ndCE hW hM (by omega)]
theorem EqP.bestE {τ τ' : Sg} (h : EqP τ τ') (hW : WFP τ) (hM : WFM τ) (P : Pth) : best τ' P = best τ P := by
  unfold best
  refine congrArg Classical.epsilon (funext fun x => ?_)
  unfold BestP
  rw [h.cntE hW hM]
  refine congrArg (fun z => 0 < cnt τ P x ∧ z) (forall_congr fun y => ?_)
  rw [h.cntE hW hM]
theorem seekS_s {τ : Sg} {P : Pth} {d c : Nat} : seekS τ P (d + 1) c = if fk P c = true then seekS τ P d (c + 1) else match (tryK τ P c).1 with
    | .inl true => if τ 22 c = -1 then (0, (c : Int), 0) else (5, (c : Int), 0)
    | .inl false => seekS τ P d (c + 1)
    | .inr a => a := rfl
theorem EqP.seekSE {τ τ' : Sg} (h : EqP τ τ') (hW : WFP τ) (hM : WFM τ) (P : Pth) : ∀ (d c : Nat), ((c + d : Nat) : Int) ≤ τ 0 23 → seekS τ' P d c = seekS τ P d c := by
  intro d
  induction d with
  | zero => intro c _; rfl
  | succ d ih =>
    intro c hc
    have e1 := h.tryKE hW hM (P := P) (c := c) (by omega)
    have e2 := ih (c + 1) (by omega)
    have e3 := h.rw_ 22 (by omega)
    rw [seekS_s, seekS_s, e1, e2, e3]
theorem EqP.seekME {τ τ' : Sg} (h : EqP τ τ') (hW : WFP τ) (hM : WFM τ) (m : Bool) (P : Pth) : seekM τ' m P = seekM τ m P := by
  have h8 := hM.2.1
  unfold seekM
  rw [h.c23, h.seekSE hW hM P _ _ (by omega), h.bestE hW hM, h.kdE]
theorem EqP.qryE {τ τ' : Sg} (h : EqP τ τ') (hW : WFP τ) (hM : WFM τ) (m : Bool) : ∀ P, qry τ' m P = qry τ m P
  | [] => h.seekME hW hM m []
  | q :: P => by rw [qry_c, qry_c, h.rw_ 22 (by omega), h.seekME hW hM]
theorem EqP.widE {τ τ' : Sg} (h : EqP τ τ') (a : Ask) : wid τ' a = wid τ a := by
  unfold wid hds
  rw [h.rw_ 1 (by omega), h.rw_ 18 (by omega)]
theorem EqP.apE {τ τ' : Sg} (h : EqP τ τ') (hW : WFP τ) (hM : WFM τ) (m : Bool) : ∀ P, AP τ' m P ↔ AP τ m P
  | [] => Iff.rfl
  | q :: P => by
    show (AP τ' m P ∧ q.1 = qry τ' m P ∧ q.2 < wid τ' q.1) ↔ (AP τ m P ∧ q.1 = qry τ m P ∧ q.2 < wid τ q.1)
    rw [EqP.apE h hW hM m P, h.qryE hW hM, h.widE]
