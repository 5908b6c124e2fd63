/-! what a node comes to when all that is the same is one -/
abbrev Cdt : Type := List Nat → Option Ask
noncomputable def cdF (τ : Sg) (m : Bool) : Nat → Pth → Cdt
  | 0, _ => fun _ => none
  | d + 1, P => @ite Cdt ((qry τ m P).1 = 3 ∧ 0 < wid τ (qry τ m P) ∧ ∀ i, i < wid τ (qry τ m P) → cdF τ m d ((qry τ m P, i) :: P) = cdF τ m d ((qry τ m P, 0) :: P)) (Classical.propDecidable _) (cdF τ m d ((qry τ m P, 0) :: P))
      (fun l => match l with
        | [] => some (qry τ m P)
        | i :: l => if i < wid τ (qry τ m P) then cdF τ m d ((qry τ m P, i) :: P) l else none)
noncomputable def cdP (τ : Sg) (m : Bool) (P : Pth) : Cdt := cdF τ m (501 - P.length) P
/-- a node that is replaced by what is behind it -/
def idl (τ : Sg) (m : Bool) (P : Pth) : Prop := (qry τ m P).1 = 3 ∧ 0 < wid τ (qry τ m P) ∧ ∀ i, i < wid τ (qry τ m P) → cdP τ m ((qry τ m P, i) :: P) = cdP τ m ((qry τ m P, 0) :: P)
theorem cdP_c {τ : Sg} {m : Bool} {P : Pth} {q : Ask × Nat} (h : P.length ≤ 499) : cdF τ m (500 - P.length) (q :: P) = cdP τ m (q :: P) := by
  unfold cdP
  rw [List.length_cons, show 501 - (P.length + 1) = 500 - P.length by omega]
theorem cdP_s {τ : Sg} {m : Bool} {P : Pth} (h : P.length ≤ 499) : cdP τ m P = @ite Cdt (idl τ m P) (Classical.propDecidable _) (cdP τ m ((qry τ m P, 0) :: P)) (fun l => match l with
        | [] => some (qry τ m P)
        | i :: l => if i < wid τ (qry τ m P) then cdP τ m ((qry τ m P, i) :: P) l else none) := by
  have e : cdP τ m P = cdF τ m (500 - P.length + 1) P := by
    unfold cdP
    rw [show 501 - P.length = 500 - P.length + 1 by omega]
  have e2 : ∀ i, cdP τ m ((qry τ m P, i) :: P) = cdF τ m (500 - P.length) ((qry τ m P, i) :: P) := fun i => (cdP_c h).symm
  have hid : idl τ m P ↔ ((qry τ m P).1 = 3 ∧ 0 < wid τ (qry τ m P) ∧ ∀ i, i < wid τ (qry τ m P) → cdF τ m (500 - P.length) ((qry τ m P, i) :: P) = cdF τ m (500 - P.length) ((qry τ m P, 0) :: P)) := by
    unfold idl
    simp only [e2]
  rw [e]
  unfold cdF
  by_cases g : idl τ m P
  · rw [if_pos g, if_pos (hid.mp g), e2 0]
  · rw [if_neg g, if_neg (fun z => g (hid.mpr z))]
    funext l
    cases l with
    | nil => rfl
    | cons i l =>
      dsimp only
      rw [e2 i]
theorem cdP_i {τ : Sg} {m : Bool} {P : Pth} (h : P.length ≤ 499) (hi : idl τ m P) : cdP τ m P = cdP τ m ((qry τ m P, 0) :: P) := by
  rw [cdP_s h, if_pos hi]
theorem cdP_o {τ : Sg} {m : Bool} {P : Pth} (h : P.length ≤ 499) (hi : ¬ idl τ m P) : cdP τ m P = (fun l => match l with
        | [] => some (qry τ m P)
        | i :: l => if i < wid τ (qry τ m P) then cdP τ m ((qry τ m P, i) :: P) l else none) := by
  rw [cdP_s h, if_neg hi]
/-- two nodes that aren't replaced are the same -/
theorem cdP_same {τ : Sg} {m : Bool} {P Q : Pth} (hP : P.length ≤ 499) (hQ : Q.length ≤ 499) (h1 : ¬ idl τ m P) (h2 : ¬ idl τ m Q) : cdP τ m P = cdP τ m Q ↔ (qry τ m P = qry τ m Q ∧ ∀ i, i < wid τ (qry τ m P) → cdP τ m ((qry τ m P, i) :: P) = cdP τ m ((qry τ m Q, i) :: Q)) := by
  rw [cdP_o hP h1, cdP_o hQ h2]
  constructor
  · intro e
    have e0 := congrFun e []
    have eq : qry τ m P = qry τ m Q := Option.some.inj e0
    refine ⟨eq, fun i hi => ?_⟩
    funext l
    have el := congrFun e (i :: l)
    dsimp only at el
    rw [if_pos hi, if_pos (by rw [← eq]; exact hi)] at el
    exact el
  · rintro ⟨e1, e2⟩
    funext l
    cases l with
    | nil => dsimp only; rw [e1]
    | cons i l =>
      dsimp only
      by_cases g : i < wid τ (qry τ m P)
      · rw [if_pos g, if_pos (by rw [← e1]; exact g), e2 i g]
      · rw [if_neg g, if_neg (by rw [← e1]; exact g)]
/-- how many there are: one of each -/
def ShOK (τ : Sg) (m : Bool) (K : Nat) : Prop := ∃ L : List Pth, L.length = K ∧ (∀ P ∈ L, AP τ m P) ∧ (L.map (cdP τ m)).Nodup ∧ ∀ P, AP τ m P → ∃ Q ∈ L, cdP τ m Q = cdP τ m P
theorem sub_lenC {l k : List Cdt} (h1 : l.Nodup) (h2 : ∀ a ∈ l, a ∈ k) : l.length ≤ k.length :=
  @sub_len Cdt (fun a b => Classical.propDecidable (a = b)) l k h1 h2
theorem ShOK.eq {τ : Sg} {m : Bool} {K K' : Nat} (h : ShOK τ m K) (h' : ShOK τ m K') : K = K' := by
  obtain ⟨L, l1, l2, l3, l4⟩ := h
  obtain ⟨L', k1, k2, k3, k4⟩ := h'
  have a := sub_lenC l3 (k := L'.map (cdP τ m)) (fun c hc => by
    obtain ⟨P, p1, p2⟩ := List.mem_map.mp hc
    obtain ⟨Q, q1, q2⟩ := k4 P (l2 P p1)
    exact List.mem_map.mpr ⟨Q, q1, by rw [q2, p2]⟩)
  have b := sub_lenC k3 (k := L.map (cdP τ m)) (fun c hc => by
    obtain ⟨P, p1, p2⟩ := List.mem_map.mp hc
    obtain ⟨Q, q1, q2⟩ := l4 P (k2 P p1)
    exact List.mem_map.mpr ⟨Q, q1, by rw [q2, p2]⟩)
  rw [List.length_map, List.length_map] at a b
  omega
theorem cdF_eqp {τ τ' : Sg} {m : Bool} (hq : qry τ' m = qry τ m) (hw : wid τ' = wid τ) : ∀ d, cdF τ' m d = cdF τ m d
  | 0 => rfl
  | d + 1 => by
    funext P
    unfold cdF
    rw [hq, hw, cdF_eqp hq hw d]
theorem EqP.qw {τ τ' : Sg} (e : EqP τ τ') (hW : WFP τ) (hM : WFM τ) (m : Bool) : qry τ' m = qry τ m ∧ wid τ' = wid τ ∧ AP τ' m = AP τ m :=
  ⟨funext fun P => e.qryE hW hM m P, funext fun a => e.widE a, funext fun P => propext (e.apE hW hM m P)⟩
theorem ShOK.eqp {τ τ' : Sg} {m : Bool} {K : Nat} (e : EqP τ τ') (hW : WFP τ) (hM : WFM τ) (h : ShOK τ m K) : ShOK τ' m K := by
  obtain ⟨q, w, a⟩ := e.qw hW hM m
  have hc : cdP τ' m = cdP τ m := by
    funext P
    unfold cdP
    rw [cdF_eqp q w]
  unfold ShOK
  rw [hc, a]
  exact h
