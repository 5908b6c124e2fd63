/-! what asks the trees keeps the account -/
theorem ks_grow {σ τ : Sg} {t : Nat} {m : Bool} (h : RelW σ τ) (htm : (t = 43 ∧ m = false) ∨ (t = 49 ∧ m = true)) : ∃ b σ', F_X7_grow t σ = some (b, σ') ∧ RelW σ' τ := by
  obtain ⟨σg, u1, u2, -⟩ := w_grow h htm
  exact ⟨_, σg, u1, u2⟩
theorem ks_missing {σ τ : Sg} {q : (Int ⊕ Nat) × Sg} (h : RelW σ τ) (hq : F_X10_missing σ = some q) : RelW q.2 τ := by
  unfold F_X10_missing at hq
  split at hq
  · obtain ⟨b, σg, u1, u2⟩ := ks_grow h (Or.inl ⟨rfl, rfl⟩)
    rw [u1, Option.bind_some] at hq
    split at hq <;> (cases hq; exact u2)
  · cases hq; exact h
theorem ks_example {σ τ : Sg} {a : Int} {q : (Int ⊕ Nat) × Sg} (h : RelW σ τ) (hq : F_X10_example a σ = some q) : RelW q.2 τ := by
  unfold F_X10_example at hq
  split at hq
  · obtain ⟨b, σg, u1, u2⟩ := ks_grow h (Or.inl ⟨rfl, rfl⟩)
    rw [u1, Option.bind_some] at hq
    have hx : ∀ y, B_X10_example_35 a y σg = some q → RelW q.2 τ := fun y hy => by
      unfold B_X10_example_35 at hy
      split at hy
      · obtain ⟨v, -, z⟩ := bind_inv hy
        cases z; exact u2
      · cases hy; exact u2
    split at hq
    · split at hq
      · exact hx _ hq
      · exact hx _ hq
    · cases hq; exact u2
  · cases hq; exact h
theorem ks_isUsed {σ τ : Sg} {a : Int} {q : (Bool ⊕ Nat) × Sg} (h : RelW σ τ) (hq : F_X10_isUsed a σ = some q) : RelW q.2 τ := by
  unfold F_X10_isUsed at hq
  split at hq
  · obtain ⟨b, σg, u1, u2⟩ := ks_grow h (Or.inl ⟨rfl, rfl⟩)
    rw [u1, Option.bind_some] at hq
    split at hq <;> (cases hq; exact u2)
  · cases hq; exact h
/-- a size asked: the tree is laid; large or not -/
theorem sz_tree {σ τ : Sg} {t : Nat} {m : Bool} (h : RelW σ τ) (htm : (t = 43 ∧ m = false) ∨ (t = 49 ∧ m = true)) : ∃ σg, F_X7_grow t σ = some (decide (σg t 3 = 0), σg) ∧ RelW σg τ ∧ FrG t σ σg ∧ 0 < σg t 4 ∧ (σg t 3 = 0 → ∃ (K : Nat) (σ' : Sg), F_X7_sharedCount t σg = some ((K : Int), σ') ∧ RelW σ' τ ∧ FrS t σg σ') := by
  obtain ⟨σg, u1, u2, u3, u4, u5, u6⟩ := w_grow h htm
  refine ⟨σg, u1, u2, u3, u4, fun h3 => ?_⟩
  obtain ⟨hW, hF, hM, hV, hWW⟩ := u2.wf
  rcases u5 with ⟨-, pf, S, N, B, hB, hD⟩ | ⟨g, -⟩
  · obtain ⟨K, σ', a1, a2, a3⟩ := w_shared u2 htm h3 hB hD u6
    obtain ⟨K', σ2, b1, b2, b3, b4⟩ := shared_c hD (by omega) (fun n hn => by
      have q := qry_ok hW hF hM hWW (hD.1.ap n hn)
      exact ⟨q.1, q.2.1⟩) u6
    rw [a1] at b1
    cases b1
    exact ⟨K, σ', a1, a3, b4⟩
  · omega
theorem ks_size {σ τ : Sg} {e : Int} {b : Bool} {q : (Int ⊕ Nat) × Sg} (h : RelW σ τ) (hq : F_X10_size e b σ = some q) : RelW q.2 τ := by
  have hgo : ∀ (t : Nat) (m : Bool), ((t = 43 ∧ m = false) ∨ (t = 49 ∧ m = true)) → ((F_X7_grow t σ).bind fun q1 => if q1.1 = true then (if b = true then (F_X7_sharedCount t q1.2).bind fun q3 => some ((.inl q3.1 : Int ⊕ Nat), q3.2) else some (.inl (F_X7_nodeCount t q1.2), q1.2)) else some (.inl (-3), q1.2)) = some q → RelW q.2 τ := fun t m htm hq => by
    obtain ⟨σg, u1, u2, -, -, u5⟩ := sz_tree h htm
    rw [u1, Option.bind_some] at hq
    split at hq
    · rename_i c
      obtain ⟨K, σ', a1, a2, -⟩ := u5 (of_decide_eq_true c)
      split at hq
      · rw [a1, Option.bind_some] at hq
        cases hq; exact a2
      · cases hq; exact u2
    · cases hq; exact u2
  unfold F_X10_size at hq
  split at hq
  · split at hq
    · split at hq
      · exact hgo 49 true (Or.inr ⟨rfl, rfl⟩) hq
      · exact hgo 43 false (Or.inl ⟨rfl, rfl⟩) hq
    · cases hq; exact h
  · cases hq; exact h
theorem Sm.rfl' {τ : Sg} : Sm τ τ := ⟨rfl, rfl, rfl, rfl⟩
/-- two machines asked, the account kept -/
theorem tw_s {es : List (Nat × Int)} {js : List Nat} {f : Sg → Option ((Int ⊕ Nat) × Sg)} {g : Option (Int × Sg)} {σ1 σ2 τ : Sg} (h1 : ∃ q r, f σ1 = some q ∧ g = some r ∧ Ag es q.1 r.1 (r.2 0 0) ∧ RelW q.2 r.2) (h2 : ∃ q r, f σ2 = some q ∧ g = some r ∧ Ag es q.1 r.1 (r.2 0 0) ∧ RelW q.2 r.2)
    (hn : (es.map (·.2)).Nodup) (hj : es.map (·.1) = js) (k1 : ∀ q, f σ1 = some q → RelW q.2 τ) (k2 : ∀ q, f σ2 = some q → RelW q.2 τ) : ∃ (k : Int) (p1 p2 : Sg), wrq js (f σ1) = some (k, p1) ∧ wrq js (f σ2) = some (k, p2) ∧ RelW p1 τ ∧ RelW p2 τ := by
  subst hj
  obtain ⟨⟨x1, p1⟩, ⟨v, τ'⟩, a1, a2, a3, a4⟩ := h1
  obtain ⟨⟨x2, p2⟩, r2, b1, b2, b3, b4⟩ := h2
  rw [a2] at b2
  cases b2
  have e1 := k1 _ a1
  have e2 := k2 _ b1
  unfold wrq
  match x1, x2, a1, b1, a3, b3 with
  | .inl y1, .inl y2, a1, b1, a3, b3 =>
    obtain ⟨z, g1⟩ := a3
    obtain ⟨-, g2⟩ := b3
    dsimp only at z g1 g2
    subst g1
    exact ⟨v, p1, p2, by rw [a1]; rfl, by rw [b1, ← g2]; rfl, e1, e2⟩
  | .inl y1, .inr E2, a1, b1, a3, b3 => exact absurd a3.1 (by have := b3.2.1; dsimp only at this ⊢; omega)
  | .inr E1, .inl y2, a1, b1, a3, b3 => exact absurd b3.1 (by have := a3.2.1; dsimp only at this ⊢; omega)
  | .inr E1, .inr E2, a1, b1, a3, b3 =>
    obtain rfl := kE_inj hn a3.1 b3.1
    have hm := (kE_mem a3.1).2
    refine ⟨cdE E1, p1, p2, ?_, ?_, e1, e2⟩
    · rw [a1]
      show (if E1 ∈ es.map (·.1) then some (cdE E1) else none).bind _ = _
      rw [if_pos hm]; rfl
    · rw [b1]
      show (if E1 ∈ es.map (·.1) then some (cdE E1) else none).bind _ = _
      rw [if_pos hm]; rfl
theorem tw_sB {es : List (Nat × Int)} {js : List Nat} {f : Sg → Option ((Bool ⊕ Nat) × Sg)} {g : Option (Bool × Sg)} {σ1 σ2 τ : Sg} (h1 : ∃ q r, f σ1 = some q ∧ g = some r ∧ AgB es q.1 r.1 (r.2 0 0) ∧ RelW q.2 r.2) (h2 : ∃ q r, f σ2 = some q ∧ g = some r ∧ AgB es q.1 r.1 (r.2 0 0) ∧ RelW q.2 r.2)
    (hn : (es.map (·.2)).Nodup) (hj : es.map (·.1) = js) (k1 : ∀ q, f σ1 = some q → RelW q.2 τ) (k2 : ∀ q, f σ2 = some q → RelW q.2 τ) : ∃ (k : Int) (p1 p2 : Sg), wrqB js (f σ1) = some (k, p1) ∧ wrqB js (f σ2) = some (k, p2) ∧ RelW p1 τ ∧ RelW p2 τ := by
  subst hj
  obtain ⟨⟨x1, p1⟩, ⟨v, τ'⟩, a1, a2, a3, a4⟩ := h1
  obtain ⟨⟨x2, p2⟩, r2, b1, b2, b3, b4⟩ := h2
  rw [a2] at b2
  cases b2
  have e1 := k1 _ a1
  have e2 := k2 _ b1
  unfold wrqB
  match x1, x2, a1, b1, a3, b3 with
  | .inl y1, .inl y2, a1, b1, a3, b3 =>
    obtain ⟨z, g1⟩ := a3
    obtain ⟨-, g2⟩ := b3
    dsimp only at z g1 g2
    subst g1
    exact ⟨b2i v, p1, p2, by rw [a1]; rfl, by rw [b1, ← g2]; rfl, e1, e2⟩
  | .inl y1, .inr E2, a1, b1, a3, b3 => exact absurd a3.1 (by have := b3.2.1; dsimp only at this ⊢; omega)
  | .inr E1, .inl y2, a1, b1, a3, b3 => exact absurd b3.1 (by have := a3.2.1; dsimp only at this ⊢; omega)
  | .inr E1, .inr E2, a1, b1, a3, b3 =>
    obtain rfl := kE_inj hn a3.1 b3.1
    have hm := (kE_mem a3.1).2
    refine ⟨cdE E1, p1, p2, ?_, ?_, e1, e2⟩
    · rw [a1]
      show (if E1 ∈ es.map (·.1) then some (cdE E1) else none).bind _ = _
      rw [if_pos hm]; rfl
    · rw [b1]
      show (if E1 ∈ es.map (·.1) then some (cdE E1) else none).bind _ = _
      rw [if_pos hm]; rfl
section TS
variable {σ1 σ2 τ : Sg}
theorem s_missing (h1 : RelW σ1 τ) (h2 : RelW σ2 τ) (rt : inRt τ) : ∃ (k : Int) (p1 p2 : Sg), wrq [2] (F_X10_missing σ1) = some (k, p1) ∧ wrq [2] (F_X10_missing σ2) = some (k, p2) ∧ RelW p1 τ ∧ RelW p2 τ :=
  tw_s (es := [(2, 1)]) (w_missing2 σ1 τ h1 rt) (w_missing2 σ2 τ h2 rt) (by decide) rfl (fun q hq => ks_missing h1 hq) (fun q hq => ks_missing h2 hq)
theorem s_example {a : Int} (h1 : RelW σ1 τ) (h2 : RelW σ2 τ) (rt : inRt τ) : ∃ (k : Int) (p1 p2 : Sg), wrq [2] (F_X10_example a σ1) = some (k, p1) ∧ wrq [2] (F_X10_example a σ2) = some (k, p2) ∧ RelW p1 τ ∧ RelW p2 τ :=
  tw_s (f := F_X10_example a) (es := [(2, 1)]) (w_example2 σ1 τ a h1 rt) (w_example2 σ2 τ a h2 rt) (by decide) rfl (fun q hq => ks_example h1 hq) (fun q hq => ks_example h2 hq)
theorem s_size {a : Int} {b : Bool} (h1 : RelW σ1 τ) (h2 : RelW σ2 τ) (rt : inRt τ) : ∃ (k : Int) (p1 p2 : Sg), wrq [0, 2] (F_X10_size a b σ1) = some (k, p1) ∧ wrq [0, 2] (F_X10_size a b σ2) = some (k, p2) ∧ RelW p1 τ ∧ RelW p2 τ :=
  tw_s (f := F_X10_size a b) (es := [(0, 1), (2, 2)]) (w_size2 σ1 τ a b h1 rt) (w_size2 σ2 τ a b h2 rt) (by decide) rfl (fun q hq => ks_size h1 hq) (fun q hq => ks_size h2 hq)
theorem s_isUsed {a : Int} (h1 : RelW σ1 τ) (h2 : RelW σ2 τ) (rt : inRt τ) : ∃ (k : Int) (p1 p2 : Sg), wrqB [0, 2] (F_X10_isUsed a σ1) = some (k, p1) ∧ wrqB [0, 2] (F_X10_isUsed a σ2) = some (k, p2) ∧ RelW p1 τ ∧ RelW p2 τ :=
  tw_sB (f := F_X10_isUsed a) (es := [(0, 1), (2, 2)]) (w_isUsed2 σ1 τ a h1 rt) (w_isUsed2 σ2 τ a h2 rt) (by decide) rfl (fun q hq => ks_isUsed h1 hq) (fun q hq => ks_isUsed h2 hq)
end TS
/-! a run, by cases -/
def FitV (τ : Sg) (a b c : Int) : Prop := ∀ i, 0 ≤ i → i < τ 0 21 → vl τ (F_X10_pick i a b c)
def FitK (τ : Sg) (a b c : Int) : Prop := ∀ i, 0 ≤ i → i < 3 → rFit τ a b c i
section RUN
variable {σ τ : Sg} {e a b c : Int}
theorem run_no (h : RelW σ τ) (he : 0 ≤ e ∧ e ≤ 3) (hv : ¬ FitV τ a b c) : F_X10_run e a b c σ = some (.inr 0, σ) := by
  obtain ⟨k1, k2, k3, k4, k5, k6⟩ := h.1
  unfold F_X10_run F_X4_columns
  rw [bnd_eq, k5.1, if_pos (isIn_iff.mpr he), demV_no k2 k5.2.2.2.1.1 hv]
  rfl
theorem run_ill (h : RelW σ τ) (he : 0 ≤ e ∧ e ≤ 3) (hv : FitV τ a b c) (hk : ¬ FitK τ a b c) : F_X10_run e a b c σ = some (.inr 1, σ) := by
  obtain ⟨k1, k2, k3, k4, k5, k6⟩ := h.1
  unfold F_X10_run F_X4_columns
  rw [bnd_eq, k5.1, if_pos (isIn_iff.mpr he), demV_ok k2 k5.2.2.2.1.1 hv]
  show ((iter (fun a9 : Int => L_X10_run_31 a b c (τ 0 21) σ a9) 4 0).bind fun y8 => Sum.elim (fun z10 => _) (fun r11 => some r11) y8) = _
  rw [(rk_fl k2 k5 hv).2 hk]
  rfl
theorem run_in (h : RelW σ τ) (he : 0 ≤ e ∧ e ≤ 3) (hv : FitV τ a b c) (hk : FitK τ a b c) : F_X10_run e a b c σ = if F_X4_isThere σ = true then (if e < 2 then B_X10_run_130 e a b c σ else if e = 3 then (F_X7_grow 49 σ).bind (fun q22 => if q22.1 = true then B_X10_run_130 e a b c q22.2 else B_X10_run_135 e a b c false q22.2) else (F_X7_grow 43 σ).bind (fun q22 => if q22.1 = true then B_X10_run_130 e a b c q22.2 else B_X10_run_135 e a b c false q22.2)) else some (.inr 2, σ) := by
  obtain ⟨k1, k2, k3, k4, k5, k6⟩ := h.1
  unfold F_X10_run F_X4_columns
  rw [bnd_eq, k5.1, if_pos (isIn_iff.mpr he), demV_ok k2 k5.2.2.2.1.1 hv]
  show ((iter (fun a9 : Int => L_X10_run_31 a b c (τ 0 21) σ a9) 4 0).bind fun y8 => Sum.elim (fun z10 => _) (fun r11 => some r11) y8) = _
  rw [(rk_fl k2 k5 hv).1 hk]
  rfl
theorem run_nil (h : RelW σ τ) (he : 0 ≤ e ∧ e ≤ 3) (hv : FitV τ a b c) (hk : FitK τ a b c) (h0 : τ 0 21 ≤ 0) : F_X10_run e a b c σ = some (.inr 2, σ) := by
  rw [run_in h he hv hk, if_neg (fun q => (isThere4 h.1.2.2.2.2.1).mp q h0)]
theorem fit_g (hv : FitV τ a b c) (hk : FitK τ a b c) (hM : WFM τ) : ∀ k : Nat, (k : Int) < τ 0 21 → vl τ (F_X10_pick k a b c) ∧ τ 4 (F_X10_pick k a b c).toNat = τ 19 k := fun k hk2 => by
  have hM1 := hM.1
  have q := (hk k (by omega) (by omega)).2 hk2
  rw [Int.toNat_natCast] at q
  exact q
theorem run_lo (h : RelW σ τ) (ht : inRt τ) (he : 0 ≤ e ∧ e < 2) (hv : FitV τ a b c) (hk : FitK τ a b c) (h0 : ¬ τ 0 21 ≤ 0) : ∃ v σ', F_X10_run e a b c σ = some (.inl v, σ') ∧ RunObs e a b c σ τ v σ' := by
  rw [run_in h ⟨he.1, by omega⟩ hv hk, if_pos ((isThere4 h.1.2.2.2.2.1).mpr h0), if_pos he.2]
  obtain ⟨v, σ', τ', q1, q2, q3, q4, q5⟩ := w_go h ht.2 ⟨he.1, by omega⟩ (fit_g hv hk h.wf.2.2.1) (fun t m q => by omega)
  exact ⟨v, σ', q1, q5⟩
theorem run_tr {t : Nat} {m : Bool} (h : RelW σ τ) (ht : inRt τ) (htm : (e = 2 ∧ t = 43 ∧ m = false) ∨ (e = 3 ∧ t = 49 ∧ m = true)) (hv : FitV τ a b c) (hk : FitK τ a b c) (h0 : ¬ τ 0 21 ≤ 0) : ∃ σg, F_X7_grow t σ = some (decide (σg t 3 = 0), σg) ∧ RelW σg τ ∧ FrG t σ σg ∧
    ((¬ σg t 3 = 0 ∧ F_X10_run e a b c σ = some (.inr 2, σg)) ∨ (σg t 3 = 0 ∧ ∃ v σ' s', F_X10_run e a b c σ = some (.inl v, σ') ∧ RunObs e a b c σg s' v σ' ∧ (∀ r, 1 ≤ r → r ≤ 25 → s' r = τ r) ∧ s' 35 = τ 35 ∧ ∀ i, i = 4 ∨ i = 9 ∨ i = 21 ∨ i = 23 → s' 0 i = τ 0 i)) := by
  have htm' : (t = 43 ∧ m = false) ∨ (t = 49 ∧ m = true) := htm.imp And.right And.right
  obtain ⟨hW, hF, hM, hV, hWW⟩ := h.wf
  have he : 0 ≤ e ∧ e ≤ 3 := by omega
  obtain ⟨σg, u1, u2, u3, u4, u5, -⟩ := w_grow h htm'
  obtain ⟨s', v1, v2, v3, v4, v5, v6⟩ := w_build u2 ht (e := e) (m := m) (by
    rcases htm with ⟨q, -, q2⟩ | ⟨q, -, q2⟩
    · rw [q2, if_neg (by decide), q]
    · rw [q2, if_pos rfl, q])
  have w21 := v6 21 (by decide)
  have w4 := v6 4 (by decide)
  obtain ⟨hWs, hFs, hMs, hVs, hWWs⟩ := v2.wf
  have hrun : F_X10_run e a b c σ = if σg t 3 = 0 then B_X10_run_130 e a b c σg else B_X10_run_135 e a b c false σg := by
    rw [run_in h he hv hk, if_pos ((isThere4 h.1.2.2.2.2.1).mpr h0), if_neg (by omega)]
    rcases htm with ⟨q1, q2, q3⟩ | ⟨q1, q2, q3⟩
    · subst q2
      rw [if_neg (by omega), u1, Option.bind_some]
      by_cases z : σg 43 3 = 0
      · rw [if_pos z, if_pos (decide_eq_true z)]
      · rw [if_neg z, if_neg (fun q => z (of_decide_eq_true q))]
    · subst q2
      rw [if_pos q1, u1, Option.bind_some]
      by_cases z : σg 49 3 = 0
      · rw [if_pos z, if_pos (decide_eq_true z)]
      · rw [if_neg z, if_neg (fun q => z (of_decide_eq_true q))]
  refine ⟨σg, u1, u2, u3, ?_⟩
  rcases trees_l hW hM hWs hMs (EqP.same (fun r r1 r2 => v4 r (by omega) (by omega)) w21 (v6 23 (by decide))) u5 v3 with ⟨t1, t2, t3, t4⟩ | ⟨t1, t2, t3⟩
  · obtain ⟨v, σ2, τ2, q1, q2, q3, q4, q5⟩ := w_go v2 (a := a) (b := b) (c := c) (e := e) (fun i => by rw [v4 25 (by omega) (by omega)]; exact ht.2 i) he (fun k hk2 => by
      rw [w21] at hk2
      obtain ⟨⟨z1, z2⟩, z3⟩ := fit_g hv hk hM k hk2
      rw [v4 4 (by omega) (by omega), v4 19 (by omega) (by omega)]
      exact ⟨⟨z1, by rw [w4]; exact z2⟩, z3⟩) (fun t' m' q => by
        have e1 : t' = t := by omega
        have e2 : m' = m := by
          rcases q with q | q
          · rcases htm with z | z
            · rw [q.2.2, z.2.2]
            · omega
          · rcases htm with z | z
            · omega
            · rw [q.2.2, z.2.2]
        rw [e1, e2]
        exact ⟨t3, t4⟩)
    refine Or.inr ⟨t1, v, σ2, s', ?_, q5, v4, v5, fun i hi => v6 i (by simp only [List.mem_cons, List.not_mem_nil, or_false]; omega)⟩
    rw [hrun, if_pos t1]
    exact q1
  · refine Or.inl ⟨by omega, ?_⟩
    rw [hrun, if_neg (by omega)]
    unfold B_X10_run_135
    rw [if_neg (by decide)]
theorem RunObs.fr {v : Int} {σ' : Sg} (h : RunObs e a b c σ τ v σ') : ∀ r, r ≤ 25 → σ' r = σ r := by
  obtain ⟨w, σ2, σd, -, -, f1, f2, f3, -⟩ := h
  intro r hr
  have e0 : σd r = σ r := by rw [f2.1.row (Or.inl (by omega)), f1 r (by omega)]
  unfold endC at f3
  split at f3
  · unfold F_X1_take at f3
    rw [bnd_eq] at f3
    cases f3
    unfold F_X4_set
    split
    · split
      · unfold wrD
        rw [bnd_eq]
        split
        · rw [← e0]; funext i; rw [up2_row (by omega)]
        · exact e0
      · exact e0
    · exact e0
  · split at f3
    · cases f3; exact e0
    · unfold F_X1_miss F_X1_unbind at f3
      rw [bnd_eq, bnd_eq] at f3
      cases f3
      rw [← e0]; funext i; exact fillF_row (by omega)
theorem run_fr {q : (Int ⊕ Nat) × Sg} (h : RelW σ τ) (ht : inRt τ) (he : 0 ≤ e ∧ e ≤ 3) (hq : F_X10_run e a b c σ = some q) : ∀ r, r ≤ 25 → q.2 r = σ r := by
  by_cases hv : FitV τ a b c
  · by_cases hk : FitK τ a b c
    · by_cases h0 : τ 0 21 ≤ 0
      · rw [run_nil h he hv hk h0] at hq; cases hq; exact fun _ _ => rfl
      · by_cases h2 : e < 2
        · obtain ⟨v, σ', q1, q2⟩ := run_lo h ht ⟨he.1, h2⟩ hv hk h0
          rw [q1] at hq; cases hq; exact q2.fr
        · have hgo : ∀ (t : Nat) (m : Bool), (e = 2 ∧ t = 43 ∧ m = false) ∨ (e = 3 ∧ t = 49 ∧ m = true) → ∀ r, r ≤ 25 → q.2 r = σ r := fun t m htm r hr => by
            obtain ⟨σg, u1, u2, u3, u4⟩ := run_tr h ht htm hv hk h0
            have g := u3 r (by omega) (by omega)
            rcases u4 with ⟨-, z⟩ | ⟨-, v, σ', s', z, z2, -⟩
            · rw [z] at hq; cases hq; exact g
            · rw [z] at hq; cases hq; exact (z2.fr r hr).trans g
          by_cases h3 : e = 3
          · exact hgo 49 true (Or.inr ⟨h3, rfl, rfl⟩)
          · exact hgo 43 false (Or.inl ⟨by omega, rfl, rfl⟩)
    · rw [run_ill h he hv hk] at hq; cases hq; exact fun _ _ => rfl
  · rw [run_no h he hv] at hq; cases hq; exact fun _ _ => rfl
theorem sm_rel {σ' τ' : Sg} (h : RelW σ τ) (h' : RelW σ' τ') (hf : ∀ r, r ≤ 25 → σ' r = σ r) : Sm τ τ' := by
  obtain ⟨k1, k2, k3, k4, k5, k6⟩ := h.1
  obtain ⟨l1, l2, l3, l4, l5, l6⟩ := h'.1
  refine ⟨?_, ?_, ?_, ?_⟩
  · rw [← k2.1, ← l2.1, hf 5 (by omega)]
  · rw [← k3.1, ← l3.1, hf 10 (by omega)]
  · rw [← k5.2.1, ← l5.2.1, hf 24 (by omega)]
  · rw [← k5.1, ← l5.1, hf 24 (by omega)]
end RUN
theorem t_run {σ1 σ2 τ : Sg} {e a b c : Int} (h1 : RelW σ1 τ) (h2 : RelW σ2 τ) (rt : inRt τ) (he : 0 ≤ e ∧ e ≤ 3) : Tw [0, 1, 2] (F_X10_run e a b c) σ1 σ2 τ (fun _ τ' => Sm τ τ') := by
  obtain ⟨k, p1, p2, τ', g1, g2, g3, g4, -⟩ := tw_of (f := F_X10_run e a b c) (C := fun _ _ => True) (es := [(0, 1), (1, 2), (2, 3)]) (js := [0, 1, 2]) (w_run2 σ1 τ e a b c h1 rt) (w_run2 σ2 τ e a b c h2 rt) (by decide) rfl (fun v τ' hg => by
    obtain ⟨q, r, a1, a2, a3, a4⟩ := w_run2 σ1 τ e a b c h1 rt
    rw [a2] at hg
    cases hg
    by_cases z : τ' 0 0 = 0
    · exact Or.inr ⟨z, trivial⟩
    · exact Or.inl ⟨z, sm_rel h1 a4 (run_fr h1 rt he a1)⟩)
  obtain ⟨q, z1, z2, rfl⟩ := wrq_inv g1
  exact ⟨k, q.2, p2, τ', g1, g2, g3, g4, Or.inr (sm_rel h1 g3 (run_fr h1 rt he z1))⟩
theorem t_size {σ1 σ2 τ : Sg} {a : Int} {b : Bool} (h1 : RelW σ1 τ) (h2 : RelW σ2 τ) (rt : inRt τ) : Tw [0, 2] (F_X10_size a b) σ1 σ2 τ (fun _ τ' => Sm τ τ') := by
  obtain ⟨k, p1, p2, g1, g2, g3, g4⟩ := s_size (b := b) h1 h2 rt
  exact ⟨k, p1, p2, τ, g1, g2, g3, g4, Or.inr Sm.rfl'⟩
