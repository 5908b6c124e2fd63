/-! a run, entire -/
theorem rr_no {τ : Sg} {e a b c : Int} {y : Bool} : B_X11_run_156 e a b c false y τ = some (0, up2 τ 0 0 1) := by
  have h : ∀ z : Bool, B_X11_run_190 e a b c false y z τ = some (0, up2 τ 0 0 1) := fun z => by
    unfold B_X11_run_190
    rw [if_neg (by decide)]
    unfold B_X11_run_221
    rw [refused_n (by omega), bnd_eq]
    rfl
  unfold B_X11_run_156 B_X11_run_189 B_X11_run_185
  rw [h, h]
  split
  · rfl
  · rw [if_neg (by decide)]
theorem rr_ill {τ : Sg} {e a b c : Int} : B_X11_run_156 e a b c true false τ = some (0, up2 τ 0 0 2) := by
  have h : ∀ z : Bool, B_X11_run_190 e a b c true false z τ = some (0, up2 τ 0 0 2) := fun z => by
    unfold B_X11_run_190
    rw [if_pos rfl, if_neg (by decide)]
    unfold B_X11_run_221
    rw [refused_n (by omega), bnd_eq]
    rfl
  unfold B_X11_run_156 B_X11_run_189 B_X11_run_185
  rw [h, h]
  split
  · rfl
  · rw [if_pos rfl, if_neg (by decide)]
theorem rr_full {τ : Sg} {e a b c : Int} (hr : τ 0 21 ≤ 0 ∨ (2 ≤ e ∧ ¬ τ 0 55 = 0)) : B_X11_run_156 e a b c true true τ = some (0, up2 τ 0 0 3) := by
  have h : B_X11_run_190 e a b c true true false τ = some (0, up2 τ 0 0 3) := by
    unfold B_X11_run_190
    rw [if_pos rfl, if_pos rfl, if_neg (by decide)]
    unfold B_X11_run_221
    rw [refused_n (by omega), bnd_eq]
    rfl
  unfold B_X11_run_156 B_X11_run_189
  rw [h]
  by_cases g : τ 0 21 ≤ 0
  · rw [if_pos g]
  · rw [if_neg g, if_pos rfl, if_pos rfl, if_neg (show ¬ e < 2 by omega), if_neg (show ¬ τ 0 55 = 0 by omega)]
theorem rr_go {τ : Sg} {e a b c : Int} (h1 : ¬ τ 0 21 ≤ 0) (h2 : e < 2 ∨ τ 0 55 = 0) : B_X11_run_156 e a b c true true τ = B_X11_run_221 e a b c 0 τ := by
  have h : B_X11_run_185 e a b c true true τ = B_X11_run_221 e a b c 0 τ := by
    unfold B_X11_run_185 B_X11_run_190
    rw [if_pos rfl, if_pos rfl, if_pos rfl]
  unfold B_X11_run_156
  rw [h, if_neg h1, if_pos rfl, if_pos rfl]
  by_cases g : e < 2
  · rw [if_pos g]
  · rw [if_neg g, if_pos (show τ 0 55 = 0 by omega)]
set_option maxHeartbeats 4000000 in
theorem w_run : Op_run RelW := fun σ τ e a b c h _ _ _ _ hs ht => by
  obtain ⟨hW, hF, hM, hV, hWW⟩ := h.wf
  obtain ⟨k1, k2, k3, k4, k5, k6⟩ := h.1
  have h24 : σ 24 0 = τ 0 21 := k5.1
  have hM1 := hM.1
  have h25 : ∀ i, inR (τ 25 i) := fun i => ht.2 i
  obtain ⟨x', y', f1, f2, f3⟩ := rn_fl (a := a) (b := b) (c := c) (x := F_X11_in e 0 3) (τ := τ) ⟨hV.1, hV.2.1⟩
  unfold F_X10_run F_X11_run F_X4_columns
  rw [bnd_eq, bnd_eq, h24, f1, Option.bind_some]
  dsimp only
  have hno : ∀ z : Bool, x' = false → (if x' = true then (if y' = true then (if τ 0 21 ≤ 0 then B_X11_run_156 e a b c x' y' τ else (if e < 2 then B_X11_run_156 e a b c x' y' τ else (F_X11_build e τ).bind fun q27 => B_X11_run_156 e a b c x' y' q27)) else B_X11_run_156 e a b c x' y' τ) else B_X11_run_156 e a b c x' y' τ) = some (0, up2 τ 0 0 1) := fun _ hx => by
    rw [hx, if_neg (by decide), rr_no]
  by_cases c1 : 0 ≤ e ∧ e ≤ 3
  · rw [if_pos (isIn_iff.mpr c1)]
    by_cases c2 : ∀ i, 0 ≤ i → i < τ 0 21 → vl τ (F_X10_pick i a b c)
    · have hx : x' = true := f2.mpr ⟨in_iff.mpr c1, fun i i1 i2 => by
        by_cases g : τ 0 21 ≤ i
        · exact Or.inl g
        · exact Or.inr (c2 i i1 (by omega))⟩
      rw [demV_ok k2 hM1 c2]
      show ∃ q r, ((iter (fun a9 : Int => L_X10_run_31 a b c (τ 0 21) σ a9) 4 0).bind fun y8 => Sum.elim (fun z10 => _) (fun r11 => some r11) y8) = some q ∧ _
      obtain ⟨g1, g2⟩ := rk_fl k2 k5 c2
      by_cases c3 : ∀ i, 0 ≤ i → i < 3 → rFit τ a b c i
      · have hy : y' = true := f3.mpr c3
        have hg : ∀ k : Nat, (k : Int) < τ 0 21 → vl τ (F_X10_pick k a b c) ∧ τ 4 (F_X10_pick k a b c).toNat = τ 19 k := fun k hk => by
          have q := (c3 k (by omega) (by omega)).2 hk
          rw [Int.toNat_natCast] at q
          exact q
        rw [g1 c3, Option.bind_some, hx, hy, if_pos rfl, if_pos rfl]
        show ∃ q r, (if F_X4_isThere σ = true then _ else _) = some q ∧ _
        by_cases c4 : τ 0 21 ≤ 0
        · have e4 : F_X4_isThere σ = false := by
            unfold F_X4_isThere
            rw [h24, if_pos c4]
          rw [e4, if_neg (by decide), if_pos c4, rr_full (Or.inl c4)]
          exact ⟨_, _, rfl, rfl, ag_x (τ := τ) (t := 3) rfl (by omega) (by omega), h.z⟩
        · have e4 : F_X4_isThere σ = true := by
            unfold F_X4_isThere
            rw [h24, if_neg c4]
          rw [e4, if_pos rfl, if_neg c4]
          by_cases c5 : e < 2
          · rw [if_pos c5, if_pos c5, rr_go c4 (Or.inl c5)]
            obtain ⟨v, σ', τ', q1, q2, q3, q4, -⟩ := w_go h h25 c1 hg (fun t m q => by omega)
            unfold B_X10_run_130
            exact ⟨_, _, q1, q2, ⟨q3, rfl⟩, q4⟩
          · rw [if_neg c5, if_neg c5]
            have hgrow : ∀ (t : Nat) (m : Bool), (e = 2 ∧ t = 43 ∧ m = false) ∨ (e = 3 ∧ t = 49 ∧ m = true) → ∃ q r, ((F_X7_grow t σ).bind fun q24 => if q24.1 = true then B_X10_run_130 e a b c q24.2 else B_X10_run_135 e a b c false q24.2) = some q ∧ ((F_X11_build e τ).bind fun q27 => B_X11_run_156 e a b c true true q27) = some r ∧ Ag [(0, 1), (1, 2), (2, 3)] q.1 r.1 (r.2 0 0) ∧ RelW q.2 r.2 := fun t m htm => by
              have htm' : (t = 43 ∧ m = false) ∨ (t = 49 ∧ m = true) := by
                rcases htm with q | q
                · exact Or.inl q.2
                · exact Or.inr q.2
              obtain ⟨σ', u1, u2, u3, u4, u5, -⟩ := w_grow h htm'
              obtain ⟨s', v1, v2, v3, v4, v5, v6⟩ := w_build u2 ht (e := e) (m := m) (by
                rcases htm with ⟨q, -, q2⟩ | ⟨q, -, q2⟩
                · rw [q2, if_neg (by decide), q]
                · rw [q2, if_pos rfl, q])
              have w21 := v6 21 (by decide)
              have w4 := v6 4 (by decide)
              obtain ⟨hWs, hFs, hMs, hVs, hWWs⟩ := v2.wf
              rw [u1, v1, Option.bind_some, Option.bind_some]
              dsimp only
              rcases trees_l hW hM hWs hMs (EqP.same (fun r r1 r2 => v4 r (by omega) (by omega)) w21 (v6 23 (by decide))) u5 v3 with ⟨t1, t2, t3, t4⟩ | ⟨t1, t2, t3⟩
              · rw [decide_eq_true t1, if_pos rfl, rr_go (by omega) (Or.inr t2)]
                obtain ⟨v, σ2, τ2, q1, q2, q3, q4, -⟩ := w_go v2 (a := a) (b := b) (c := c) (e := e) (fun i => by rw [v4 25 (by omega) (by omega)]; exact h25 i) c1 (fun k hk => by
                  rw [w21] at hk
                  obtain ⟨⟨z1, z2⟩, z3⟩ := hg k hk
                  rw [v4 4 (by omega) (by omega), v4 19 (by omega) (by omega)]
                  exact ⟨⟨z1, by rw [w4]; exact z2⟩, z3⟩) (fun t' m' q => by
                    have e1 : t' = t := by omega
                    have e2 : m' = m := by
                      rcases q with q | q
                      · rcases htm with z | z
                        · rw [q.2.2, z.2.2]
                        · omega
                      · rcases htm with z | z
                        · omega
                        · rw [q.2.2, z.2.2]
                    rw [e1, e2]
                    exact ⟨t3, t4⟩)
                unfold B_X10_run_130
                exact ⟨_, _, q1, q2, ⟨q3, rfl⟩, q4⟩
              · rw [decide_eq_false (by omega), if_neg (by decide), rr_full (Or.inr ⟨by omega, by omega⟩)]
                unfold B_X10_run_135
                rw [if_neg (by decide)]
                exact ⟨_, _, rfl, rfl, ag_x (τ := s') (t := 3) rfl (by omega) (by omega), v2.z⟩
            by_cases c6 : e = 3
            · rw [if_pos c6]
              exact hgrow 49 true (Or.inr ⟨c6, rfl, rfl⟩)
            · rw [if_neg c6]
              exact hgrow 43 false (Or.inl ⟨by omega, rfl, rfl⟩)
      · have hy : y' = false := by
          cases y' with
          | false => rfl
          | true => exact absurd (f3.mp rfl) c3
        rw [g2 c3, hx, hy, Option.bind_some, if_pos (show true = true from rfl), if_neg (show ¬ false = true by decide), rr_ill]
        exact ⟨_, _, rfl, rfl, ag_x (τ := τ) (t := 2) rfl (by omega) (by omega), h.z⟩
    · have hx : x' = false := by
        cases x' with
        | false => rfl
        | true => exact absurd (fun i i1 i2 => (((f2.mp rfl).2 i i1 (by omega)).resolve_left (by omega))) c2
      rw [hno true hx, demV_no k2 hM1 c2]
      exact ⟨_, _, rfl, rfl, ag_x (τ := τ) (t := 1) rfl (by omega) (by omega), h.z⟩
  · have hx : x' = false := by
      cases x' with
      | false => rfl
      | true => exact absurd (in_iff.mp (f2.mp rfl).1) c1
    rw [hno true hx, if_neg (fun q => c1 (isIn_iff.mp q))]
    exact ⟨_, _, rfl, rfl, ag_x (τ := τ) (t := 1) rfl (by omega) (by omega), h.z⟩
