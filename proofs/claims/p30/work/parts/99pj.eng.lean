/-! the five again, whatever the cells hold -/
set_option maxHeartbeats 4000000 in
theorem w_run2 : ∀ (σ τ : Sg) (e a b c : Int), RelW σ τ → inRt τ → ∃ q r, F_X10_run e a b c σ = some q ∧ F_X11_run e a b c τ = some r ∧ Ag [(0, 1), (1, 2), (2, 3)] q.1 r.1 (r.2 0 0) ∧ RelW q.2 r.2 := fun σ τ e a b c h ht => by
  obtain ⟨hW, hF, hM, hV, hWW⟩ := h.wf
  obtain ⟨k1, k2, k3, k4, k5, k6⟩ := h.1
  have h24 : σ 24 0 = τ 0 21 := k5.1
  have hM1 := hM.1
  have h25 : ∀ i, inR (τ 25 i) := fun i => ht.2 i
  obtain ⟨x', y', f1, f2, f3⟩ := rn_fl (a := a) (b := b) (c := c) (x := F_X11_in e 0 3) (τ := τ) ⟨hV.1, hV.2.1⟩
  unfold F_X10_run F_X11_run F_X4_columns
  rw [bnd_eq, bnd_eq, h24, f1, Option.bind_some]
  dsimp only
  have hno : ∀ z : Bool, x' = false → (if x' = true then (if y' = true then (if τ 0 21 ≤ 0 then B_X11_run_156 e a b c x' y' τ else (if e < 2 then B_X11_run_156 e a b c x' y' τ else (F_X11_build e τ).bind fun q27 => B_X11_run_156 e a b c x' y' q27)) else B_X11_run_156 e a b c x' y' τ) else B_X11_run_156 e a b c x' y' τ) = some (0, up2 τ 0 0 1) := fun _ hx => by
    rw [hx, if_neg (by decide), rr_no]
  by_cases c1 : 0 ≤ e ∧ e ≤ 3
  · rw [if_pos (isIn_iff.mpr c1)]
    by_cases c2 : ∀ i, 0 ≤ i → i < τ 0 21 → vl τ (F_X10_pick i a b c)
    · have hx : x' = true := f2.mpr ⟨in_iff.mpr c1, fun i i1 i2 => by
        by_cases g : τ 0 21 ≤ i
        · exact Or.inl g
        · exact Or.inr (c2 i i1 (by omega))⟩
      rw [demV_ok k2 hM1 c2]
      show ∃ q r, ((iter (fun a9 : Int => L_X10_run_31 a b c (τ 0 21) σ a9) 4 0).bind fun y8 => Sum.elim (fun z10 => _) (fun r11 => some r11) y8) = some q ∧ _
      obtain ⟨g1, g2⟩ := rk_fl k2 k5 c2
      by_cases c3 : ∀ i, 0 ≤ i → i < 3 → rFit τ a b c i
      · have hy : y' = true := f3.mpr c3
        have hg : ∀ k : Nat, (k : Int) < τ 0 21 → vl τ (F_X10_pick k a b c) ∧ τ 4 (F_X10_pick k a b c).toNat = τ 19 k := fun k hk => by
          have q := (c3 k (by omega) (by omega)).2 hk
          rw [Int.toNat_natCast] at q
          exact q
        rw [g1 c3, Option.bind_some, hx, hy, if_pos rfl, if_pos rfl]
        show ∃ q r, (if F_X4_isThere σ = true then _ else _) = some q ∧ _
        by_cases c4 : τ 0 21 ≤ 0
        · have e4 : F_X4_isThere σ = false := by
            unfold F_X4_isThere
            rw [h24, if_pos c4]
          rw [e4, if_neg (by decide), if_pos c4, rr_full (Or.inl c4)]
          exact ⟨_, _, rfl, rfl, ag_x (τ := τ) (t := 3) rfl (by omega) (by omega), h.z⟩
        · have e4 : F_X4_isThere σ = true := by
            unfold F_X4_isThere
            rw [h24, if_neg c4]
          rw [e4, if_pos rfl, if_neg c4]
          by_cases c5 : e < 2
          · rw [if_pos c5, if_pos c5, rr_go c4 (Or.inl c5)]
            obtain ⟨v, σ', τ', q1, q2, q3, q4, -⟩ := w_go h h25 c1 hg (fun t m q => by omega)
            unfold B_X10_run_130
            exact ⟨_, _, q1, q2, ⟨q3, rfl⟩, q4⟩
          · rw [if_neg c5, if_neg c5]
            have hgrow : ∀ (t : Nat) (m : Bool), (e = 2 ∧ t = 43 ∧ m = false) ∨ (e = 3 ∧ t = 49 ∧ m = true) → ∃ q r, ((F_X7_grow t σ).bind fun q24 => if q24.1 = true then B_X10_run_130 e a b c q24.2 else B_X10_run_135 e a b c false q24.2) = some q ∧ ((F_X11_build e τ).bind fun q27 => B_X11_run_156 e a b c true true q27) = some r ∧ Ag [(0, 1), (1, 2), (2, 3)] q.1 r.1 (r.2 0 0) ∧ RelW q.2 r.2 := fun t m htm => by
              have htm' : (t = 43 ∧ m = false) ∨ (t = 49 ∧ m = true) := by
                rcases htm with q | q
                · exact Or.inl q.2
                · exact Or.inr q.2
              obtain ⟨σ', u1, u2, u3, u4, u5, -⟩ := w_grow h htm'
              obtain ⟨s', v1, v2, v3, v4, v5, v6⟩ := w_build u2 ht (e := e) (m := m) (by
                rcases htm with ⟨q, -, q2⟩ | ⟨q, -, q2⟩
                · rw [q2, if_neg (by decide), q]
                · rw [q2, if_pos rfl, q])
              have w21 := v6 21 (by decide)
              have w4 := v6 4 (by decide)
              obtain ⟨hWs, hFs, hMs, hVs, hWWs⟩ := v2.wf
              rw [u1, v1, Option.bind_some, Option.bind_some]
              dsimp only
              rcases trees_l hW hM hWs hMs (EqP.same (fun r r1 r2 => v4 r (by omega) (by omega)) w21 (v6 23 (by decide))) u5 v3 with ⟨t1, t2, t3, t4⟩ | ⟨t1, t2, t3⟩
              · rw [decide_eq_true t1, if_pos rfl, rr_go (by omega) (Or.inr t2)]
                obtain ⟨v, σ2, τ2, q1, q2, q3, q4, -⟩ := w_go v2 (a := a) (b := b) (c := c) (e := e) (fun i => by rw [v4 25 (by omega) (by omega)]; exact h25 i) c1 (fun k hk => by
                  rw [w21] at hk
                  obtain ⟨⟨z1, z2⟩, z3⟩ := hg k hk
                  rw [v4 4 (by omega) (by omega), v4 19 (by omega) (by omega)]
                  exact ⟨⟨z1, by rw [w4]; exact z2⟩, z3⟩) (fun t' m' q => by
                    have e1 : t' = t := by omega
                    have e2 : m' = m := by
                      rcases q with q | q
                      · rcases htm with z | z
                        · rw [q.2.2, z.2.2]
                        · omega
                      · rcases htm with z | z
                        · omega
                        · rw [q.2.2, z.2.2]
                    rw [e1, e2]
                    exact ⟨t3, t4⟩)
                unfold B_X10_run_130
                exact ⟨_, _, q1, q2, ⟨q3, rfl⟩, q4⟩
              · rw [decide_eq_false (by omega), if_neg (by decide), rr_full (Or.inr ⟨by omega, by omega⟩)]
                unfold B_X10_run_135
                rw [if_neg (by decide)]
                exact ⟨_, _, rfl, rfl, ag_x (τ := s') (t := 3) rfl (by omega) (by omega), v2.z⟩
            by_cases c6 : e = 3
            · rw [if_pos c6]
              exact hgrow 49 true (Or.inr ⟨c6, rfl, rfl⟩)
            · rw [if_neg c6]
              exact hgrow 43 false (Or.inl ⟨by omega, rfl, rfl⟩)
      · have hy : y' = false := by
          cases y' with
          | false => rfl
          | true => exact absurd (f3.mp rfl) c3
        rw [g2 c3, hx, hy, Option.bind_some, if_pos (show true = true from rfl), if_neg (show ¬ false = true by decide), rr_ill]
        exact ⟨_, _, rfl, rfl, ag_x (τ := τ) (t := 2) rfl (by omega) (by omega), h.z⟩
    · have hx : x' = false := by
        cases x' with
        | false => rfl
        | true => exact absurd (fun i i1 i2 => (((f2.mp rfl).2 i i1 (by omega)).resolve_left (by omega))) c2
      rw [hno true hx, demV_no k2 hM1 c2]
      exact ⟨_, _, rfl, rfl, ag_x (τ := τ) (t := 1) rfl (by omega) (by omega), h.z⟩
  · have hx : x' = false := by
      cases x' with
      | false => rfl
      | true => exact absurd (in_iff.mp (f2.mp rfl).1) c1
    rw [hno true hx, if_neg (fun q => c1 (isIn_iff.mp q))]
    exact ⟨_, _, rfl, rfl, ag_x (τ := τ) (t := 1) rfl (by omega) (by omega), h.z⟩

set_option maxHeartbeats 4000000 in
theorem w_size2 : ∀ (σ τ : Sg) (e : Int) (b : Bool), RelW σ τ → inRt τ → ∃ q r, F_X10_size e b σ = some q ∧ F_X11_size e b τ = some r ∧ Ag [(0, 1), (2, 2)] q.1 r.1 (r.2 0 0) ∧ RelW q.2 r.2 := fun σ τ e b h ht => by
  obtain ⟨hW, hF, hM, hV, hWW⟩ := h.wf
  have hM1 := hM.1
  have hi := isThere4 h.1.2.2.2.2.1
  unfold F_X10_size F_X11_size
  by_cases c1 : 2 ≤ e ∧ e ≤ 3
  · rw [if_pos (isIn_iff.mpr c1), if_pos (in_iff.mpr c1)]
    by_cases c2 : τ 0 21 = 0
    · rw [if_neg (fun q => (hi.mp q) (by omega)), if_pos c2]
      unfold B_X11_size_26
      rw [refused_n (by omega), bnd_eq]
      exact ⟨_, _, rfl, rfl, ag_x (τ := τ) (t := 2) rfl (by omega) (by omega), h.z⟩
    · rw [if_pos (hi.mpr (by omega)), if_neg c2]
      unfold B_X11_size_26
      rw [refused_0, bnd_eq]
      dsimp only
      rw [if_neg (show ¬ false = true by decide)]
      have hgo : ∀ (t : Nat) (m : Bool), (e = 2 ∧ t = 43 ∧ m = false) ∨ (e = 3 ∧ t = 49 ∧ m = true) → ∃ q r, ((F_X7_grow t σ).bind fun q1 => if q1.1 = true then (if b = true then (F_X7_sharedCount t q1.2).bind fun q3 => some ((.inl q3.1 : Int ⊕ Nat), q3.2) else some (.inl (F_X7_nodeCount t q1.2), q1.2)) else some (.inl (-3), q1.2)) = some q ∧ ((F_X11_build e (up2 τ 0 0 0)).bind fun q3 => if (q3 0 55) = 0 then (if b = true then (F_X11_sharedSize q3).bind fun q5 => some (q5.1, q5.2) else some (q3 0 56, q3)) else some ((-3), q3)) = some r ∧ Ag [(0, 1), (2, 2)] q.1 r.1 (r.2 0 0) ∧ RelW q.2 r.2 := fun t m htm => by
        obtain ⟨σ', s', u1, u2, u3, u4, u5, u6⟩ := w_both (h.z (t := 0)) (inRt_up ht) htm
        have z0 : s' 0 0 = 0 := by rw [u4 0 (by omega), up2_at rfl rfl]
        obtain ⟨hWs, hFs, hMs, hVs, hWWs⟩ := u3.wf
        rw [u1, u2, Option.bind_some, Option.bind_some]
        dsimp only
        rcases u5 with ⟨v1, v2, ⟨pf, S, N, B, v3, v4⟩, pf', N', v5⟩ | ⟨v1, v2, v3⟩
        · rw [decide_eq_true v1, if_pos (show true = true from rfl), if_pos v2]
          cases b with
          | true =>
            rw [if_pos (show true = true from rfl), if_pos (show true = true from rfl), bind_eta]
            obtain ⟨K, σ2, w1, w2, w3⟩ := w_shared u3 (htm.imp And.right And.right) v1 v3 v4 u6
            obtain ⟨K', s2, x1, x2, x3⟩ := rshared_c v5 (fun n hn => by
              have q := qry_ok hWs hFs hMs hWWs (v5.ap n hn)
              exact ⟨q.1, q.2.1⟩)
            rw [w1, x1, Option.bind_some]
            refine ⟨_, _, rfl, rfl, ⟨?_, ?_⟩, w3.tau2 (fun r r1 r2 r3 r4 => x3 r r4) (fun i i0 i1 i2 => by
              show s2 0 i = s' 0 i
              rw [x3 0 (by omega)])⟩
            · show s2 0 0 = 0
              rw [x3 0 (by omega)]
              exact z0
            · show ((K' : Nat) : Int) = (K : Int)
              rw [w2.eq x2]
          | false =>
            rw [if_neg (show ¬ false = true by decide), if_neg (show ¬ false = true by decide)]
            refine ⟨_, _, rfl, rfl, ⟨z0, ?_⟩, u3⟩
            show s' 0 56 = F_X7_nodeCount t σ'
            unfold F_X7_nodeCount
            rw [v4.1.n4, v5.n56, v4.tree.eq v5.tree]
        · rw [decide_eq_false (by omega), if_neg (show ¬ false = true by decide), if_neg (show ¬ s' 0 55 = 0 by omega)]
          exact ⟨_, _, rfl, rfl, ⟨z0, rfl⟩, u3⟩
      by_cases c3 : e = 3
      · rw [if_pos c3]
        exact hgo 49 true (Or.inr ⟨c3, rfl, rfl⟩)
      · rw [if_neg c3]
        exact hgo 43 false (Or.inl ⟨by omega, rfl, rfl⟩)
  · rw [if_neg (fun q => c1 (isIn_iff.mp q)), if_neg (fun q => c1 (in_iff.mp q))]
    unfold B_X11_size_26
    rw [refused_n (by omega), bnd_eq]
    exact ⟨_, _, rfl, rfl, ag_x (τ := τ) (t := 1) rfl (by omega) (by omega), h.z⟩

theorem w_missing2 : ∀ (σ τ : Sg), RelW σ τ → inRt τ → ∃ q r, F_X10_missing σ = some q ∧ F_X11_missing τ = some r ∧ Ag [(2, 1)] q.1 r.1 (r.2 0 0) ∧ RelW q.2 r.2 := fun σ τ h ht => by
  obtain ⟨hW, hF, hM, hV, hWW⟩ := h.wf
  have hM1 := hM.1
  have hi := isThere4 h.1.2.2.2.2.1
  unfold F_X10_missing F_X11_missing
  by_cases c2 : τ 0 21 = 0
  · rw [if_neg (fun q => (hi.mp q) (by omega)), if_pos c2]
    unfold B_X11_missing_13
    rw [show b2i true = 1 from rfl, refused_n (by omega), bnd_eq]
    exact ⟨_, _, rfl, rfl, ag_x (τ := τ) (t := 1) rfl (by omega) (by omega), h.z⟩
  · rw [if_pos (hi.mpr (by omega)), if_neg c2]
    unfold B_X11_missing_13
    rw [show b2i false = 0 from rfl, refused_0, bnd_eq]
    dsimp only
    rw [if_neg (show ¬ false = true by decide)]
    obtain ⟨σ', s', u1, u2, u3, u4, u5, u6⟩ := w_both (h.z (t := 0)) (inRt_up ht) (e := 2) (t := 43) (m := false) (Or.inl ⟨rfl, rfl, rfl⟩)
    have z0 : s' 0 0 = 0 := by rw [u4 0 (by omega), up2_at rfl rfl]
    obtain ⟨hWs, hFs, hMs, hVs, hWWs⟩ := u3.wf
    rw [u1, u2, Option.bind_some, Option.bind_some]
    dsimp only
    rcases u5 with ⟨v1, v2, ⟨pf, S, N, B, v3, v4⟩, pf', N', v5⟩ | ⟨v1, v2, v3⟩
    · have h56 := v5.n56
      have h500 := v5.n500
      rw [decide_eq_true v1, if_pos (show true = true from rfl), miss_c ⟨by omega, by omega⟩, Option.bind_some, if_pos v2, missed_eq hWs hFs hMs hWWs v4 v5]
      refine ⟨_, _, rfl, rfl, ⟨z0, ?_⟩, u3⟩
      show _ = F_X7_missedCount 43 σ'
      unfold F_X7_missedCount
      rw [v4.1.mis]
    · rw [decide_eq_false (by omega), if_neg (show ¬ false = true by decide), miss_c v3, Option.bind_some, if_neg (show ¬ s' 0 55 = 0 by omega)]
      exact ⟨_, _, rfl, rfl, ⟨z0, rfl⟩, u3⟩
theorem w_example2 : ∀ (σ τ : Sg) (a : Int), RelW σ τ → inRt τ → ∃ q r, F_X10_example a σ = some q ∧ F_X11_example a τ = some r ∧ Ag [(2, 1)] q.1 r.1 (r.2 0 0) ∧ RelW q.2 r.2 := fun σ τ a h ht => by
  obtain ⟨hW, hF, hM, hV, hWW⟩ := h.wf
  have hM1 := hM.1
  have hi := isThere4 h.1.2.2.2.2.1
  have hno : ∀ s : Sg, B_X11_example_30 a (-1) s = some (0, up2 s 0 0 1) := fun s => by
    unfold B_X11_example_30 B_X11_example_41
    rw [if_pos rfl, show b2i true = 1 from rfl, refused_n (by omega), bnd_eq]
    rfl
  unfold F_X10_example F_X11_example
  by_cases c2 : τ 0 21 ≤ 0
  · rw [if_neg (fun q => (hi.mp q) c2), if_pos c2, hno]
    exact ⟨_, _, rfl, rfl, ag_x (τ := τ) (t := 1) rfl (by omega) (by omega), h.z⟩
  · rw [if_pos (hi.mpr c2), if_neg c2]
    obtain ⟨σ', s', u1, u2, u3, u4, u5, u6⟩ := w_both h ht (e := 2) (t := 43) (m := false) (Or.inl ⟨rfl, rfl, rfl⟩)
    obtain ⟨hWs, hFs, hMs, hVs, hWWs⟩ := u3.wf
    rw [u1, u2, Option.bind_some, Option.bind_some]
    dsimp only
    unfold B_X11_example_29
    rcases u5 with ⟨v1, v2, ⟨pf, S, N, B, v3, v4⟩, pf', N', v5⟩ | ⟨v1, v2, v3⟩
    · rw [decide_eq_true v1, if_pos (show true = true from rfl), if_pos v2]
      have hmis : F_X7_missedCount 43 σ' = ((cl (fun n => decide ((qry s' false (pf n)).1 = 2)) N : Nat) : Int) := v4.1.mis
      obtain ⟨s2, w1, w2⟩ := firstMissed_m v5 (fun n hn => by
        have q := qry_ok hWs hFs hMs hWWs (v5.ap n hn)
        exact ⟨q.1, q.2.1⟩)
      rcases w2 with ⟨n', x1, x2, x3⟩ | ⟨x1, x2⟩
      · have hpos : 0 < cl (fun n => decide ((qry s' false (pf n)).1 = 2)) N := by
          rw [v4.tree.cl_eq v5.tree (fun P => decide ((qry s' false P).1 = 2))]
          exact cl_pos N' x2 (decide_eq_true x3.2.1)
        obtain ⟨n, y1, y2, y3⟩ := firstMissed_k v4 hpos
        have hpf : pf n = pf' n' := y3.eq x3
        rw [hmis, if_neg (by omega), x1, Option.bind_some]
        unfold B_X10_example_35 B_X11_example_30
        rw [if_pos rfl, if_neg (show ¬ ((n' : Nat) : Int) = -1 by omega), exampleAt_k v4 (by omega) (fun k hk => by
          have q := qry_ok hWs hFs hMs hWWs (v4.1.ap k hk)
          exact ⟨q.1, q.2.1⟩) y2 y1, Option.bind_some, hpf]
        unfold B_X11_example_41
        rw [show b2i false = 0 from rfl, refused_0, bnd_eq]
        dsimp only
        rw [if_neg (show ¬ false = true by decide), bnd_eq, bnd_eq]
        obtain ⟨s3, hs3⟩ : ∃ s3, s3 = up2 (up2 (up2 s2 0 0 0) 0 40 0) 0 41 (n' : Int) := ⟨_, rfl⟩
        have r3 : ∀ r, ¬ r = 0 → s3 r = s2 r := fun r hr => by
          funext i
          rw [hs3, up2_row hr, up2_row hr, up2_row hr]
        have i3 : ∀ i, ¬ i = 0 → ¬ i = 40 → ¬ i = 41 → s3 0 i = s' 0 i := fun i i0 i1 i2 => by
          rw [hs3, up2_idx i2, up2_idx i1, up2_idx i0, w1 0 (by omega)]
        have hz : s3 0 0 = 0 := by rw [hs3, up2_idx (by omega), up2_idx (by omega), up2_at rfl rfl]
        have h40 : s3 0 40 = 0 := by rw [hs3, up2_idx (by omega), up2_at rfl rfl]
        have h41 : s3 0 41 = n' := by rw [hs3, up2_at rfl rfl]
        rw [← hs3]
        have hrel : RelW σ' s3 := u3.tau2 (fun r r0 r1 r2 r4 => by rw [r3 r r0, w1 r r4]) i3
        have hfact : (if 1 ≤ a then (F_X11_factAt a s3).bind fun q7 => B_X11_example_74 q7.1 q7.2 else B_X11_example_74 (-9) s3) = some (exV (hk (pf' n') a), s3) := by
          have h74 : ∀ v : Int, B_X11_example_74 v s3 = some (exV v, s3) := fun v => by
            unfold B_X11_example_74 exV
            by_cases g : v = -9
            · rw [if_pos g, if_pos g]
            · rw [if_neg g, if_neg g]
          by_cases g : 1 ≤ a
          · have hR : RTs s3 pf' N' := by
              have q := (v5.fr (s' := s3) (i3 56 (by omega) (by omega) (by omega)) (fun r r1 r2 => by rw [r3 r (by omega), w1 r (by omega)])).rts
              exact q
            rw [if_pos g, factK (τ := s') hR x2 (AP.kp hWs hFs hMs hWWs (v5.ap n' x2)) h40 h41 (by omega), Option.bind_some]
            exact h74 _
          · rw [if_neg g, hk_low hWs hFs hMs hWWs (v5.ap n' x2) (by omega)]
            exact h74 _
        rw [hfact]
        exact ⟨_, _, rfl, rfl, ⟨hz, rfl⟩, hrel⟩
      · have hzero : cl (fun n => decide ((qry s' false (pf n)).1 = 2)) N = 0 := by
          have e : cl (fun n => decide ((qry s' false (pf n)).1 = 2)) N = cl (fun _ => false) N := cl_congr N (fun n hn => decide_eq_false (x2 (pf n) (v4.1.ap n hn)))
          rw [e]
          have := cl_up (b := fun _ => false) (m := 0) N (fun _ _ _ => rfl)
          rw [Nat.zero_add] at this
          rw [this]
          rfl
        rw [hmis, hzero, if_pos (by omega), x1, Option.bind_some, hno]
        unfold B_X10_example_35
        rw [if_neg (show ¬ false = true by decide)]
        exact ⟨_, _, rfl, rfl, ag_x (τ := s2) (t := 1) rfl (by omega) (by omega), (u3.tau2 (fun r r0 r1 r2 r4 => w1 r r4) (fun i _ _ _ => by rw [w1 0 (by omega)])).z⟩
    · rw [decide_eq_false (by omega), if_neg (show ¬ false = true by decide), if_neg (show ¬ s' 0 55 = 0 by omega), hno]
      exact ⟨_, _, rfl, rfl, ag_x (τ := s') (t := 1) rfl (by omega) (by omega), u3.z⟩

theorem w_isUsed2 : ∀ (σ τ : Sg) (a : Int), RelW σ τ → inRt τ → ∃ q r, F_X10_isUsed a σ = some q ∧ F_X11_isUsed a τ = some r ∧ AgB [(0, 1), (2, 2)] q.1 r.1 (r.2 0 0) ∧ RelW q.2 r.2 := fun σ τ a h ht => by
  obtain ⟨hW, hF, hM, hV, hWW⟩ := h.wf
  have h8 := hM.2.1
  have hRM := h.1.2.2.2.2.1
  unfold F_X10_isUsed F_X11_isUsed
  rw [bnd_eq]
  by_cases c : 0 ≤ a ∧ a < τ 0 23
  · rw [if_pos ((has4 hRM).mpr c), (isCase_iff hM).mpr c, if_pos (show true = true from rfl)]
    obtain ⟨σ', s', u1, u2, u3, u4, u5, u6⟩ := w_both h ht (e := 2) (t := 43) (m := false) (Or.inl ⟨rfl, rfl, rfl⟩)
    obtain ⟨hWs, hFs, hMs, hVs, hWWs⟩ := u3.wf
    rw [u1, u2, Option.bind_some, Option.bind_some]
    unfold B_X11_isUsed_15
    dsimp only
    rw [if_pos (show true = true from rfl)]
    rcases u5 with ⟨v1, v2, ⟨pf, S, N, B, v3, v4⟩, pf', N', v5⟩ | ⟨v1, v2, v3⟩
    · rw [decide_eq_true v1, if_pos (show true = true from rfl), if_pos v2]
      unfold B_X11_isUsed_36
      rw [refused_0, bnd_eq]
      dsimp only
      rw [if_neg (show ¬ false = true by decide)]
      have e56 : (up2 s' 0 0 0) 0 56 = N' := by rw [up2_idx (by omega)]; exact v5.n56
      obtain ⟨b', b1, b2⟩ := used_m (a := a) e56 v5.n500 N' 0 3000 false (by omega) (by have := v5.n500; omega) ⟨fun q => (by cases q), fun ⟨n, n1, _⟩ => absurd n1 (Nat.not_lt_zero n)⟩
      have b1' : iter (fun z : (Bool × Int) => L_X11_isUsed_49 a (up2 s' 0 0 0) z.1 z.2) 3000 (false, 0) = some b' := b1
      rw [b1', Option.bind_some]
      have hleaf : b' = F_X7_hasLeafOf 43 a σ' := by
        have hl := hasLeaf_k (c := a.toNat) v4.1 (by omega)
        rw [show ((a.toNat : Nat) : Int) = a by omega] at hl
        have hiff : b' = true ↔ F_X7_hasLeafOf 43 a σ' = true := by
          rw [b2, hl]
          have hcell : ∀ n, n < N' → (usD (up2 s' 0 0 0) a n ↔ ((qry s' false (pf' n)).1 = 0 ∨ (qry s' false (pf' n)).1 = 1) ∧ (qry s' false (pf' n)).2.1 = a) := fun n hn => by
            have q := qry_ok hWs hFs hMs hWWs (v5.ap n hn)
            obtain ⟨-, -, -, -, d5, d6, -, -, -, d10⟩ := ask_cells (v5.fin n hn).1 q.1.1
            unfold usD
            rw [up2_row (by omega), up2_row (by omega), d5, d6]
            constructor
            · rintro ⟨z1, z2⟩
              exact ⟨z1, by rw [← d10 (Or.inr z1)]; exact z2⟩
            · rintro ⟨z1, z2⟩
              exact ⟨z1, by rw [d10 (Or.inr z1)]; exact z2⟩
          constructor
          · rintro ⟨n, n1, n2⟩
            obtain ⟨k, k1, k2⟩ := v4.tree.sur _ (v5.ap n n1)
            exact ⟨k, k1, by rw [k2]; exact (hcell n n1).mp n2⟩
          · rintro ⟨n, n1, n2⟩
            obtain ⟨k, k1, k2⟩ := v5.tree.sur _ (v4.1.ap n n1)
            exact ⟨k, k1, (hcell k k1).mpr (by rw [k2]; exact n2)⟩
        cases b' with
        | true => exact (hiff.mp rfl).symm
        | false =>
          cases g : F_X7_hasLeafOf 43 a σ' with
          | false => rfl
          | true => exact absurd (hiff.mpr g) (by decide)
      exact ⟨_, _, rfl, rfl, ⟨show up2 s' 0 0 0 0 0 = 0 from up2_at rfl rfl, hleaf⟩, u3.z⟩
    · rw [decide_eq_false (by omega), if_neg (show ¬ false = true by decide), if_neg (show ¬ s' 0 55 = 0 by omega)]
      unfold B_X11_isUsed_36
      rw [refused_n (by omega), bnd_eq]
      refine ⟨_, _, rfl, rfl, ?_, u3.z (t := 2)⟩
      exact ⟨rfl, by show (1 : Int) ≤ up2 s' 0 0 2 0 0; rw [up2_at rfl rfl]; omega, by show up2 s' 0 0 2 0 0 ≤ 3; rw [up2_at rfl rfl]; omega⟩
  · have e : F_X11_isCase a τ = false := by
      cases g : F_X11_isCase a τ with
      | false => rfl
      | true => exact absurd ((isCase_iff hM).mp g) c
    rw [if_neg (fun q => c ((has4 hRM).mp q)), e, if_neg (show ¬ false = true by decide)]
    unfold B_X11_isUsed_15 B_X11_isUsed_36
    rw [if_neg (show ¬ false = true by decide), refused_n (by omega), bnd_eq]
    refine ⟨_, _, rfl, rfl, ?_, h.z (t := 1)⟩
    exact ⟨rfl, by show (1 : Int) ≤ up2 τ 0 0 1 0 0; rw [up2_at rfl rfl]; omega, by show up2 τ 0 0 1 0 0 ≤ 3; rw [up2_at rfl rfl]; omega⟩

