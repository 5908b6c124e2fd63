/-! a run, and the account behind it -/
def RelF (τ σ s : Sg) : Prop := RelW σ s ∧ ∀ r, 1 ≤ r → r ≤ 24 → s r = τ r
theorem run_fin2 {σ0 σd τ sb sd : Sg} {A B : Int × Nat × XS} (hW : WFP τ) (hF : WFK (τ 1) (τ 2) (τ 3)) (hM : WFM τ) (h : RS5 σ0 τ) (hE : EN σ0 τ) (h1 : ∀ r, ¬ r = 0 → ¬ r = 35 → sb r = τ r) (h2 : ∀ i, i ∉ [0, 40, 47, 48] → sb 0 i = τ 0 i) (h00 : sb 0 0 = 0) (hG : GV sb) (hw : Wlk A B) (hx : CR σ0 A.2.2 σd) (hJ : JR A.2.2.2.2) (hs : FrT sb sd) (hy : Xo B.2.2 sd) (hk : A.1 = 0 ∨ A.1 = 1 ∨ A.1 = 2) (hc : A.1 = 2 ∨ (A.2.1 : Int) < τ 0 23) (h25 : ∀ i, inR (τ 25 i)) : ∃ v σ' s', endC A.1 A.2.1 σd = (v, σ') ∧ endM B.1 B.2.1 sd = some (v, s') ∧ s' 0 0 = 0 ∧ RelF τ σ' s' := by
  obtain ⟨w1, w2, w3, w4⟩ := hw
  have h5 : RS5 σ0 sb := RS5.cong h (fun _ _ => rfl) (fun r r1 r2 => h1 r (by omega) (by omega)) (h2 4 (by decide)) (h2 9 (by decide)) (h2 21 (by decide)) (h2 23 (by decide))
  obtain ⟨v, s', a1, a2, a3, a4, a5⟩ := fin_tree (kind := A.1) (c := A.2.1) h5 hG hx hJ hs hy w3 w4 hk (by rw [h2 23 (by decide)]; exact hc) (fun i => by rw [h1 25 (by omega) (by omega)]; exact h25 i)
  have hr : ∀ r, (1 ≤ r ∧ r ≤ 22) ∨ (40 ≤ r ∧ r ≤ 45) → s' r = τ r := fun r hr => by
    rw [a5.1 r (by simp only [List.mem_cons, List.not_mem_nil, or_false]; omega), h1 r (by omega) (by omega)]
  have h0 : ∀ i, i = 21 ∨ i = 23 ∨ (54 ≤ i ∧ i ≤ 56) → s' 0 i = τ 0 i := fun i hi => by
    rw [a5.2 i (by simp only [List.mem_cons, List.not_mem_nil, or_false]; omega), h2 i (by simp only [List.mem_cons, List.not_mem_nil, or_false]; omega)]
  refine ⟨v, (endC A.1 A.2.1 σd).2, s', ?_, by rw [← w1, ← w2]; exact a1, by rw [a5.2 0 (by decide)]; exact h00, ⟨a3, ?_⟩, fun r r1 r2 => by rw [a5.1 r (by simp only [List.mem_cons, List.not_mem_nil, or_false]; omega), h1 r (by omega) (by omega)]⟩
  · rw [← a2]
  · exact hE.keep (EqP.same (fun r r1 r2 => hr r (by omega)) (h0 21 (by omega)) (h0 23 (by omega))) hW hF hM (fun i hi => a4.2.1 i (by omega)) (fun r hr => a4.1 r (by simp only [List.mem_cons, List.not_mem_nil, or_false]; omega)) (h0 54 (by omega)) (h0 55 (by omega)) (h0 56 (by omega)) (fun r r1 r2 => hr r (by omega))
set_option maxHeartbeats 4000000 in
theorem w_go2 {σ τ : Sg} {a b c e : Int} (h : RelW σ τ) (h25 : ∀ i, inR (τ 25 i)) (he : 0 ≤ e ∧ e ≤ 3) (hg : ∀ k : Nat, (k : Int) < τ 0 21 → vl τ (F_X10_pick k a b c) ∧ τ 4 (F_X10_pick k a b c).toNat = τ 19 k) (htr : ∀ (t : Nat) (m : Bool), (e = 2 ∧ t = 43 ∧ m = false) ∨ (e = 3 ∧ t = 49 ∧ m = true) → (∃ pf S N B, B + 1 ≤ 500 ∧ GD τ σ t m pf S N B) ∧ ∃ pf N, BI τ τ m pf N N) : ∃ v σ' τ', B_X10_run_135 e a b c true σ = some (.inl v, σ') ∧ B_X11_run_221 e a b c 0 τ = some (v, τ') ∧ τ' 0 0 = 0 ∧ RelF τ σ' τ' ∧ RunObs e a b c σ τ v σ' := by
  obtain ⟨hW, hF, hM, hV, hWW⟩ := h.wf
  obtain ⟨sb, s1, s2, s3, s4, s5, s6, s7, s8⟩ := given_m (a := a) (b := b) (c := c) hM.1
  obtain ⟨k1, k2, k3, k4, k5, k6⟩ := h.1
  have hE := h.2
  have hsr : ∀ r, 1 ≤ r → r ≤ 25 → sb r = τ r := fun r r1 r2 => s2 r (by omega) (by omega)
  have c21 := s3 21 (by omega) (by omega) (by omega)
  have c23 := s3 23 (by omega) (by omega) (by omega)
  have c4 := s3 4 (by omega) (by omega) (by omega)
  have c9 := s3 9 (by omega) (by omega) (by omega)
  -- the base, with what the plain run sets or without
  have hbase : ∀ w : Sg, (∀ r, ¬ r = 0 → w r = sb r) → (∀ i, ¬ i = 40 → w 0 i = sb 0 i) → (∀ r, ¬ r = 0 → ¬ r = 35 → w r = τ r) ∧ (∀ i, i ∉ [0, 40, 47, 48] → w 0 i = τ 0 i) ∧ w 0 0 = 0 ∧ GV w ∧ (∀ σ2, RK σ2 τ → RV σ2 τ → RP σ2 τ → RW σ2 τ → RM σ2 τ → CtxC σ2 w) ∧ CtxT w ∧ EqP τ w ∧ ∀ σ2, CR (F_X1_start a b c σ2) ((fun _ => -1), 0, []) (F_X1_start a b c σ2) ∧ FC w (F_X1_start a b c σ2) ∧ ∀ r, r ∉ [27, 28, 29, 31] → F_X1_start a b c σ2 r = σ2 r := fun w w1 w2 => by
    have e1 : ∀ r, ¬ r = 0 → ¬ r = 35 → w r = τ r := fun r r0 r1 => by rw [w1 r r0, s2 r r0 r1]
    have e2 : ∀ i, i ∉ [0, 40, 47, 48] → w 0 i = τ 0 i := fun i hi => by
      simp only [List.mem_cons, List.not_mem_nil, or_false, not_or] at hi
      rw [w2 i (by omega), s3 i (by omega) (by omega) (by omega)]
    have d21 := e2 21 (by decide)
    have d23 := e2 23 (by decide)
    have d4 := e2 4 (by decide)
    have d9 := e2 9 (by decide)
    have hGw : GV w := fun k hk => by
      rw [d21] at hk
      obtain ⟨⟨g1, g2⟩, g3⟩ := hg k hk
      rw [w1 35 (by omega), s7 k hk, d4, e1 4 (by omega) (by omega), e1 19 (by omega) (by omega)]
      exact ⟨g1, g2, g3⟩
    have hc : ∀ σ2, RK σ2 τ → RV σ2 τ → RP σ2 τ → RW σ2 τ → RM σ2 τ → CtxC σ2 w := fun σ2 r1 r2 r3 r4 r5 => by
      obtain ⟨q1, q2, q3, q4, q5⟩ := RS5.cong (σ' := σ2) (τ' := w) ⟨r1, r2, r3, r4, r5⟩ (fun _ _ => rfl) (fun r g1 g2 => e1 r (by omega) (by omega)) d4 d9 d21 d23
      exact ⟨q1, q2, q3, q4, q5, hGw⟩
    have hc0 := hc σ k1 k2 k3 k4 k5
    refine ⟨e1, e2, by rw [w2 0 (by omega)]; exact s4, hGw, hc, ⟨hc0.1.2.2.2, hc0.2.1.2.1, hc0.2.2.1.2.1, hc0.2.2.2.2.1.2.2.2.1, WFW_of hc0.2.2.2.1, hGw⟩, EqP.same (fun r r1 r2 => e1 r (by omega) (by omega)) d21 d23, fun σ2 => start_k (by rw [d21]; exact hM.1) (fun k hk => ?_) (fun k hk => ?_)⟩
    · rw [d21] at hk
      rw [e1 19 (by omega) (by omega)]
      exact (hM.2.2.1 k hk).1
    · rw [d21] at hk
      rw [w1 35 (by omega), s7 k hk]
      exact ⟨rfl, (hg k hk).1.1⟩
  have hwok : ∀ w : Sg, (∀ r, ¬ r = 0 → w r = sb r) → (∀ i, ¬ i = 40 → w 0 i = sb 0 i) → WOK τ a b c w := fun w w1 w2 => ⟨fun r r1 r2 => by rw [w1 r (by omega), hsr r r1 r2], fun i hi => by rw [w2 i (by omega), s3 i (by omega) (by omega) (by omega)], fun k hk => by rw [w1 35 (by omega), s7 k hk], fun k hk => by rw [w1 35 (by omega), s8 k hk]⟩
  have hy : Xo (sb 33, 0, []) sb := ⟨fun _ _ => rfl, s5, by show inR 0; unfold inR; omega, s6, trivial⟩
  have hJ0 : JR ([] : List (Int × Int × Int)) := ⟨trivial, fun e he => by cases he⟩
  -- the class from its start
  obtain ⟨σg, hσg⟩ : ∃ σg, σg = F_X1_start a b c σ := ⟨_, rfl⟩
  have hgr : ∀ r, r ∉ [27, 28, 29, 31] → σg r = σ r := by
    rw [hσg]
    exact ((hbase sb (fun _ _ => rfl) (fun _ _ => rfl)).2.2.2.2.2.2.2 σ).2.2
  have hrel : ∀ σ2 : Sg, (∀ r, r ≤ 26 → σ2 r = σ r) → RK σ2 τ ∧ RV σ2 τ ∧ RP σ2 τ ∧ RW σ2 τ ∧ RM σ2 τ := fun σ2 q => RS5.cong ⟨k1, k2, k3, k4, k5⟩ q (fun _ _ _ => rfl) rfl rfl rfl rfl
  have eqr : EqP τ τ := EqP.same (fun _ _ _ => rfl) rfl rfl
  have hgr' : ∀ r, r ≤ 26 ∨ 32 ≤ r ∨ r = 30 → σg r = σ r := fun r hr => hgr r (by simp only [List.mem_cons, List.not_mem_nil, or_false]; omega)
  have hEg : EN σg τ := hE.keep eqr hW hF hM (fun i _ => by rw [hgr' 33 (by omega)]) (fun r hr => hgr' r (by omega)) rfl rfl rfl (fun _ _ _ => rfl)
  unfold B_X10_run_135
  rw [if_pos rfl, bnd_eq, ← hσg]
  by_cases e01 : e = 0 ∨ e = 1
  · rw [s1 e, if_pos (show e < 2 by omega)]
    obtain ⟨w, hw⟩ : ∃ w, w = up2 sb 0 40 1 := ⟨_, rfl⟩
    have hwk := hwok w (fun r hr => by rw [hw]; funext i; rw [up2_row hr]) (fun i hi => by rw [hw, up2_idx hi])
    have hout : outR w e = plS w (w 0 23).toNat 0 ((fun _ => -1), 0, []) := by unfold outR; rw [if_pos (show e < 2 by omega)]; rfl
    obtain ⟨b1, b2, b3, b4, b5, b6, b7, b8⟩ := hbase w (fun r hr => by rw [hw]; funext i; rw [up2_row hr]) (fun i hi => by rw [hw, up2_idx hi])
    obtain ⟨c1, c2, -⟩ := b8 σ
    rw [← hσg] at c1 c2
    obtain ⟨sd, d1, d2, d3⟩ := runPlain_w (sb := sb) (by rw [← hw]; exact b6) hy rfl
    rw [← hw] at d1 d2 d3
    have hwl := plS_x (τ := w) (d := (w 0 23).toNat) (c := 0) (x := ((fun _ => -1), 0, [])) (y := (sb 33, 0, [])) rfl
    have hwM : WFM w := b6.2.2.2.1
    have hend : ∀ (σ2 σd : Sg), RS5 σ2 τ → EN σ2 τ → CR σ2 (plS w (w 0 23).toNat 0 ((fun _ => -1), 0, [])).2.2 σd → JR (plS w (w 0 23).toNat 0 ((fun _ => -1), 0, [])).2.2.2.2 → CR σ2 ((fun _ => -1), 0, []) σ2 → FC w σ2 → ∃ v σ' s', endC (plS w (w 0 23).toNat 0 ((fun _ => -1), 0, [])).1 (plS w (w 0 23).toNat 0 ((fun _ => -1), 0, [])).2.1 σd = (v, σ') ∧ F_X11_runPlain sb = some (v, s') ∧ s' 0 0 = 0 ∧ RelF τ σ' s' := fun σ2 σd r1 r2 r3 r4 r5 r6 => by
      obtain ⟨-, -, -, -, p1, p2⟩ := plain_cl (b5 σ2 r1.1 r1.2.1 r1.2.2.1 r1.2.2.2.1 r1.2.2.2.2) r5 hJ0 r6
      obtain ⟨v, σ', s', q1, q2, q3, q4⟩ := run_fin2 hW hF hM r1 r2 b1 b2 b3 b4 hwl r3 r4 d1 d2 p1 (by rw [← b7.c23]; exact p2) h25
      exact ⟨v, σ', s', q1, by rw [d3]; exact q2, q3, q4⟩
    have hCg := b5 σg (hrel σg (fun r hr => hgr' r (by omega))).1 (hrel σg (fun r hr => hgr' r (by omega))).2.1 (hrel σg (fun r hr => hgr' r (by omega))).2.2.1 (hrel σg (fun r hr => hgr' r (by omega))).2.2.2.1 (hrel σg (fun r hr => hgr' r (by omega))).2.2.2.2
    have hkind := plain_cl hCg c1 hJ0 c2
    obtain ⟨-, -, -, -, kd1, kd2⟩ := hkind
    have hobs : ∀ (σ2 σd σ' : Sg) (v : Int), (∀ r, r ≤ 26 → σ2 r = σ r) → CR σ2 (plS w (w 0 23).toNat 0 ((fun _ => -1), 0, [])).2.2 σd → JR (plS w (w 0 23).toNat 0 ((fun _ => -1), 0, [])).2.2.2.2 → endC (plS w (w 0 23).toNat 0 ((fun _ => -1), 0, [])).1 (plS w (w 0 23).toNat 0 ((fun _ => -1), 0, [])).2.1 σd = (v, σ') → RunObs e a b c σ τ v σ' := fun σ2 σd σ' v o1 o2 o3 o4 => ⟨w, σ2, σd, hwk, b6, o1, by rw [hout]; exact o2, by rw [hout]; exact o4, by rw [hout]; exact o3, by rw [hout]; exact kd1, by rw [hout, ← b7.c23]; exact kd2, fun z => by omega⟩
    by_cases e0 : e = 0
    · rw [if_pos e0]
      obtain ⟨σd, p1, p2, p3, -, -⟩ := plain_cl hCg c1 hJ0 c2
      obtain ⟨v, σ', s', q1, q2, q3, q4⟩ := hend σg σd (hrel σg (fun r hr => hgr' r (by omega))) hEg p2 p3 c1 c2
      refine ⟨v, σ', s', ?_, q2, q3, q4, hobs σg σd σ' v (fun r hr => hgr' r (by omega)) p2 p3 q1⟩
      rw [p1, q1]
      rfl
    · rw [if_neg e0, if_pos (show e = 1 by omega)]
      have hauto : ∀ σ2 : Sg, (∀ r, r ≤ 32 → σ2 r = σg r) → EN σ2 τ → AUT w σ2 → ∃ v σ' s', (B_X0_decide_16 σ2).bind (fun q18 => some ((.inl q18.1 : Int ⊕ Nat), q18.2)) = some (.inl v, σ') ∧ F_X11_runPlain sb = some (v, s') ∧ s' 0 0 = 0 ∧ RelF τ σ' s' ∧ RunObs e a b c σ τ v σ' := fun σ2 u1 u2 u3 => by
        have r1 := hrel σ2 (fun r hr => by rw [u1 r (by omega), hgr' r (by omega)])
        have hx2 : CR σ2 ((fun _ => -1), 0, []) σ2 := ⟨⟨fun _ _ => rfl, fun _ _ => rfl⟩, fun i hi => by rw [u1 31 (by omega)]; exact c1.2.1 i hi, by rw [u1 27 (by omega)]; exact c1.2.2.1, by rw [u1 27 (by omega)]; exact c1.2.2.2.1, trivial, c1.2.2.2.2.2.congr (u1 29 (by omega))⟩
        have hf2 : FC w σ2 := c2.mono (Fmono.row (u1 28 (by omega)))
        obtain ⟨σd, p1, p2, p3⟩ := auto_cl (b5 σ2 r1.1 r1.2.1 r1.2.2.1 r1.2.2.2.1 r1.2.2.2.2) u3 hx2 hJ0 hf2
        obtain ⟨v, σ', s', q1, q2, q3, q4⟩ := hend σ2 σd r1 u2 p2 p3 hx2 hf2
        refine ⟨v, σ', s', ?_, q2, q3, q4, hobs σ2 σd σ' v (fun r hr => by rw [u1 r (by omega), hgr' r (by omega)]) p2 p3 q1⟩
        rw [p1, q1]
        rfl
      unfold F_X0_decide
      by_cases g : σg 33 3 = 0
      · rw [if_pos g]
        obtain ⟨σ2, m1, m2, m3, m4⟩ := compile_c b6.1 (σ := σg) (τ := w) hCg.2.2.1 hCg.2.2.2.2.1
        rw [m1, Option.bind_some, bnd_eq]
        have hr3 : ∀ r, ¬ r = 33 → (up2 σ2 33 3 1) r = σ2 r := fun r hr => by funext i; rw [up2_row hr]
        have hA : AUT w (up2 σ2 33 3 1) := m2.keep (EqP.same (fun _ _ _ => rfl) rfl rfl) b6.2.2.1 b6.1 hwM (up2_idx (by omega)) (hr3 34 (by omega)) (hr3 35 (by omega))
        have hr4 : ∀ r, r ≤ 32 ∨ 36 ≤ r → (up2 σ2 33 3 1) r = σg r := fun r hr => by rw [hr3 r (by omega), m3 r (by simp only [List.mem_cons, List.not_mem_nil, or_false]; omega)]
        obtain ⟨z1, z2, z3, z4, z5⟩ := hEg
        refine hauto _ (fun r hr => hr4 r (by omega)) ⟨fun y y1 y2 => by rw [hr4 42 (by omega)]; exact z1 y y1 y2, z2.keep eqr hW hM (fun r r1 r2 => hr4 r (by omega)), z3.keep eqr hW hM (fun r r1 r2 => hr4 r (by omega)), Or.inr ?_, z5⟩ hA
        exact hA.keep (EqP.same (fun r r1 r2 => (b1 r (by omega) (by omega)).symm) b7.c21.symm b7.c23.symm) b6.2.2.1 b6.1 hwM rfl rfl rfl
      · rw [if_neg g]
        refine hauto σg (fun _ _ => rfl) hEg ?_
        rcases hEg.2.2.2.1 with q | q
        · exact absurd q g
        · exact q.keep b7 hW hF hM rfl rfl rfl
  · rw [s1 e, if_neg (show ¬ e < 2 by omega), if_neg (show ¬ e = 0 by omega), if_neg (show ¬ e = 1 by omega)]
    obtain ⟨b1, b2, b3, b4, b5, b6, b7, b8⟩ := hbase sb (fun _ _ => rfl) (fun _ _ => rfl)
    obtain ⟨c1, c2, -⟩ := b8 σ
    rw [← hσg] at c1 c2
    have r1 := hrel σg (fun r hr => hgr' r (by omega))
    have htree : ∀ (t : Nat) (m : Bool), (e = 2 ∧ t = 43 ∧ m = false) ∨ (e = 3 ∧ t = 49 ∧ m = true) → ∃ v σ' s', (F_X7_decide t σg).bind (fun q18 => some ((.inl q18.1 : Int ⊕ Nat), q18.2)) = some (.inl v, σ') ∧ F_X11_runTree sb = some (v, s') ∧ s' 0 0 = 0 ∧ RelF τ σ' s' ∧ RunObs e a b c σ τ v σ' := fun t m htm => by
      have hout : outR sb e = wk sb m 500 [] ((fun _ => -1), 0, []) := by
        unfold outR
        rw [if_neg (by omega)]
        rcases htm with ⟨q1, -, q2⟩ | ⟨q1, -, q2⟩
        · rw [q2, decide_eq_false (by omega)]; rfl
        · rw [q2, decide_eq_true q1]; rfl
      obtain ⟨⟨pf, S, N, B, hB, hD⟩, pf', N', hBI⟩ := htr t m htm
      have hDg : GD sb σg t m pf S N B := by
        have q := hD.eqp b7 hW hM
        exact ⟨q.1.fr (fun r r1 r2 => hgr' r (by omega)), q.2⟩
      have hBs : BI sb sb m pf' N' N' := (b7.bi hW hM hBI).fr (s3 56 (by omega) (by omega) (by omega)) (fun r r1 r2 => s2 r (by omega) (by omega))
      obtain ⟨σd, p1, p2, p3, p4, p5⟩ := decide_t (b5 σg r1.1 r1.2.1 r1.2.2.1 r1.2.2.2.1 r1.2.2.2.2) (by omega) hDg hB c1 rfl c2
      obtain ⟨sd, d1, d2, d3⟩ := runTree_m b6 hBs hy rfl
      obtain ⟨v, σ', s', q1, q2, q3, q4⟩ := run_fin2 hW hF hM r1 hEg b1 b2 b3 b4 (wk_x 500 [] ((fun _ => -1), 0, []) (sb 33, 0, []) rfl) p2 p3 d1 d2 p4 (by rw [← b7.c23]; exact p5) h25
      refine ⟨v, σ', s', ?_, by rw [d3]; exact q2, q3, q4, sb, σg, σd, hwok sb (fun _ _ => rfl) (fun _ _ => rfl), b6, fun r hr => hgr' r (by omega), by rw [hout]; exact p2, by rw [hout]; exact q1, by rw [hout]; exact p3, by rw [hout]; exact p4, by rw [hout, ← b7.c23]; exact p5, fun _ P hP => by
        obtain ⟨n, n1, n2⟩ := ap_len hBs P (by
          rcases htm with ⟨q1, -, q2⟩ | ⟨q1, -, q2⟩
          · rw [q2]; rw [decide_eq_false (by omega)] at hP; exact hP
          · rw [q2]; rw [decide_eq_true q1] at hP; exact hP)
        have l1 := hBs.len n n (Nat.le_refl _) n1
        have l2 := hBs.n500
        rw [n2] at l1
        omega⟩
      rw [p1, q1]
      rfl
    by_cases e3 : e = 3
    · rw [if_pos e3]
      exact htree 49 true (Or.inr ⟨e3, rfl, rfl⟩)
    · rw [if_neg e3]
      exact htree 43 false (Or.inl ⟨by omega, rfl, rfl⟩)

section RUN2
variable {σ τ : Sg} {e a b c : Int}
theorem run_lo2 (h : RelW σ τ) (ht : inRt τ) (he : 0 ≤ e ∧ e < 2) (hv : FitV τ a b c) (hk : FitK τ a b c) (h0 : ¬ τ 0 21 ≤ 0) : ∃ v σ' τ', F_X10_run e a b c σ = some (.inl v, σ') ∧ B_X11_run_221 e a b c 0 τ = some (v, τ') ∧ RelF τ σ' τ' ∧ RunObs e a b c σ τ v σ' := by
  rw [run_in h ⟨he.1, by omega⟩ hv hk, if_pos ((isThere4 h.1.2.2.2.2.1).mpr h0), if_pos he.2]
  obtain ⟨v, σ', τ', q1, q2, q3, q4, q5⟩ := w_go2 h ht.2 ⟨he.1, by omega⟩ (fit_g hv hk h.wf.2.2.1) (fun t m q => by omega)
  exact ⟨v, σ', τ', q1, q2, q4, q5⟩
theorem run_tr2 {t : Nat} {m : Bool} (h : RelW σ τ) (ht : inRt τ) (htm : (e = 2 ∧ t = 43 ∧ m = false) ∨ (e = 3 ∧ t = 49 ∧ m = true)) (hv : FitV τ a b c) (hk : FitK τ a b c) (h0 : ¬ τ 0 21 ≤ 0) : ∃ σg s', F_X7_grow t σ = some (decide (σg t 3 = 0), σg) ∧ RelW σg τ ∧ FrG t σ σg ∧ F_X11_build e τ = some s' ∧
    ((¬ s' 0 55 = 0 ∧ ¬ σg t 3 = 0 ∧ F_X10_run e a b c σ = some (.inr 2, σg)) ∨ (s' 0 55 = 0 ∧ σg t 3 = 0 ∧ ∃ v σ' τ', F_X10_run e a b c σ = some (.inl v, σ') ∧ B_X11_run_221 e a b c 0 s' = some (v, τ') ∧ RelF s' σ' τ' ∧ RunObs e a b c σg s' v σ' ∧ (∀ r, 1 ≤ r → r ≤ 25 → s' r = τ r) ∧ s' 35 = τ 35 ∧ ∀ i, i = 4 ∨ i = 9 ∨ i = 21 ∨ i = 23 → s' 0 i = τ 0 i)) := by
  have htm' : (t = 43 ∧ m = false) ∨ (t = 49 ∧ m = true) := htm.imp And.right And.right
  obtain ⟨hW, hF, hM, hV, hWW⟩ := h.wf
  have he : 0 ≤ e ∧ e ≤ 3 := by omega
  obtain ⟨σg, u1, u2, u3, u4, u5, -⟩ := w_grow h htm'
  obtain ⟨s', v1, v2, v3, v4, v5, v6⟩ := w_build u2 ht (e := e) (m := m) (by
    rcases htm with ⟨q, -, q2⟩ | ⟨q, -, q2⟩
    · rw [q2, if_neg (by decide), q]
    · rw [q2, if_pos rfl, q])
  have w21 := v6 21 (by decide)
  have w4 := v6 4 (by decide)
  obtain ⟨hWs, hFs, hMs, hVs, hWWs⟩ := v2.wf
  have hrun : F_X10_run e a b c σ = if σg t 3 = 0 then B_X10_run_130 e a b c σg else B_X10_run_135 e a b c false σg := by
    rw [run_in h he hv hk, if_pos ((isThere4 h.1.2.2.2.2.1).mpr h0), if_neg (by omega)]
    rcases htm with ⟨q1, q2, q3⟩ | ⟨q1, q2, q3⟩
    · subst q2
      rw [if_neg (by omega), u1, Option.bind_some]
      by_cases z : σg 43 3 = 0
      · rw [if_pos z, if_pos (decide_eq_true z)]
      · rw [if_neg z, if_neg (fun q => z (of_decide_eq_true q))]
    · subst q2
      rw [if_pos q1, u1, Option.bind_some]
      by_cases z : σg 49 3 = 0
      · rw [if_pos z, if_pos (decide_eq_true z)]
      · rw [if_neg z, if_neg (fun q => z (of_decide_eq_true q))]
  refine ⟨σg, s', u1, u2, u3, v1, ?_⟩
  rcases trees_l hW hM hWs hMs (EqP.same (fun r r1 r2 => v4 r (by omega) (by omega)) w21 (v6 23 (by decide))) u5 v3 with ⟨t1, t2, t3, t4⟩ | ⟨t1, t2, t3⟩
  · obtain ⟨v, σ2, τ2, q1, q2, q3, q4, q5⟩ := w_go2 v2 (a := a) (b := b) (c := c) (e := e) (fun i => by rw [v4 25 (by omega) (by omega)]; exact ht.2 i) he (fun k hk2 => by
      rw [w21] at hk2
      obtain ⟨⟨z1, z2⟩, z3⟩ := fit_g hv hk hM k hk2
      rw [v4 4 (by omega) (by omega), v4 19 (by omega) (by omega)]
      exact ⟨⟨z1, by rw [w4]; exact z2⟩, z3⟩) (fun t' m' q => by
        have e1 : t' = t := by omega
        have e2 : m' = m := by
          rcases q with q | q
          · rcases htm with z | z
            · rw [q.2.2, z.2.2]
            · omega
          · rcases htm with z | z
            · omega
            · rw [q.2.2, z.2.2]
        rw [e1, e2]
        exact ⟨t3, t4⟩)
    refine Or.inr ⟨t2, t1, v, σ2, τ2, ?_, q2, q4, q5, v4, v5, fun i hi => v6 i (by simp only [List.mem_cons, List.not_mem_nil, or_false]; omega)⟩
    rw [hrun, if_pos t1]
    exact q1
  · refine Or.inl ⟨by omega, by omega, ?_⟩
    rw [hrun, if_neg (by omega)]
    unfold B_X10_run_135
    rw [if_neg (by decide)]
end RUN2
/-- an account before a run: the counts in range, nothing given outside -/
def nrm (τ : Sg) : Sg := fun r i => if r = 25 then wrap (τ 25 i) else if r = 35 then 0 else τ r i
theorem nrm_r {τ : Sg} {r : Nat} (h1 : ¬ r = 25) (h2 : ¬ r = 35) : nrm τ r = τ r := by
  funext i
  show (if r = 25 then wrap (τ 25 i) else if r = 35 then 0 else τ r i) = τ r i
  rw [if_neg h1, if_neg h2]
def Qr (σ : Sg) : Prop := inR (σ 27 3) ∧ ∀ d : Nat, d < 8 → inR (σ 26 (8 * d + 7))
theorem nrm_ok {σ τ : Sg} (h : RelW σ τ) (hq : Qr σ) : RelW σ (nrm τ) ∧ inRt (nrm τ) := by
  have ht : ∀ r, ¬ r = 25 → ¬ r = 35 → nrm τ r = τ r := fun r h1 h2 => nrm_r h1 h2
  have hm := h.1.2.2.2.2.1
  have h8 := hm.2.2.2.1.2.1
  have h25 : ∀ c : Nat, (c : Int) < τ 0 23 → nrm τ 25 c = τ 25 c := fun c hc => by
    show (if 25 = 25 then wrap (τ 25 c) else if 25 = 35 then 0 else τ 25 c) = τ 25 c
    rw [if_pos rfl]
    have m := (hm.2.2.2.2 c hc).2.2.2.2
    have := hq.2 c (by omega)
    rw [m] at this
    exact wrap_id this.1 this.2
  refine ⟨?_, ?_, fun i => ?_⟩
  · obtain ⟨hW, hF, hM, hV, hWW⟩ := h.wf
    obtain ⟨⟨k1, k2, k3, k4, k5, k6⟩, hE⟩ := h
    have e0 : nrm τ 0 = τ 0 := ht 0 (by omega) (by omega)
    have hK : ExtK τ (nrm τ) := ExtK.same (fun r r1 r2 => ht r (by omega) (by omega))
    have hP : ExtP τ (nrm τ) := ExtP.cong (fun r r1 r2 => ht r (by omega) (by omega)) (by rw [e0])
    have k5' : RM σ (nrm τ) := by
      obtain ⟨m1, m2, m3, m4, m5⟩ := k5
      refine ⟨by rw [e0]; exact m1, by rw [e0]; exact m2, fun k hk => by rw [ht 19 (by omega) (by omega)]; exact m3 k hk, WFM.mono hW m4 hK hP (fun r r1 r2 => ht r (by omega) (by omega)) (by rw [e0]) (by rw [e0]), fun c hc => ?_⟩
      rw [e0] at hc
      have m6 := m5 c hc
      unfold RM1 cpt at m6 ⊢
      rw [ht 20 (by omega) (by omega), ht 21 (by omega) (by omega), ht 22 (by omega) (by omega), ht 23 (by omega) (by omega), ht 24 (by omega) (by omega), h25 c hc]
      exact m6
    refine ⟨⟨k1.cong (fun _ _ _ => rfl) (fun r r1 r2 => ht r (by omega) (by omega)), k2.cong hF hK (fun _ _ _ => rfl) (fun r r1 r2 => ht r (by omega) (by omega)) (by rw [e0]), k3.cong hF hK (fun _ _ _ => rfl) (fun r r1 r2 => ht r (by omega) (by omega)) (by rw [e0]), k4.cong rfl (ht 18 (by omega) (by omega)), k5', k6.cong rfl rfl rfl (fun r r1 r2 => ht r (by omega) (by omega)) (by rw [e0]) (by rw [e0]) (by rw [e0])⟩, ?_⟩
    exact hE.keep (EqP.same (fun r r1 r2 => ht r (by omega) (by omega)) (by rw [e0]) (by rw [e0])) hW hF hM (fun _ _ => rfl) (fun _ _ => rfl) (by rw [e0]) (by rw [e0]) (by rw [e0]) (fun r r1 r2 => ht r (by omega) (by omega))
  · rw [nrm_r (by omega) (by omega), ← h.1.2.2.2.2.2.1]
    exact hq.1
  · show inR (if 25 = 25 then wrap (τ 25 i) else if 25 = 35 then 0 else τ 25 i)
    rw [if_pos rfl]
    exact wrap_in _
theorem Seen.qr {σ p : Sg} {kind : Int} {c : Nat} {x : XS} {v : Int} (h : Seen σ kind c x v p) (hx : inR x.2.1) (hq : Qr σ) : Qr p := by
  obtain ⟨h1, -, -, -, h5, -⟩ := h
  refine ⟨by rw [h1]; exact hx, fun d hd => ?_⟩
  rw [h5 d hd]
  split
  · exact wrap_in _
  · exact hq.2 d hd
