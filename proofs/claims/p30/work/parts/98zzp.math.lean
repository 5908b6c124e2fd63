/-! what is asked of a tree: both sides grow it -/
theorem RelW.tau2 {σ τ τ' : Sg} (h : RelW σ τ) (ht : ∀ r, ¬ r = 0 → ¬ r = 26 → ¬ r = 27 → ¬ r = 46 → τ' r = τ r) (h0 : ∀ i, ¬ i = 0 → ¬ i = 40 → ¬ i = 41 → τ' 0 i = τ 0 i) : RelW σ τ' := by
  obtain ⟨hW, hF, hM, hV, hWW⟩ := h.wf
  obtain ⟨⟨k1, k2, k3, k4, k5, k6⟩, hE⟩ := h
  have hr : ∀ r, (1 ≤ r ∧ r ≤ 25) ∨ (28 ≤ r ∧ r ≤ 45) → τ' r = τ r := fun r hr => ht r (by omega) (by omega) (by omega) (by omega)
  have hi : ∀ i, (1 ≤ i ∧ i ≤ 39) ∨ 42 ≤ i → τ' 0 i = τ 0 i := fun i hi => h0 i (by omega) (by omega) (by omega)
  have hK : ExtK τ τ' := ExtK.same (fun r r1 r2 => hr r (by omega))
  refine ⟨⟨k1.cong (fun _ _ _ => rfl) (fun r r1 r2 => hr r (by omega)), k2.cong hF hK (fun _ _ _ => rfl) (fun r r1 r2 => hr r (by omega)) (hi 4 (by omega)), k3.cong hF hK (fun _ _ _ => rfl) (fun r r1 r2 => hr r (by omega)) (hi 9 (by omega)), k4.cong rfl (hr 18 (by omega)), k5.mono hW hK (ExtP.cong (fun r r1 r2 => hr r (by omega)) (hi 9 (by omega))) (fun _ _ _ => rfl) (fun r r1 r2 => hr r (by omega)) (hi 21 (by omega)) (hi 23 (by omega)), k6.cong rfl rfl rfl (fun r r1 r2 => hr r (by omega)) (hi 47 (by omega)) (hi 48 (by omega)) (hi 52 (by omega))⟩, ?_⟩
  exact hE.keep (EqP.same (fun r r1 r2 => hr r (by omega)) (hi 21 (by omega)) (hi 23 (by omega))) hW hF hM (fun _ _ => rfl) (fun _ _ => rfl) (hi 54 (by omega)) (hi 55 (by omega)) (hi 56 (by omega)) (fun r r1 r2 => hr r (by omega))
/-- only the one tree changes -/
theorem RelW.tree {σ σ' τ : Sg} {t : Nat} {m : Bool} (h : RelW σ τ) (htm : (t = 43 ∧ m = false) ∨ (t = 49 ∧ m = true)) (hr : ∀ r, ¬ (t ≤ r ∧ r ≤ t + 5) → σ' r = σ r) (hec : EC τ σ' t m) : RelW σ' τ := by
  obtain ⟨hW, hF, hM, hV, hWW⟩ := h.wf
  obtain ⟨⟨k1, k2, k3, k4, k5, k6⟩, z, e1, e2, e3, e4⟩ := h
  have hr' : ∀ r, r ≤ 42 → σ' r = σ r := fun r hh => hr r (by omega)
  have hK : ExtK τ τ := ExtK.same (fun _ _ _ => rfl)
  have eq : EqP τ τ := EqP.same (fun _ _ _ => rfl) rfl rfl
  refine ⟨⟨k1.cong (fun r _ _ => hr' r (by omega)) (fun _ _ _ => rfl), k2.cong hF hK (fun r _ _ => hr' r (by omega)) (fun _ _ _ => rfl) rfl, k3.cong hF hK (fun r _ _ => hr' r (by omega)) (fun _ _ _ => rfl) rfl, k4.cong (hr' 23 (by omega)) rfl, k5.mono hW hK (ExtP.cong (fun _ _ _ => rfl) rfl) (fun r r1 r2 => hr' r (by omega)) (fun _ _ _ => rfl) rfl rfl, k6.cong (hr' 27 (by omega)) (hr' 30 (by omega)) (hr' 31 (by omega)) (fun _ _ _ => rfl) rfl rfl rfl⟩, fun y y1 y2 => by rw [hr' 42 (by omega)]; exact z y y1 y2, ?_, ?_, ?_, e4⟩
  · rcases htm with ⟨rfl, rfl⟩ | ⟨rfl, rfl⟩
    · exact hec
    · exact e1.keep eq hW hM (fun r r1 r2 => hr r (by omega))
  · rcases htm with ⟨rfl, rfl⟩ | ⟨rfl, rfl⟩
    · exact e2.keep eq hW hM (fun r r1 r2 => hr r (by omega))
    · exact hec
  · rcases e3 with e3 | e3
    · exact Or.inl (by rw [hr' 33 (by omega)]; exact e3)
    · exact Or.inr (e3.keep eq hW hF hM (by rw [hr' 33 (by omega)]) (hr' 34 (by omega)) (hr' 35 (by omega)))
theorem inRt_up {τ : Sg} {v : Int} (h : inRt τ) : inRt (up2 τ 0 0 v) := ⟨by rw [up2_idx (by omega)]; exact h.1, fun i => by rw [up2_row (by omega)]; exact h.2 i⟩
/-- both trees, grown -/
theorem w_both {σ τ : Sg} {t : Nat} {m : Bool} {e : Int} (h : RelW σ τ) (ht : inRt τ) (htm : (e = 2 ∧ t = 43 ∧ m = false) ∨ (e = 3 ∧ t = 49 ∧ m = true)) : ∃ σ' s', F_X7_grow t σ = some (decide (σ' t 3 = 0), σ') ∧ F_X11_build e τ = some s' ∧ RelW σ' s' ∧ (∀ i, i = 0 ∨ i = 21 ∨ i = 23 → s' 0 i = τ 0 i) ∧ ((σ' t 3 = 0 ∧ s' 0 55 = 0 ∧ (∃ pf S N B, B + 1 ≤ 500 ∧ GD s' σ' t m pf S N B) ∧ ∃ pf N, BI s' s' m pf N N) ∨ (σ' t 3 = 1 ∧ s' 0 55 = 1 ∧ 0 ≤ s' 0 56 ∧ s' 0 56 ≤ 500)) ∧ (σ' t 6 = -1 ∨ ∃ K : Nat, σ' t 6 = K ∧ ShOK s' m K) := by
  obtain ⟨hW, hF, hM, hV, hWW⟩ := h.wf
  obtain ⟨σ', u1, u2, u3, u4, u5, u6⟩ := w_grow h (t := t) (m := m) (htm.imp And.right And.right)
  obtain ⟨s', v1, v2, v3, v4, v5, v6⟩ := w_build u2 ht (e := e) (m := m) (by
    rcases htm with ⟨q, -, q2⟩ | ⟨q, -, q2⟩
    · rw [q2, if_neg (by decide), q]
    · rw [q2, if_pos rfl, q])
  obtain ⟨hWs, hFs, hMs, hVs, hWWs⟩ := v2.wf
  have eq : EqP τ s' := EqP.same (fun r r1 r2 => v4 r (by omega) (by omega)) (v6 21 (by decide)) (v6 23 (by decide))
  refine ⟨σ', s', u1, v1, v2, fun i hi => v6 i (by simp only [List.mem_cons, List.not_mem_nil, or_false]; omega), ?_, ?_⟩
  · rcases trees_l hW hM hWs hMs eq u5 v3 with q | ⟨q1, q2, q3, q4⟩
    · exact Or.inl q
    · exact Or.inr ⟨q1, q2, q4⟩
  · rcases u6 with q | ⟨K, q1, q2⟩
    · exact Or.inl q
    · exact Or.inr ⟨K, q1, q2.eqp eq hW hM⟩
theorem isThere4 {σ τ : Sg} (h : RM σ τ) : F_X4_isThere σ = true ↔ ¬ τ 0 21 ≤ 0 := by
  unfold F_X4_isThere
  rw [h.1]
  by_cases g : τ 0 21 ≤ 0
  · rw [if_pos g]
    exact ⟨fun q => (by cases q), fun q => absurd g q⟩
  · rw [if_neg g]
    exact ⟨fun _ => g, fun _ => rfl⟩
/-- the nodes shared: the class's tree -/
theorem w_shared {σ s : Sg} {t : Nat} {m : Bool} {pf : Nat → Pth} {S : Nat → Nat} {N B : Nat} (h : RelW σ s) (htm : (t = 43 ∧ m = false) ∨ (t = 49 ∧ m = true)) (h3 : σ t 3 = 0) (hB : B + 1 ≤ 500) (hD : GD s σ t m pf S N B) (h6 : σ t 6 = -1 ∨ ∃ K : Nat, σ t 6 = K ∧ ShOK s m K) : ∃ (K : Nat) (σ' : Sg), F_X7_sharedCount t σ = some ((K : Int), σ') ∧ ShOK s m K ∧ RelW σ' s := by
  obtain ⟨hW, hF, hM, hV, hWW⟩ := h.wf
  obtain ⟨K, σ', a1, a2, a3, a4⟩ := shared_c hD (by omega) (fun n hn => by
    have q := qry_ok hW hF hM hWW (hD.1.ap n hn)
    exact ⟨q.1, q.2.1⟩) h6
  have hec : EC s σ t m := by
    rcases htm with ⟨rfl, rfl⟩ | ⟨rfl, rfl⟩
    · exact h.2.2.1
    · exact h.2.2.2.1
  have c : ∀ i, ¬ i = 6 → σ' t i = σ t i := fun i hi => a4 t i (by omega) (by omega)
  refine ⟨K, σ', a1, a2, h.tree htm (fun r hr => ?_) ⟨by rw [c 2 (by omega)]; exact hec.1, Or.inr ⟨?_, Or.inl ⟨by rw [c 3 (by omega)]; exact h3, pf, S, N, B, hB, hD.fr6 a4⟩, Or.inr ⟨K, a3, a2⟩⟩⟩⟩
  · funext i
    exact a4 r i (by omega) (by omega)
  · rw [c 4 (by omega), hD.1.n4]
    have := hD.1.pos
    omega
set_option maxHeartbeats 4000000 in
theorem w_size : Op_size RelW := fun σ τ e b h _ hs ht => by
  obtain ⟨hW, hF, hM, hV, hWW⟩ := h.wf
  have hM1 := hM.1
  have hi := isThere4 h.1.2.2.2.2.1
  unfold F_X10_size F_X11_size
  by_cases c1 : 2 ≤ e ∧ e ≤ 3
  · rw [if_pos (isIn_iff.mpr c1), if_pos (in_iff.mpr c1)]
    by_cases c2 : τ 0 21 = 0
    · rw [if_neg (fun q => (hi.mp q) (by omega)), if_pos c2]
      unfold B_X11_size_26
      rw [refused_n (by omega), bnd_eq]
      exact ⟨_, _, rfl, rfl, ag_x (τ := τ) (t := 2) rfl (by omega) (by omega), h.z⟩
    · rw [if_pos (hi.mpr (by omega)), if_neg c2]
      unfold B_X11_size_26
      rw [refused_0, bnd_eq]
      dsimp only
      rw [if_neg (show ¬ false = true by decide)]
      have hgo : ∀ (t : Nat) (m : Bool), (e = 2 ∧ t = 43 ∧ m = false) ∨ (e = 3 ∧ t = 49 ∧ m = true) → ∃ q r, ((F_X7_grow t σ).bind fun q1 => if q1.1 = true then (if b = true then (F_X7_sharedCount t q1.2).bind fun q3 => some ((.inl q3.1 : Int ⊕ Nat), q3.2) else some (.inl (F_X7_nodeCount t q1.2), q1.2)) else some (.inl (-3), q1.2)) = some q ∧ ((F_X11_build e (up2 τ 0 0 0)).bind fun q3 => if (q3 0 55) = 0 then (if b = true then (F_X11_sharedSize q3).bind fun q5 => some (q5.1, q5.2) else some (q3 0 56, q3)) else some ((-3), q3)) = some r ∧ Ag [(0, 1), (2, 2)] q.1 r.1 (r.2 0 0) ∧ RelW q.2 r.2 := fun t m htm => by
        obtain ⟨σ', s', u1, u2, u3, u4, u5, u6⟩ := w_both (h.z (t := 0)) (inRt_up ht) htm
        have z0 : s' 0 0 = 0 := by rw [u4 0 (by omega), up2_at rfl rfl]
        obtain ⟨hWs, hFs, hMs, hVs, hWWs⟩ := u3.wf
        rw [u1, u2, Option.bind_some, Option.bind_some]
        dsimp only
        rcases u5 with ⟨v1, v2, ⟨pf, S, N, B, v3, v4⟩, pf', N', v5⟩ | ⟨v1, v2, v3⟩
        · rw [decide_eq_true v1, if_pos (show true = true from rfl), if_pos v2]
          cases b with
          | true =>
            rw [if_pos (show true = true from rfl), if_pos (show true = true from rfl), bind_eta]
            obtain ⟨K, σ2, w1, w2, w3⟩ := w_shared u3 (htm.imp And.right And.right) v1 v3 v4 u6
            obtain ⟨K', s2, x1, x2, x3⟩ := rshared_c v5 (fun n hn => by
              have q := qry_ok hWs hFs hMs hWWs (v5.ap n hn)
              exact ⟨q.1, q.2.1⟩)
            rw [w1, x1, Option.bind_some]
            refine ⟨_, _, rfl, rfl, ⟨?_, ?_⟩, w3.tau2 (fun r r1 r2 r3 r4 => x3 r r4) (fun i i0 i1 i2 => by
              show s2 0 i = s' 0 i
              rw [x3 0 (by omega)])⟩
            · show s2 0 0 = 0
              rw [x3 0 (by omega)]
              exact z0
            · show ((K' : Nat) : Int) = (K : Int)
              rw [w2.eq x2]
          | false =>
            rw [if_neg (show ¬ false = true by decide), if_neg (show ¬ false = true by decide)]
            refine ⟨_, _, rfl, rfl, ⟨z0, ?_⟩, u3⟩
            show s' 0 56 = F_X7_nodeCount t σ'
            unfold F_X7_nodeCount
            rw [v4.1.n4, v5.n56, v4.tree.eq v5.tree]
        · rw [decide_eq_false (by omega), if_neg (show ¬ false = true by decide), if_neg (show ¬ s' 0 55 = 0 by omega)]
          exact ⟨_, _, rfl, rfl, ⟨z0, rfl⟩, u3⟩
      by_cases c3 : e = 3
      · rw [if_pos c3]
        exact hgo 49 true (Or.inr ⟨c3, rfl, rfl⟩)
      · rw [if_neg c3]
        exact hgo 43 false (Or.inl ⟨by omega, rfl, rfl⟩)
  · rw [if_neg (fun q => c1 (isIn_iff.mp q)), if_neg (fun q => c1 (in_iff.mp q))]
    unfold B_X11_size_26
    rw [refused_n (by omega), bnd_eq]
    exact ⟨_, _, rfl, rfl, ag_x (τ := τ) (t := 1) rfl (by omega) (by omega), h.z⟩
