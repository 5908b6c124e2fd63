/-! the operations that run no match and ask no tree -/
theorem ni {k : Nat} {L : List Nat} (h : ¬ k ∈ L) : k ∉ L := h
theorem w_values {es : List (Nat × Int)} {f : Option ((Int ⊕ Nat) × Sg)} {g : Option (Int × Sg)} {σ τ σ' τ' : Sg} {v : Int} (h : RelW σ τ) (ho : Okk f g v σ' τ') (hs : ∀ k, k ∉ [5, 6, 7, 8, 9] → σ' k = σ k) (ht : ∀ k, k ∉ [0, 4, 5, 6, 7] → τ' k = τ k) (h0 : ∀ i, i ∉ [0, 4] → τ' 0 i = τ 0 i) (hV' : RV σ' τ') : ∃ q r, f = some q ∧ g = some r ∧ Ag es q.1 r.1 (r.2 0 0) ∧ RelW q.2 r.2 := by
  obtain ⟨hW, hF, hM, hV, hWW⟩ := h.wf
  obtain ⟨⟨k1, k2, k3, k4, k5, k6⟩, hE⟩ := h
  have hs' : ∀ r, r < 5 ∨ 9 < r → σ' r = σ r := fun r hr => hs r (by simp only [List.mem_cons, List.not_mem_nil, or_false]; omega)
  have ht' : ∀ r, (1 ≤ r ∧ r ≤ 3) ∨ 7 < r → τ' r = τ r := fun r hr => ht r (by simp only [List.mem_cons, List.not_mem_nil, or_false]; omega)
  have h0' : ∀ i, ¬ i = 0 → ¬ i = 4 → τ' 0 i = τ 0 i := fun i h1 h2 => h0 i (by simp only [List.mem_cons, List.not_mem_nil, or_false]; omega)
  have hK : ExtK τ τ' := ExtK.same (fun r r1 r2 => ht' r (by omega))
  refine ho.op ⟨⟨k1.cong (fun r r1 r2 => hs' r (by omega)) (fun r r1 r2 => ht' r (by omega)), hV', k3.cong hF hK (fun r r1 r2 => hs' r (by omega)) (fun r r1 r2 => ht' r (by omega)) (h0' 9 (by omega) (by omega)), k4.cong (hs' 23 (by omega)) (ht' 18 (by omega)), k5.mono hW hK (ExtP.cong (fun r r1 r2 => ht' r (by omega)) (h0' 9 (by omega) (by omega))) (fun r r1 r2 => hs' r (by omega)) (fun r r1 r2 => ht' r (by omega)) (h0' 21 (by omega) (by omega)) (h0' 23 (by omega) (by omega)), k6.cong (hs' 27 (by omega)) (hs' 30 (by omega)) (hs' 31 (by omega)) (fun r r1 r2 => ht' r (by omega)) (h0' 47 (by omega) (by omega)) (h0' 48 (by omega) (by omega)) (h0' 52 (by omega) (by omega))⟩, ?_⟩
  have e : EqP τ τ' := ⟨fun r hr => ht' r (by omega), h0' 21 (by omega) (by omega), h0' 23 (by omega) (by omega), fun p _ => ⟨by rw [ht' 8 (by omega)], by rw [ht' 9 (by omega)], by rw [ht' 10 (by omega)], by rw [ht' 12 (by omega)]⟩, fun p _ k _ => by unfold prt; rw [ht' 11 (by omega)]⟩
  exact hE.keep e hW hF hM (fun i _ => by rw [hs' 33 (by omega)]) (fun r hr => hs' r (by omega)) (h0' 54 (by omega) (by omega)) (h0' 55 (by omega) (by omega)) (h0' 56 (by omega) (by omega)) (fun r r1 r2 => ht' r (by omega))
theorem w_num : Op_num RelW := fun σ τ a1 h h1 _ _ => by
  obtain ⟨hW, hF, hM, hV, hWW⟩ := h.wf
  rcases op_num a1 h.1.2.1 hF h1 with o | ⟨v, σ', τ', o1, o2, o3, o4, o5⟩
  · exact o.op h
  · exact w_values h o1 o2 o3 o4 o5
theorem w_seq : Op_seq RelW := fun σ τ a1 a2 a3 a4 h _ _ _ _ _ _ => by
  obtain ⟨hW, hF, hM, hV, hWW⟩ := h.wf
  rcases op_seq a1 a2 a3 a4 h.1.2.1 hF with o | ⟨v, σ', τ', o1, o2, o3, o4, o5⟩
  · exact o.op h
  · exact w_values h o1 o2 o3 o4 o5
theorem w_data : Op_data RelW := fun σ τ a1 a2 a3 a4 a5 h _ _ _ _ _ _ _ => by
  rcases op_data a1 a2 a3 a4 a5 h.1.1 h.1.2.1 with o | ⟨v, σ', τ', o1, o2, o3, o4, o5⟩
  · exact o.op h
  · exact w_values h o1 o2 o3 o4 o5
theorem w_pattern {es : List (Nat × Int)} {f : Option ((Int ⊕ Nat) × Sg)} {g : Option (Int × Sg)} {σ τ : Sg} (h : RelW σ τ) (ho : OpP es f g σ τ) : ∃ q r, f = some q ∧ g = some r ∧ Ag es q.1 r.1 (r.2 0 0) ∧ RelW q.2 r.2 := by
  rcases ho with o | ⟨v, σ', τ', o1, hs', ht, h0', hP, hRP⟩
  · exact o.op h
  obtain ⟨hW, hF, hM, hV, hWW⟩ := h.wf
  obtain ⟨⟨k1, k2, k3, k4, k5, k6⟩, hE⟩ := h
  have ht' : ∀ r, (1 ≤ r ∧ r ≤ 7) ∨ 17 < r → τ' r = τ r := fun r hr => ht r (by simp only [List.mem_cons, List.not_mem_nil, or_false]; omega)
  have hK : ExtK τ τ' := ExtK.same (fun r r1 r2 => ht' r (by omega))
  refine o1.op ⟨⟨k1.cong (fun r r1 r2 => hs' r (by omega)) (fun r r1 r2 => ht' r (by omega)), k2.cong hF hK (fun r r1 r2 => hs' r (by omega)) (fun r r1 r2 => ht' r (by omega)) (h0' 4 (by omega) (by omega)), hRP, k4.cong (hs' 23 (by omega)) (ht' 18 (by omega)), k5.mono hW hK hP (fun r r1 r2 => hs' r (by omega)) (fun r r1 r2 => ht' r (by omega)) (h0' 21 (by omega) (by omega)) (h0' 23 (by omega) (by omega)), k6.cong (hs' 27 (by omega)) (hs' 30 (by omega)) (hs' 31 (by omega)) (fun r r1 r2 => ht' r (by omega)) (h0' 47 (by omega) (by omega)) (h0' 48 (by omega) (by omega)) (h0' 52 (by omega) (by omega))⟩, ?_⟩
  have e : EqP τ τ' := ⟨fun r hr => ht' r (by omega), h0' 21 (by omega) (by omega), h0' 23 (by omega) (by omega), fun p hp => by
    obtain ⟨z1, z2⟩ := hP.2 p hp
    exact ⟨z1 8 (by decide), z1 9 (by decide), z1 10 (by decide), z1 12 (by decide)⟩, fun p hp k hk => (hP.2 p hp).2 k hk⟩
  exact hE.keep e hW hF hM (fun i _ => by rw [hs' 33 (by omega)]) (fun r hr => hs' r (by omega)) (h0' 54 (by omega) (by omega)) (h0' 55 (by omega) (by omega)) (h0' 56 (by omega) (by omega)) (fun r r1 r2 => ht' r (by omega))
theorem w_any : Op_any RelW := fun σ τ h _ _ => w_pattern h (op_any h.1.2.2.1 h.wf.2.1)
theorem w_name : Op_name RelW := fun σ τ a1 a2 h _ _ _ _ => w_pattern h (op_name a1 a2 h.1.2.2.1 h.wf.2.1)
theorem w_range : Op_range RelW := fun σ τ a1 a2 h _ _ _ _ => w_pattern h (op_range a1 a2 h.1.2.2.1 h.wf.2.1)
theorem w_make : Op_make RelW := fun σ τ a1 a2 a3 a4 a5 h _ _ _ _ _ _ _ => w_pattern h (op_make a1 a2 a3 a4 a5 h.1.1 h.1.2.2.1)
theorem w_either : Op_either RelW := fun σ τ a1 a2 h _ _ _ _ => w_pattern h (op_either a1 a2 h.1.2.2.1 h.wf.2.1)
theorem w_view : Op_view RelW := fun σ τ a1 a2 h _ _ _ _ => w_pattern h (op_view a1 a2 h.1.2.2.1 h.wf.2.1)
theorem w_list : Op_list RelW := fun σ τ a1 a2 a3 a4 h _ _ _ _ _ _ => w_pattern h (op_list a1 a2 a3 a4 h.1.2.2.1 h.wf.2.1)
theorem w_constructor : Op_constructor RelW := fun σ τ a1 a2 a3 a4 a5 h h1 h2 h3 h4 h5 _ _ => by
  rcases op_constructor a1 a2 a3 a4 a5 h.1.1 h1 h2 h3 h4 h5 with o | ⟨v, σ', τ', o1, hs, ht, h0, hRK, hK, hN⟩
  · exact o.op h
  obtain ⟨hW, hF, hM, hV, hWW⟩ := h.wf
  obtain ⟨⟨k1, k2, k3, k4, k5, k6⟩, hE⟩ := h
  have hs' : ∀ r, (5 ≤ r ∧ r ≤ 32) ∨ r = 42 → σ' r = σ r := fun r hr => hs r (by simp only [List.mem_cons, List.not_mem_nil, or_false]; omega)
  have ht' : ∀ r, 3 < r → τ' r = τ r := fun r hr => ht r (by simp only [List.mem_cons, List.not_mem_nil, or_false]; omega)
  have h0' : ∀ i, ¬ i = 0 → ¬ i = 54 → τ' 0 i = τ 0 i := fun i h1 h2 => h0 i (by simp only [List.mem_cons, List.not_mem_nil, or_false]; omega)
  exact o1.op ⟨⟨hRK, k2.cong hF hK (fun r r1 r2 => hs' r (by omega)) (fun r r1 r2 => ht' r (by omega)) (h0' 4 (by omega) (by omega)), k3.cong hF hK (fun r r1 r2 => hs' r (by omega)) (fun r r1 r2 => ht' r (by omega)) (h0' 9 (by omega) (by omega)), k4.cong (hs' 23 (by omega)) (ht' 18 (by omega)), k5.mono hW hK (ExtP.cong (fun r r1 r2 => ht' r (by omega)) (h0' 9 (by omega) (by omega))) (fun r r1 r2 => hs' r (by omega)) (fun r r1 r2 => ht' r (by omega)) (h0' 21 (by omega) (by omega)) (h0' 23 (by omega) (by omega)), k6.cong (hs' 27 (by omega)) (hs' 30 (by omega)) (hs' 31 (by omega)) (fun r r1 r2 => ht' r (by omega)) (h0' 47 (by omega) (by omega)) (h0' 48 (by omega) (by omega)) (h0' 52 (by omega) (by omega))⟩, hE.none (hs' 42 (by omega)) hN⟩
theorem w_setView : Op_setView RelW := fun σ τ a1 a2 a3 a4 a5 h _ _ _ _ _ _ _ => by
  rcases op_setView a1 a2 a3 a4 a5 h.1.2.2.2.1 with o | ⟨v, σ', τ', o1, hs, ht, h0, hRW, hN⟩
  · exact o.op h
  obtain ⟨hW, hF, hM, hV, hWW⟩ := h.wf
  obtain ⟨⟨k1, k2, k3, k4, k5, k6⟩, hE⟩ := h
  have hs' : ∀ r, r ≤ 22 ∨ (24 ≤ r ∧ r ≤ 32) ∨ r = 42 → σ' r = σ r := fun r hr => hs r (by simp only [List.mem_cons, List.not_mem_nil, or_false]; omega)
  have ht' : ∀ r, (1 ≤ r ∧ r ≤ 17) ∨ 18 < r → τ' r = τ r := fun r hr => ht r (by simp only [List.mem_cons, List.not_mem_nil, or_false]; omega)
  have h0' : ∀ i, ¬ i = 0 → ¬ i = 54 → τ' 0 i = τ 0 i := fun i h1 h2 => h0 i (by simp only [List.mem_cons, List.not_mem_nil, or_false]; omega)
  have hK : ExtK τ τ' := ExtK.same (fun r r1 r2 => ht' r (by omega))
  exact o1.op ⟨⟨k1.cong (fun r r1 r2 => hs' r (by omega)) (fun r r1 r2 => ht' r (by omega)), k2.cong hF hK (fun r r1 r2 => hs' r (by omega)) (fun r r1 r2 => ht' r (by omega)) (h0' 4 (by omega) (by omega)), k3.cong hF hK (fun r r1 r2 => hs' r (by omega)) (fun r r1 r2 => ht' r (by omega)) (h0' 9 (by omega) (by omega)), hRW, k5.mono hW hK (ExtP.cong (fun r r1 r2 => ht' r (by omega)) (h0' 9 (by omega) (by omega))) (fun r r1 r2 => hs' r (by omega)) (fun r r1 r2 => ht' r (by omega)) (h0' 21 (by omega) (by omega)) (h0' 23 (by omega) (by omega)), k6.cong (hs' 27 (by omega)) (hs' 30 (by omega)) (hs' 31 (by omega)) (fun r r1 r2 => ht' r (by omega)) (h0' 47 (by omega) (by omega)) (h0' 48 (by omega) (by omega)) (h0' 52 (by omega) (by omega))⟩, hE.none (hs' 42 (by omega)) hN⟩
theorem w_begin : Op_begin RelW := fun σ τ a1 a2 a3 a4 h _ _ _ _ _ _ => by
  rcases op_begin a1 a2 a3 a4 h.1.2.2.2.2.1 with o | ⟨v, σ', τ', o1, hs, ht, h0, hRM, hRC, hN⟩
  · exact o.op h
  obtain ⟨hW, hF, hM, hV, hWW⟩ := h.wf
  obtain ⟨⟨k1, k2, k3, k4, k5, k6⟩, hE⟩ := h
  have hs' : ∀ r, r ≤ 23 ∨ r = 42 → σ' r = σ r := fun r hr => hs r (by simp only [List.mem_cons, List.not_mem_nil, or_false]; omega)
  have ht' : ∀ r, (1 ≤ r ∧ r ≤ 18) → τ' r = τ r := fun r hr => ht r (by simp only [List.mem_cons, List.not_mem_nil, or_false]; omega)
  have h0' : ∀ i, i = 4 ∨ i = 9 → τ' 0 i = τ 0 i := fun i h1 => h0 i (by simp only [List.mem_cons, List.not_mem_nil, or_false]; omega)
  have hK : ExtK τ τ' := ExtK.same (fun r r1 r2 => ht' r (by omega))
  exact o1.op ⟨⟨k1.cong (fun r r1 r2 => hs' r (by omega)) (fun r r1 r2 => ht' r (by omega)), k2.cong hF hK (fun r r1 r2 => hs' r (by omega)) (fun r r1 r2 => ht' r (by omega)) (h0' 4 (by omega)), k3.cong hF hK (fun r r1 r2 => hs' r (by omega)) (fun r r1 r2 => ht' r (by omega)) (h0' 9 (by omega)), k4.cong (hs' 23 (by omega)) (ht' 18 (by omega)), hRM, hRC⟩, hE.none (hs' 42 (by omega)) hN⟩
/-- the match changes, the patterns don't -/
theorem w_match {es : List (Nat × Int)} {f : Option ((Int ⊕ Nat) × Sg)} {g : Option (Int × Sg)} {σ τ σ' τ' : Sg} {v : Int} (h : RelW σ τ) (o1 : Okk f g v σ' τ') (hs' : ∀ r, r ≤ 23 ∨ (27 ≤ r ∧ r ≤ 32) ∨ r = 42 → σ' r = σ r) (ht' : ∀ r, (1 ≤ r ∧ r ≤ 18) ∨ 27 < r → τ' r = τ r) (h0' : ∀ i, i = 4 ∨ i = 9 ∨ i = 47 ∨ i = 48 ∨ i = 52 → τ' 0 i = τ 0 i) (hRM : RM σ' τ') (hN : NoEng σ σ' τ') : ∃ q r, f = some q ∧ g = some r ∧ Ag es q.1 r.1 (r.2 0 0) ∧ RelW q.2 r.2 := by
  obtain ⟨hW, hF, hM, hV, hWW⟩ := h.wf
  obtain ⟨⟨k1, k2, k3, k4, k5, k6⟩, hE⟩ := h
  have hK : ExtK τ τ' := ExtK.same (fun r r1 r2 => ht' r (by omega))
  exact o1.op ⟨⟨k1.cong (fun r r1 r2 => hs' r (by omega)) (fun r r1 r2 => ht' r (by omega)), k2.cong hF hK (fun r r1 r2 => hs' r (by omega)) (fun r r1 r2 => ht' r (by omega)) (h0' 4 (by omega)), k3.cong hF hK (fun r r1 r2 => hs' r (by omega)) (fun r r1 r2 => ht' r (by omega)) (h0' 9 (by omega)), k4.cong (hs' 23 (by omega)) (ht' 18 (by omega)), hRM, k6.cong (hs' 27 (by omega)) (hs' 30 (by omega)) (hs' 31 (by omega)) (fun r r1 r2 => ht' r (by omega)) (h0' 47 (by omega)) (h0' 48 (by omega)) (h0' 52 (by omega))⟩, hE.none (hs' 42 (by omega)) hN⟩
theorem w_add : Op_add RelW := fun σ τ a1 a2 a3 a4 h _ _ _ _ _ _ => by
  rcases op_add a1 a2 a3 a4 h.1.2.2.1 h.1.2.2.2.2.1 with o | ⟨v, σ', τ', o1, hs, ht, h0, hRM, hN⟩
  · exact o.op h
  · exact w_match h o1 (fun r hr => hs r (by simp only [List.mem_cons, List.not_mem_nil, or_false]; omega)) (fun r hr => ht r (by simp only [List.mem_cons, List.not_mem_nil, or_false]; omega)) (fun i hi => h0 i (by simp only [List.mem_cons, List.not_mem_nil, or_false]; omega)) hRM hN
theorem w_guard : Op_guard RelW := fun σ τ a1 a2 a3 a4 h _ _ _ _ _ _ => by
  rcases op_guard a1 a2 a3 a4 h.1.1 h.1.2.2.1 h.1.2.2.2.2.1 with o | ⟨v, σ', τ', o1, hs, ht, h0, hRM, hN⟩
  · obtain ⟨E, t, τ2, g1, g2, g3, g4, g5, g6⟩ := o
    refine ⟨_, _, g1, g2, ag_x (τ := τ2) g4 g5 g6, h.tau (fun r r0 r1 r2 => ?_) (fun i hi => ?_)⟩
    · funext i
      show up2 τ2 0 0 t r i = τ r i
      rw [up2_row r0, g3 r (by simp only [List.mem_cons, List.not_mem_nil, or_false]; omega)]
    · show up2 τ2 0 0 t 0 i = τ 0 i
      rw [up2_idx hi, g3 0 (by decide)]
  · exact w_match h o1 (fun r hr => hs r (by simp only [List.mem_cons, List.not_mem_nil, or_false]; omega)) (fun r hr => ht r (by simp only [List.mem_cons, List.not_mem_nil, or_false]; omega)) (fun i hi => h0 i (by simp only [List.mem_cons, List.not_mem_nil, or_false]; omega)) hRM hN
theorem w_split : Op_split RelW := fun σ τ a1 a2 h _ _ _ _ => by
  rcases op_split a1 a2 h.wf.2.1 h.1.2.2.1 h.1.2.2.2.2.1 with o | ⟨v, σ', τ', o1, hs, ht, h0, hRM, hN⟩
  · exact o.op h
  · exact w_match h o1 (fun r hr => hs r (by simp only [List.mem_cons, List.not_mem_nil, or_false]; omega)) (fun r hr => ht r (by simp only [List.mem_cons, List.not_mem_nil, or_false]; omega)) (fun i hi => h0 i (by simp only [List.mem_cons, List.not_mem_nil, or_false]; omega)) hRM hN
theorem w_merge : Op_merge RelW := fun σ τ a1 a2 h _ _ _ _ => by
  rcases op_merge a1 a2 h.wf.2.1 h.1.2.2.1 h.1.2.2.2.2.1 with o | ⟨v, σ', τ', o1, hs, ht, h0, hP, hRP, hRM, hN⟩
  · exact o.op h
  obtain ⟨hW, hF, hM, hV, hWW⟩ := h.wf
  obtain ⟨⟨k1, k2, k3, k4, k5, k6⟩, hE⟩ := h
  have hs' : ∀ r, r < 10 ∨ r = 23 ∨ (27 ≤ r ∧ r ≤ 32) ∨ r = 42 → σ' r = σ r := fun r hr => hs r (by omega) (by simp only [List.mem_cons, List.not_mem_nil, or_false]; omega)
  have ht' : ∀ r, (1 ≤ r ∧ r ≤ 7) ∨ r = 18 ∨ 25 < r → τ' r = τ r := fun r hr => ht r (by simp only [List.mem_cons, List.not_mem_nil, or_false]; omega)
  have h0' : ∀ i, i = 4 ∨ i = 47 ∨ i = 48 ∨ i = 52 → τ' 0 i = τ 0 i := fun i h1 => h0 i (by simp only [List.mem_cons, List.not_mem_nil, or_false]; omega)
  have hK : ExtK τ τ' := ExtK.same (fun r r1 r2 => ht' r (by omega))
  exact o1.op ⟨⟨k1.cong (fun r r1 r2 => hs' r (by omega)) (fun r r1 r2 => ht' r (by omega)), k2.cong hF hK (fun r r1 r2 => hs' r (by omega)) (fun r r1 r2 => ht' r (by omega)) (h0' 4 (by omega)), hRP, k4.cong (hs' 23 (by omega)) (ht' 18 (by omega)), hRM, k6.cong (hs' 27 (by omega)) (hs' 30 (by omega)) (hs' 31 (by omega)) (fun r r1 r2 => ht' r (by omega)) (h0' 47 (by omega)) (h0' 48 (by omega)) (h0' 52 (by omega))⟩, hE.none (hs' 42 (by omega)) hN⟩
theorem w_tests : Op_tests RelW := fun σ τ h _ _ => by
  obtain ⟨h1, h2⟩ := op_tests h.1.2.2.2.2.2
  exact ⟨h1, by rw [h2]; exact h.z⟩
theorem w_views : Op_views RelW := fun σ τ h _ _ => by
  obtain ⟨h1, h2⟩ := op_views h.1.2.2.2.2.2
  exact ⟨h1, by rw [h2]; exact h.z⟩
theorem w_viewAt : Op_viewAt RelW := fun σ τ a1 h _ _ _ => by
  rcases op_viewAt a1 h.1.2.2.2.2.2 with o | ⟨v, o⟩
  · exact o.op h
  · exact o.op h.z
theorem w_bound : Op_bound RelW := fun σ τ a1 h _ _ _ => by
  rcases op_bound a1 h.1.2.2.2.2.2 with o | ⟨v, o⟩
  · exact o.op h
  · exact o.op h.z
theorem w_taken : Op_taken RelW := fun σ τ a1 h _ _ _ => by
  rcases op_taken a1 h.1.2.2.2.2.1 with o | ⟨v, o⟩
  · exact o.op h
  · exact o.op h.z
