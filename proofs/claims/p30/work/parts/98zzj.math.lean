/-! what ties the two with the engines; what keeps it -/
theorem RK.cong {σ σ' τ τ' : Sg} (h : RK σ τ) (hs : ∀ r, 2 ≤ r → r ≤ 4 → σ' r = σ r) (ht : ∀ r, 1 ≤ r → r ≤ 3 → τ' r = τ r) : RK σ' τ' := by
  unfold RK at *
  rw [hs 2 (by omega) (by omega), hs 3 (by omega) (by omega), hs 4 (by omega) (by omega), ht 1 (by omega) (by omega), ht 2 (by omega) (by omega), ht 3 (by omega) (by omega)]
  exact h
theorem RV.cong {σ σ' τ τ' : Sg} (h : RV σ τ) (hF : WFK (τ 1) (τ 2) (τ 3)) (hK : ExtK τ τ') (hs : ∀ r, 5 ≤ r → r ≤ 9 → σ' r = σ r) (ht : ∀ r, 4 ≤ r → r ≤ 7 → τ' r = τ r) (h4 : τ' 0 4 = τ 0 4) : RV σ' τ' := by
  obtain ⟨v1, ⟨w1, w2, w3⟩, v2, v3⟩ := h
  refine ⟨by rw [hs 5 (by omega) (by omega), h4]; exact v1, ⟨by rw [h4]; exact w1, by rw [h4]; exact w2, fun v hv => ?_⟩, ?_, ?_⟩
  · rw [h4] at hv
    obtain ⟨a1, a2, a3, a4, a5, a6, a7, a8⟩ := w3 v hv
    rw [ht 4 (by omega) (by omega), ht 5 (by omega) (by omega), ht 6 (by omega) (by omega), ht 7 (by omega) (by omega)]
    refine ⟨a1, a2, a3, a4, a5, a6, a7, fun k4 => ?_⟩
    obtain ⟨b1, b2⟩ := a8 k4
    obtain ⟨e1, e2⟩ := hK (τ 4 v).toNat (by omega)
    obtain ⟨e3, e4⟩ := e2 (τ 5 v).toNat (by omega)
    refine ⟨by omega, fun k hk => ?_⟩
    rw [e3] at hk
    obtain ⟨c1, c2, c3⟩ := b2 k hk
    have hf3 := (hF.2 (τ 4 v).toNat (τ 5 v).toNat (by omega) (by omega)).2.1
    rw [e4 k (by omega)]
    exact ⟨c1, c2, c3⟩
  · rw [h4, hs 6 (by omega) (by omega), hs 7 (by omega) (by omega), hs 8 (by omega) (by omega), hs 9 (by omega) (by omega), ht 4 (by omega) (by omega), ht 5 (by omega) (by omega), ht 6 (by omega) (by omega), ht 7 (by omega) (by omega)]
    exact v2
  · rw [hs 6 (by omega) (by omega), hs 7 (by omega) (by omega), hs 8 (by omega) (by omega), hs 9 (by omega) (by omega)]
    exact v3
theorem RP.cong {σ σ' τ τ' : Sg} (h : RP σ τ) (hF : WFK (τ 1) (τ 2) (τ 3)) (hK : ExtK τ τ') (hs : ∀ r, 10 ≤ r → r ≤ 21 → σ' r = σ r) (ht : ∀ r, 8 ≤ r → r ≤ 17 → τ' r = τ r) (h9 : τ' 0 9 = τ 0 9) : RP σ' τ' := by
  obtain ⟨r1, ⟨w1, w2, w3⟩, r3, r4⟩ := h
  have hP : ExtP τ τ' := ⟨by omega, fun p hp => ⟨fun r hr => by
    simp only [List.mem_cons, List.not_mem_nil, or_false] at hr
    rw [ht r (by omega) (by omega)], fun k hk => by rw [ht 11 (by omega) (by omega)]⟩⟩
  refine ⟨by rw [hs 10 (by omega) (by omega), h9]; exact r1, ⟨by omega, by omega, fun p hp => WFP1.mono hP hK hF (by omega) (w3 p (by omega))⟩, fun p hp => RP1.mono hP w3 (by omega) (fun r hr => ?_) (fun k hk => by rw [hs 15 (by omega) (by omega)]) (r3 p (by omega)), fun p hp hp2 => by rw [hs 16 (by omega) (by omega)]; exact r4 p (by omega) hp2⟩
  simp only [List.mem_cons, List.not_mem_nil, or_false] at hr
  rw [hs r (by omega) (by omega)]
theorem RW.cong {σ σ' τ τ' : Sg} (h : RW σ τ) (hs : σ' 23 = σ 23) (ht : τ' 18 = τ 18) : RW σ' τ' := by
  unfold RW at *
  rw [hs, ht]
  exact h
theorem RC.cong {σ σ' τ τ' : Sg} (h : RC σ τ) (h27 : σ' 27 = σ 27) (h30 : σ' 30 = σ 30) (h31 : σ' 31 = σ 31) (ht : ∀ r, 36 ≤ r → r ≤ 39 → τ' r = τ r) (h47 : τ' 0 47 = τ 0 47) (h48 : τ' 0 48 = τ 0 48) (h52 : τ' 0 52 = τ 0 52) : RC σ' τ' := by
  unfold RC at *
  rw [h27, h30, h31, h47, h48, h52, ht 36 (by omega) (by omega), ht 37 (by omega) (by omega), ht 38 (by omega) (by omega), ht 39 (by omega) (by omega)]
  exact h
theorem ExtP.cong {τ τ' : Sg} (ht : ∀ r, 8 ≤ r → r ≤ 17 → τ' r = τ r) (h9 : τ' 0 9 = τ 0 9) : ExtP τ τ' := ⟨by omega, fun p hp => ⟨fun r hr => by
    simp only [List.mem_cons, List.not_mem_nil, or_false] at hr
    rw [ht r (by omega) (by omega)], fun k hk => by rw [ht 11 (by omega) (by omega)]⟩⟩
/-- a tree of the given program, with what it keeps -/
def EC (τ σ : Sg) (t : Nat) (m : Bool) : Prop := σ t 2 = mI m ∧ (σ t 4 = 0 ∨ (0 < σ t 4 ∧ CTree τ σ t m ∧ (σ t 6 = -1 ∨ ∃ K : Nat, σ t 6 = K ∧ ShOK τ m K)))
/-- the reference's tree -/
def ER (τ : Sg) : Prop := τ 0 54 = -1 ∨ (τ 0 54 = 2 ∧ RTree τ false) ∨ (τ 0 54 = 3 ∧ RTree τ true)
def EN (σ τ : Sg) : Prop := Z42 σ ∧ EC τ σ 43 false ∧ EC τ σ 49 true ∧ (σ 33 3 = 0 ∨ AUT τ σ) ∧ ER τ
def RelW (σ τ : Sg) : Prop := RS σ τ ∧ EN σ τ
theorem GT.eqp {τ τ' σ : Sg} {t : Nat} {m : Bool} {pf : Nat → Pth} {S : Nat → Nat} {N B : Nat} (e : EqP τ τ') (hW : WFP τ) (hM : WFM τ) (h : GT τ σ t m pf S N B) : GT τ' σ t m pf S N B := by
  obtain ⟨q, w, a⟩ := e.qw hW hM m
  unfold GT at *
  rw [q, w, a]
  exact h
theorem GD.eqp {τ τ' σ : Sg} {t : Nat} {m : Bool} {pf : Nat → Pth} {S : Nat → Nat} {N B : Nat} (e : EqP τ τ') (hW : WFP τ) (hM : WFM τ) (h : GD τ σ t m pf S N B) : GD τ' σ t m pf S N B := by
  refine ⟨h.1.eqp e hW hM, ?_⟩
  obtain ⟨q, w, a⟩ := e.qw hW hM m
  rw [q, w]
  exact h.2
theorem EC.keep {τ τ' σ σ' : Sg} {t : Nat} {m : Bool} (e : EqP τ τ') (hW : WFP τ) (hM : WFM τ) (hs : ∀ r, t ≤ r → r ≤ t + 5 → σ' r = σ r) (h : EC τ σ t m) : EC τ' σ' t m := by
  have h0 := hs t (by omega) (by omega)
  obtain ⟨h1, h2⟩ := h
  refine ⟨by rw [h0]; exact h1, ?_⟩
  rcases h2 with h2 | ⟨h2, h3, h4⟩
  · exact Or.inl (by rw [h0]; exact h2)
  · refine Or.inr ⟨by rw [h0]; exact h2, ?_, ?_⟩
    · unfold CTree
      rw [h0]
      rcases h3 with ⟨k1, pf, S, N, B, k2, k3⟩ | ⟨k1, k2⟩
      · exact Or.inl ⟨k1, pf, S, N, B, k2, (k3.1.eqp e hW hM).fr (fun r r1 r2 => hs r r1 (by omega)), (k3.eqp e hW hM).2⟩
      · exact Or.inr ⟨k1, e.large hW hM k2⟩
    · rw [h0]
      rcases h4 with h4 | ⟨K, k1, k2⟩
      · exact Or.inl h4
      · exact Or.inr ⟨K, k1, k2.eqp e hW hM⟩
theorem RTree.keep {τ τ' : Sg} {m : Bool} (e : EqP τ τ') (hW : WFP τ) (hM : WFM τ) (h55 : τ' 0 55 = τ 0 55) (h56 : τ' 0 56 = τ 0 56) (hr : ∀ r, 40 ≤ r → r ≤ 45 → τ' r = τ r) (h : RTree τ m) : RTree τ' m := by
  unfold RTree
  rw [h55]
  rcases h with ⟨k1, pf, N, k2⟩ | ⟨k1, k2⟩
  · exact Or.inl ⟨k1, pf, N, (e.bi hW hM k2).fr h56 hr⟩
  · exact Or.inr ⟨k1, e.large hW hM k2.1, by rw [h56]; exact k2.2⟩
theorem ER.keep {τ τ' : Sg} (e : EqP τ τ') (hW : WFP τ) (hM : WFM τ) (h54 : τ' 0 54 = τ 0 54) (h55 : τ' 0 55 = τ 0 55) (h56 : τ' 0 56 = τ 0 56) (hr : ∀ r, 40 ≤ r → r ≤ 45 → τ' r = τ r) (h : ER τ) : ER τ' := by
  unfold ER
  rw [h54]
  rcases h with h | ⟨h, k⟩ | ⟨h, k⟩
  · exact Or.inl h
  · exact Or.inr (Or.inl ⟨h, k.keep e hW hM h55 h56 hr⟩)
  · exact Or.inr (Or.inr ⟨h, k.keep e hW hM h55 h56 hr⟩)
theorem EN.keep {τ τ' σ σ' : Sg} (e : EqP τ τ') (hW : WFP τ) (hF : WFK (τ 1) (τ 2) (τ 3)) (hM : WFM τ) (h33 : ∀ i, i = 3 ∨ i = 4 → σ' 33 i = σ 33 i) (hs : ∀ r, r = 34 ∨ r = 35 ∨ 42 ≤ r → σ' r = σ r) (h54 : τ' 0 54 = τ 0 54) (h55 : τ' 0 55 = τ 0 55) (h56 : τ' 0 56 = τ 0 56) (hr : ∀ r, 40 ≤ r → r ≤ 45 → τ' r = τ r) (h : EN σ τ) : EN σ' τ' := by
  obtain ⟨h1, h2, h3, h4, h5⟩ := h
  refine ⟨fun y y1 y2 => by rw [hs 42 (by omega)]; exact h1 y y1 y2, h2.keep e hW hM (fun r r1 r2 => hs r (by omega)), h3.keep e hW hM (fun r r1 r2 => hs r (by omega)), ?_, h5.keep e hW hM h54 h55 h56 hr⟩
  rcases h4 with h4 | h4
  · exact Or.inl (by rw [h33 3 (by omega)]; exact h4)
  · exact Or.inr (h4.keep e hW hF hM (h33 4 (by omega)) (hs 34 (by omega)) (hs 35 (by omega)))
theorem EN.none {τ τ' σ σ' : Sg} (h42 : σ' 42 = σ 42) (h : EN σ τ) (hn : NoEng σ σ' τ') : EN σ' τ' := by
  obtain ⟨h1, h2, h3, h4, h5⟩ := h
  obtain ⟨n1, n2, n3, n4, n5, n6⟩ := hn
  exact ⟨fun y y1 y2 => by rw [h42]; exact h1 y y1 y2, ⟨by rw [n5]; exact h2.1, Or.inl n2⟩, ⟨by rw [n6]; exact h3.1, Or.inl n3⟩, Or.inl n1, Or.inl n4⟩
theorem RelW.wf {σ τ : Sg} (h : RelW σ τ) : WFP τ ∧ WFK (τ 1) (τ 2) (τ 3) ∧ WFM τ ∧ WFV τ ∧ WFW τ := ⟨h.1.2.2.1.2.1, h.1.1.2.2.2, h.1.2.2.2.2.1.2.2.2.1, h.1.2.1.2.1, WFW_of h.1.2.2.2.1⟩
/-- nothing of matter changes -/
theorem RelW.tau {σ τ τ' : Sg} (h : RelW σ τ) (ht : ∀ r, ¬ r = 0 → ¬ r = 26 → ¬ r = 27 → τ' r = τ r) (h0 : ∀ i, ¬ i = 0 → τ' 0 i = τ 0 i) : RelW σ τ' := by
  obtain ⟨hW, hF, hM, hV, hWW⟩ := h.wf
  obtain ⟨⟨k1, k2, k3, k4, k5, k6⟩, hE⟩ := h
  have hK : ExtK τ τ' := ExtK.same (fun r r1 r2 => ht r (by omega) (by omega) (by omega))
  refine ⟨⟨k1.cong (fun _ _ _ => rfl) (fun r r1 r2 => ht r (by omega) (by omega) (by omega)), k2.cong hF hK (fun _ _ _ => rfl) (fun r r1 r2 => ht r (by omega) (by omega) (by omega)) (h0 4 (by omega)), k3.cong hF hK (fun _ _ _ => rfl) (fun r r1 r2 => ht r (by omega) (by omega) (by omega)) (h0 9 (by omega)), k4.cong rfl (ht 18 (by omega) (by omega) (by omega)), k5.mono hW hK (ExtP.cong (fun r r1 r2 => ht r (by omega) (by omega) (by omega)) (h0 9 (by omega))) (fun _ _ _ => rfl) (fun r r1 r2 => ht r (by omega) (by omega) (by omega)) (h0 21 (by omega)) (h0 23 (by omega)), k6.cong rfl rfl rfl (fun r r1 r2 => ht r (by omega) (by omega) (by omega)) (h0 47 (by omega)) (h0 48 (by omega)) (h0 52 (by omega))⟩, ?_⟩
  exact hE.keep (EqP.same (fun r r1 r2 => ht r (by omega) (by omega) (by omega)) (h0 21 (by omega)) (h0 23 (by omega))) hW hF hM (fun _ _ => rfl) (fun _ _ => rfl) (h0 54 (by omega)) (h0 55 (by omega)) (h0 56 (by omega)) (fun r r1 r2 => ht r (by omega) (by omega) (by omega))
theorem RelW.z {σ τ : Sg} {t : Int} (h : RelW σ τ) : RelW σ (up2 τ 0 0 t) := h.tau (fun r h1 _ _ => by funext i; rw [up2_row h1]) (fun i hi => by rw [up2_idx hi])
theorem Thr.op {es : List (Nat × Int)} {f : Option ((Int ⊕ Nat) × Sg)} {g : Option (Int × Sg)} {σ τ : Sg} (h : RelW σ τ) (ht : Thr es f g σ τ) : ∃ q r, f = some q ∧ g = some r ∧ Ag es q.1 r.1 (r.2 0 0) ∧ RelW q.2 r.2 := by
  obtain ⟨E, t, h1, h2, h3, h4, h5⟩ := ht
  exact ⟨_, _, h1, h2, ag_x (τ := τ) h3 h4 h5, h.z⟩
theorem Okk.op {es : List (Nat × Int)} {f : Option ((Int ⊕ Nat) × Sg)} {g : Option (Int × Sg)} {σ' τ' : Sg} {v : Int} (h : Okk f g v σ' τ') (hr : RelW σ' τ') : ∃ q r, f = some q ∧ g = some r ∧ Ag es q.1 r.1 (r.2 0 0) ∧ RelW q.2 r.2 := by
  obtain ⟨h1, h2, h3⟩ := h
  exact ⟨_, _, h1, h2, ⟨h3, rfl⟩, hr⟩
