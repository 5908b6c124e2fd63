/-! codes under the same patterns -/
theorem EqP.cHoldE {τ τ' : Sg} (e : EqP τ τ') {op p dp : Nat} (hp : (p : Int) < τ 0 9) : cHold τ' op p dp = cHold τ op p dp := by
  obtain ⟨p1, p2, p3, p4⟩ := e.pt p hp
  unfold cHold lowOf highOf
  rw [p1, p2, p3]
theorem EqP.pcE {τ τ' : Sg} (e : EqP τ τ') {p : Nat} (hp : (p : Int) < τ 0 9) : pcOf τ' p = pcOf τ p := by
  unfold pcOf
  rw [e.pr p hp 0 (by omega), e.pr p hp 1 (by omega), e.pr p hp 2 (by omega)]
theorem EqP.cPartE {τ τ' : Sg} (e : EqP τ τ') {p dp : Nat} (hp : (p : Int) < τ 0 9) : cPart τ' p dp = cPart τ p dp := by
  obtain ⟨p1, p2, p3, p4⟩ := e.pt p hp
  funext k
  unfold cPart sortOf
  rw [p1, p3, e.pcE hp]
theorem sgN_eqp {τ τ' σ : Sg} (e : EqP τ τ') (hW : WFP τ) : ∀ (n p : Nat), (p : Int) < τ 0 9 → ∀ (a b : Nat) (L : List Nat), sgN τ σ n p a b L → sgN τ' σ n p a b L
  | 0, p, hp, a, b, L, h => h
  | n + 1, p, hp, a, b, L, h => by
    obtain ⟨p1, p2, p3, p4⟩ := e.pt p hp
    unfold sgN at h ⊢
    rw [p1]
    by_cases c0 : τ 8 p = 0
    · rw [if_pos c0] at h ⊢; exact h
    rw [if_neg c0] at h ⊢
    by_cases c4 : τ 8 p = 4
    · rw [if_pos c4] at h ⊢
      obtain ⟨g0, g1, -⟩ := hW.g4 hp c4
      have b0 := hW.pb hp (k := 0) (by omega)
      have b1 := hW.pb hp (k := 1) (by omega)
      obtain ⟨m, L0, h1, h2, h3, h4, h5⟩ := h
      rw [e.pr p hp 0 (by omega), e.pr p hp 1 (by omega)]
      exact ⟨m, L0, sgN_eqp e hW n _ (by omega) _ _ _ h1, h2, h3, h4, sgN_eqp e hW n _ (by omega) _ _ _ h5⟩
    · rw [if_neg c4] at h ⊢
      rw [e.cHoldE hp]; exact h
theorem sgL_imp {S S' : Nat → Nat → Nat → List Nat → Prop} {σ : Sg} {cd : Nat → Nat} : ∀ (d k a b : Nat) (L : List Nat), (∀ j, k ≤ j → j < k + d → ∀ a b L, S j a b L → S' j a b L) → sgL S σ cd d k a b L → sgL S' σ cd d k a b L
  | 0, k, a, b, L, _, h => h
  | d + 1, k, a, b, L, hs, h => by
    obtain ⟨h1, m, L1, L2, h2, h3, h4⟩ := h
    exact ⟨h1, m, L1, L2, hs k (Nat.le_refl _) (by omega) _ _ _ h2, sgL_imp d (k + 1) m b L2 (fun j j1 j2 => hs j (by omega) (by omega)) h3, h4⟩
theorem sgP_eqp {τ τ' σ : Sg} (e : EqP τ τ') (hW : WFP τ) (hF : WFK (τ 1) (τ 2) (τ 3)) : ∀ (n p dp : Nat), (p : Int) < τ 0 9 → ∀ (a b : Nat) (L : List Nat), sgP τ σ n p dp a b L → sgP τ' σ n p dp a b L
  | 0, p, dp, hp, a, b, L, h => h
  | n + 1, p, dp, hp, a, b, L, h => by
    obtain ⟨p1, p2, p3, p4⟩ := e.pt p hp
    unfold sgP at h ⊢
    rw [p1, p2]
    by_cases c0 : τ 8 p = 0
    · rw [if_pos c0] at h ⊢; exact h
    rw [if_neg c0] at h ⊢
    by_cases c1 : τ 8 p = 1
    · rw [if_pos c1] at h ⊢
      obtain ⟨g1, g2, -⟩ := hW.g1 hp c1
      have b0 := hW.pb hp (k := 0) (by omega)
      rw [e.pr p hp 0 (by omega)]
      exact ⟨h.1, sgP_eqp e hW hF n _ dp (by omega) _ _ _ h.2⟩
    rw [if_neg c1] at h ⊢
    by_cases c4 : τ 8 p = 4
    · rw [if_pos c4] at h ⊢
      obtain ⟨g0, g1, -⟩ := hW.g4 hp c4
      have b0 := hW.pb hp (k := 0) (by omega)
      have b1 := hW.pb hp (k := 1) (by omega)
      obtain ⟨m, L0, h1, h2, h3, h4, h5⟩ := h
      rw [e.pr p hp 0 (by omega), e.pr p hp 1 (by omega)]
      exact ⟨m, L0, sgP_eqp e hW hF n _ dp (by omega) _ _ _ h1, h2, h3, h4, sgP_eqp e hW hF n _ dp (by omega) _ _ _ h5⟩
    rw [if_neg c4] at h ⊢
    by_cases c5 : τ 8 p = 5
    · rw [if_pos c5] at h ⊢
      obtain ⟨g1, g2, -⟩ := hW.g5 hp c5
      have b0 := hW.pb hp (k := 0) (by omega)
      rw [e.pr p hp 0 (by omega)]
      exact ⟨h.1, sgN_eqp e hW n _ (by omega) _ _ _ h.2⟩
    · rw [if_neg c5] at h ⊢
      obtain ⟨h1, L1, h2, h3⟩ := h
      obtain ⟨pc0, pc3, pcs⟩ := pc_spec hW hF hp
      rw [e.cHoldE hp, e.cPartE hp, e.pcE hp]
      refine ⟨h1, L1, sgL_imp _ _ _ _ _ (fun j _ j2 a b L hj => ?_) h2, h3⟩
      have hj3 : j < 3 := by omega
      have hne : ¬ prt τ p j = -1 := fun q => by have := (pcs j hj3).mp q; omega
      have bj := hW.pb hp hj3
      rw [e.pr p hp j hj3]
      exact sgP_eqp e hW hF n _ (dp + 1) (by omega) _ _ _ hj
theorem sgCase_eqp {τ τ' σ : Sg} (e : EqP τ τ') (hW : WFP τ) (hF : WFK (τ 1) (τ 2) (τ 3)) (hM : WFM τ) {c a b : Nat} (hc : (c : Int) < τ 0 23) (h : sgCase τ σ c a b) : sgCase τ' σ c a b := by
  obtain ⟨h1, m, L, h2, h3, h4⟩ := h
  refine ⟨h1, m, L, ?_, h3, by rw [e.rw_ 22 (by omega)]; exact h4⟩
  rw [e.c21]
  refine sgL_imp _ _ _ _ _ (fun j _ j2 a b L hj => ?_) h2
  have hff := ((hM.2.2.2.2 c hc).1 j (by have := hM.1; omega)).1 (by omega)
  have hk0 := hff.1
  have hk1 := hff.2.1
  rw [show cpt τ' c j = cpt τ c j by unfold cpt; rw [e.rw_ 20 (by omega)]]
  exact sgP_eqp e hW hF 50 _ 0 (by omega) _ _ _ hj
theorem sgCs_eqp {τ τ' σ : Sg} (e : EqP τ τ') (hW : WFP τ) (hF : WFK (τ 1) (τ 2) (τ 3)) (hM : WFM τ) : ∀ (d c a b : Nat), ((c + d : Nat) : Int) ≤ τ 0 23 → sgCs τ σ d c a b → sgCs τ' σ d c a b
  | 0, c, a, b, _, h => h
  | d + 1, c, a, b, hc, h => by
    obtain ⟨m, h1, h2⟩ := h
    exact ⟨m, sgCase_eqp e hW hF hM (by omega) h1, sgCs_eqp e hW hF hM d (c + 1) m b (by omega) h2⟩
theorem AUT.keep {τ τ' σ σ' : Sg} (e : EqP τ τ') (hW : WFP τ) (hF : WFK (τ 1) (τ 2) (τ 3)) (hM : WFM τ) (h : AUT τ σ) (h33 : σ' 33 4 = σ 33 4) (h34 : σ' 34 = σ 34) (h35 : σ' 35 = σ 35) : AUT τ' σ' := by
  have h23 := hM.2.1
  obtain ⟨b, h1, h2, h3, h4⟩ := h
  refine ⟨b, ?_, by rw [h34]; exact h2, by rw [h33]; exact h3, h4⟩
  rw [e.c23]
  exact sgCs_congr (sgCs_eqp e hW hF hM _ 0 0 b (by omega) h1) (fun i _ _ => ⟨by rw [h34], by rw [h35]⟩)
