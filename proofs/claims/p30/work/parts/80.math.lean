/-! the match under kinds and patterns that only grow -/
theorem bnS_ext {τ τ' : Sg} {nm : Int} (hW : WFP τ) (hK : ExtK τ τ') (hP : ExtP τ τ') : ∀ (N p : Nat) (kd : Int), (p : Int) < τ 0 9 → bnS τ' nm N p kd = bnS τ nm N p kd
  | 0, p, kd, hp => rfl
  | N + 1, p, kd, hp => by
    have e8 := hP.row hp (r := 8) (by decide)
    have e9 := hP.row hp (r := 9) (by decide)
    have sub : ∀ k : Nat, k < 3 → bnSub τ' nm N p kd k = bnSub τ nm N p kd k := by
      intro k hk
      unfold bnSub
      rw [hP.prtE hp hk]
      by_cases e : prt τ p k = -1
      · rw [if_pos e, if_pos e]
      · rw [if_neg e, if_neg e, e8, e9]
        have hb := sz_part hW hp hk e
        have hkd : (if τ 8 p = 3 then τ' 3 (3 * (τ 9 p).toNat + k) else if τ 8 p = 6 then (4 : Int) else kd) = (if τ 8 p = 3 then τ 3 (3 * (τ 9 p).toNat + k) else if τ 8 p = 6 then 4 else kd) := by
          by_cases c : τ 8 p = 3
          · rw [if_pos c, if_pos c]
            obtain ⟨t, cc, t1, t2, t3, -⟩ := (hW.2.2 p hp).2.2.2.2.2.2.2.2.2.2.2.2.2.1 c
            have := ((hK t t1).2 cc t2).2 k hk
            rw [show (τ 9 p).toNat = 4 * t + cc by omega]
            exact this
          · rw [if_neg c, if_neg c]
        rw [hkd]
        exact bnS_ext hW hK hP N (prt τ p k).toNat _ (by omega)
    rw [bnS_s, bnS_s, sub 0 (by omega), sub 1 (by omega), sub 2 (by omega), e8, e9]
theorem bnC_ext {τ τ' : Sg} {nm : Int} {c : Nat} (hW : WFP τ) (hM : WFM τ) (hc : (c : Int) < τ 0 23) (hK : ExtK τ τ') (hP : ExtP τ τ') (h19 : τ' 19 = τ 19) (h20 : τ' 20 = τ 20) (h21 : τ' 0 21 = τ 0 21) : bnC τ' c nm = bnC τ c nm := by
  have h1 := (hM.2.2.2.2 c hc).1
  have sub : ∀ k : Nat, k < 3 → (if τ' 0 21 ≤ (k : Int) then (false, true) else bnS τ' nm 61 (cpt τ' c k).toNat (τ' 19 k)) = (if τ 0 21 ≤ (k : Int) then (false, true) else bnS τ nm 61 (cpt τ c k).toNat (τ 19 k)) := by
    intro k hk
    rw [h21]
    by_cases g : τ 0 21 ≤ (k : Int)
    · rw [if_pos g, if_pos g]
    · have hf := (h1 k hk).1 (by omega)
      have ec : cpt τ' c k = cpt τ c k := by unfold cpt; rw [h20]
      rw [if_neg g, if_neg g, h19, ec]
      exact bnS_ext hW hK hP 61 _ _ (by have := hf.1; have := hf.2.1; omega)
  have s0 := sub 0 (by omega)
  have s1 := sub 1 (by omega)
  have s2 := sub 2 (by omega)
  unfold bnC
  dsimp only
  rw [s0, s1, s2]
theorem WFM.mono {τ τ' : Sg} (hW : WFP τ) (hM : WFM τ) (hK : ExtK τ τ') (hP : ExtP τ τ') (hr : ∀ r, 19 ≤ r → r ≤ 24 → τ' r = τ r) (h21 : τ' 0 21 = τ 0 21) (h23 : τ' 0 23 = τ 0 23) : WFM τ' := by
  obtain ⟨w1, w2, w3, w4, w5⟩ := id hM
  refine ⟨by rw [h21]; exact w1, by rw [h23]; exact w2, fun k hk => by rw [hr 19 (by omega) (by omega)]; exact w3 k (by omega), fun q => by rw [h23]; exact w4 (by omega), fun c hc => ?_⟩
  have hc' : (c : Int) < τ 0 23 := by omega
  obtain ⟨f1, f2, f3, f4⟩ := w5 c hc'
  have ec : ∀ k, cpt τ' c k = cpt τ c k := fun k => by unfold cpt; rw [hr 20 (by omega) (by omega)]
  unfold WFM1
  rw [hr 21 (by omega) (by omega), hr 22 (by omega) (by omega), hr 23 (by omega) (by omega), hr 24 (by omega) (by omega), hr 19 (by omega) (by omega), h21]
  refine ⟨fun k hk => ?_, f2, f3, ?_⟩
  · rw [ec]
    exact ⟨fun q => hP.fits ((f1 k hk).1 q), (f1 k hk).2⟩
  · rw [bnC_ext hW hM hc' hK hP (hr 19 (by omega) (by omega)) (hr 20 (by omega) (by omega)) h21]
    exact f4
theorem RM.mono {σ σ' τ τ' : Sg} (h : RM σ τ) (hW : WFP τ) (hK : ExtK τ τ') (hP : ExtP τ τ') (hs : ∀ r, 24 ≤ r → r ≤ 26 → σ' r = σ r) (hr : ∀ r, 19 ≤ r → r ≤ 25 → τ' r = τ r) (h21 : τ' 0 21 = τ 0 21) (h23 : τ' 0 23 = τ 0 23) : RM σ' τ' := by
  obtain ⟨h1, h2, h3, h4, h5⟩ := h
  refine ⟨by rw [hs 24 (by omega) (by omega), h21]; exact h1, by rw [hs 24 (by omega) (by omega), h23]; exact h2, fun k hk => by rw [hs 25 (by omega) (by omega), hr 19 (by omega) (by omega)]; exact h3 k hk, h4.mono hW hK hP (fun r r1 r2 => hr r r1 (by omega)) h21 h23, fun c hc => ?_⟩
  obtain ⟨f1, f2, f3, f4, f5⟩ := h5 c (by omega)
  unfold RM1
  rw [hs 26 (by omega) (by omega), hr 21 (by omega) (by omega), hr 22 (by omega) (by omega), hr 23 (by omega) (by omega), hr 24 (by omega) (by omega), hr 25 (by omega) (by omega)]
  refine ⟨fun k hk => ?_, f2, f3, f4, f5⟩
  have ec : cpt τ' c k = cpt τ c k := by unfold cpt; rw [hr 20 (by omega) (by omega)]
  rw [ec]; exact f1 k hk
theorem ExtK.same {τ τ' : Sg} (h : ∀ r, 1 ≤ r → r ≤ 3 → τ' r = τ r) : ExtK τ τ' := by
  intro t ht
  rw [h 1 (by omega) (by omega), h 2 (by omega) (by omega), h 3 (by omega) (by omega)]
  exact ⟨Int.le_refl _, fun c _ => ⟨rfl, fun k _ => rfl⟩⟩
theorem ExtP.same {τ τ' : Sg} (h9 : τ' 0 9 = τ 0 9) (h : ∀ r, 8 ≤ r → r ≤ 17 → τ' r = τ r) : ExtP τ τ' := by
  refine ⟨by omega, fun p hp => ⟨fun r hr => ?_, fun k hk => by rw [h 11 (by omega) (by omega)]⟩⟩
  simp only [List.mem_cons, List.not_mem_nil, or_false] at hr
  rw [h r (by omega) (by omega)]
