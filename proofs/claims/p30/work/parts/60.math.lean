/-! patterns and kinds that only grow -/
theorem ExtP.prtE {τ τ' : Sg} (h : ExtP τ τ') {p k : Nat} (hp : (p : Int) < τ 0 9) (hk : k < 3) : prt τ' p k = prt τ p k := (h.2 p hp).2 k hk
theorem ExtP.row {τ τ' : Sg} (h : ExtP τ τ') {p : Nat} (hp : (p : Int) < τ 0 9) {r : Nat} (hr : r ∈ [8, 9, 10, 12, 13, 14, 15, 16, 17]) : τ' r p = τ r p := (h.2 p hp).1 r hr
theorem ExtP.fits {τ τ' : Sg} (h : ExtP τ τ') {x k : Int} (hf : fitsK τ x k) : fitsK τ' x k := by
  obtain ⟨h1, h2, h3⟩ := hf
  exact ⟨h1, Int.lt_of_lt_of_le h2 h.1, by rw [h.row (by omega) (by decide)]; exact h3⟩
theorem ExtP.szoE {τ τ' : Sg} (h : ExtP τ τ') {x : Int} (hx : x < τ 0 9) : szo τ' x = szo τ x := by
  unfold szo
  split
  · rfl
  · rw [h.row (by omega) (by decide)]
theorem ExtP.dpoE {τ τ' : Sg} (h : ExtP τ τ') {x : Int} (hx : x < τ 0 9) : dpo τ' x = dpo τ x := by
  unfold dpo
  split
  · rfl
  · rw [h.row (by omega) (by decide)]
theorem ExtP.nmoE {τ τ' : Sg} (h : ExtP τ τ') {x : Int} (hx : x < τ 0 9) : nmo τ' x = nmo τ x := by
  unfold nmo
  split
  · rfl
  · rw [h.row (by omega) (by decide)]
theorem WFP1.mono {τ τ' : Sg} {p : Nat} (hP : ExtP τ τ') (hK : ExtK τ τ') (hF : WFK (τ 1) (τ 2) (τ 3)) (hp : (p : Int) < τ 0 9) (h : WFP1 τ p) : WFP1 τ' p := by
  obtain ⟨w1, w2, w3, w4, w5, w6, w7, w8, w9, w10, f0, f1, f2, f3, f4, f5, f6⟩ := h
  have e0 := hP.prtE hp (k := 0) (by omega)
  have e1 := hP.prtE hp (k := 1) (by omega)
  have e2 := hP.prtE hp (k := 2) (by omega)
  have l : ∀ k : Nat, k < 3 → prt τ p k < τ 0 9 := fun k hk => by have := (w2 k hk).2; omega
  have r8 := hP.row hp (r := 8) (by decide)
  have r9 := hP.row hp (r := 9) (by decide)
  have r10 := hP.row hp (r := 10) (by decide)
  have r12 := hP.row hp (r := 12) (by decide)
  have r13 := hP.row hp (r := 13) (by decide)
  have r14 := hP.row hp (r := 14) (by decide)
  have r15 := hP.row hp (r := 15) (by decide)
  have r16 := hP.row hp (r := 16) (by decide)
  have r17 := hP.row hp (r := 17) (by decide)
  have s0 := hP.szoE (l 0 (by omega))
  have s1 := hP.szoE (l 1 (by omega))
  have s2 := hP.szoE (l 2 (by omega))
  have d0 := hP.dpoE (l 0 (by omega))
  have d1 := hP.dpoE (l 1 (by omega))
  have d2 := hP.dpoE (l 2 (by omega))
  have n0 := hP.nmoE (l 0 (by omega))
  have n1 := hP.nmoE (l 1 (by omega))
  have n2 := hP.nmoE (l 2 (by omega))
  have q : ∀ (k : Nat) (r : Nat), k < 3 → 0 ≤ prt τ p k → r ∈ [8, 9, 10, 12, 13, 14, 15, 16, 17] → τ' r (prt τ p k).toNat = τ r (prt τ p k).toNat := fun k r hk h0 hr => hP.row (by have := l k hk; omega) hr
  unfold WFP1
  rw [e0, e1, e2, r8, r9, r10, r12, r13, r14, r15, r16, r17, s0, s1, s2, d0, d1, d2, n0, n1, n2]
  refine ⟨w1, fun k hk => by rw [hP.prtE hp hk]; exact w2 k hk, w3, w4, w5, w6, w7, w8, w9, w10, f0, ?_, f2, ?_, ?_, ?_, ?_⟩
  · intro h1
    obtain ⟨g1, g2, g3, g4, g5, g6, g7⟩ := f1 h1
    exact ⟨g1, g2, g3, g4, by rw [q 0 12 (by omega) g2 (by decide)]; exact g5, g6, by rw [q 0 15 (by omega) g2 (by decide)]; exact g7⟩
  · intro h3
    obtain ⟨t, c, g1, g2, g3, g4, g5, g6⟩ := f3 h3
    obtain ⟨k1, k2⟩ := hK t g1
    obtain ⟨k3, k4⟩ := k2 c g2
    refine ⟨t, c, g1, by omega, g3, g4, g5, fun k hk => ?_⟩
    rw [k3, hP.prtE hp hk]
    exact ⟨fun h => by rw [k4 k hk]; exact hP.fits ((g6 k hk).1 h), (g6 k hk).2⟩
  · intro h4
    obtain ⟨g1, g2, g3, g4, g5, g6, g7⟩ := f4 h4
    rw [q 0 12 (by omega) g1 (by decide), q 1 12 (by omega) g2 (by decide), q 0 15 (by omega) g1 (by decide), q 1 15 (by omega) g2 (by decide), q 0 17 (by omega) g1 (by decide), q 1 17 (by omega) g2 (by decide)]
    exact ⟨g1, g2, g3, g4, g5, g6, g7⟩
  · intro h5
    obtain ⟨g1, g2, g3, g4, g5, g6, g7⟩ := f5 h5
    rw [q 0 17 (by omega) g2 (by decide)]
    exact ⟨g1, g2, g3, g4, g5, g6, g7⟩
  · intro h6
    obtain ⟨g1, g2, g3, g4, g5, g6⟩ := f6 h6
    exact ⟨g1, g2, g3, g4, g5, fun k hk => ⟨fun h => by rw [hP.prtE hp (by omega)]; exact hP.fits ((g6 k hk).1 h), fun h => by rw [hP.prtE hp (by omega)]; exact (g6 k hk).2 h⟩⟩
theorem bareM_eq {τ τ' : Sg} {d : Int} (hP : ExtP τ τ') (hw : ∀ p : Nat, (p : Int) < τ 0 9 → WFP1 τ p) : ∀ (N p m m' : Nat), p < N → (p : Int) < τ 0 9 → p < m → p < m' → bareM τ' m' p d = bareM τ m p d := by
  intro N
  induction N with
  | zero => intro p m m' h; omega
  | succ N ih =>
    intro p m m' hN hp hm hm'
    obtain ⟨m, rfl⟩ : ∃ x, m = x + 1 := ⟨m - 1, by omega⟩
    obtain ⟨m', rfl⟩ : ∃ x, m' = x + 1 := ⟨m' - 1, by omega⟩
    have w := hw p hp
    unfold bareM
    rw [hP.row hp (r := 8) (by decide), hP.row hp (r := 9) (by decide), hP.row hp (r := 10) (by decide), hP.prtE hp (k := 0) (by omega), hP.prtE hp (k := 1) (by omega)]
    by_cases c4 : τ 8 p = 4
    · obtain ⟨g1, g2, -⟩ := w.2.2.2.2.2.2.2.2.2.2.2.2.2.2.1 c4
      have b0 := (w.2.1 0 (by omega)).2
      have b1 := (w.2.1 1 (by omega)).2
      rw [ih (prt τ p 0).toNat m m' (by omega) (by omega) (by omega) (by omega), ih (prt τ p 1).toNat m m' (by omega) (by omega) (by omega) (by omega)]
    · rw [if_neg c4, if_neg c4]
theorem ExtP.rfl' {τ : Sg} : ExtP τ τ := ⟨Int.le_refl _, fun _ _ => ⟨fun _ _ => rfl, fun _ _ => rfl⟩⟩
theorem ExtK.rfl' {τ : Sg} : ExtK τ τ := fun _ _ => ⟨Int.le_refl _, fun _ _ => ⟨rfl, fun _ _ => rfl⟩⟩
/-- the class's old patterns -/
theorem RP1.mono {σ σ' τ τ' : Sg} {p : Nat} (hP : ExtP τ τ') (hw : ∀ p : Nat, (p : Int) < τ 0 9 → WFP1 τ p) (hp : (p : Int) < τ 0 9) (hs : ∀ r ∈ [11, 12, 13, 14, 16, 17, 18, 19, 20, 21], σ' r p = σ r p) (hs15 : ∀ k : Nat, k < 3 → σ' 15 (3 * p + k) = σ 15 (3 * p + k)) (h : RP1 σ τ p) : RP1 σ' τ' p := by
  unfold RP1 at h ⊢
  have e0 := hP.prtE hp (k := 0) (by omega)
  have e1 := hP.prtE hp (k := 1) (by omega)
  have e2 := hP.prtE hp (k := 2) (by omega)
  have es : sortOf τ' p = sortOf τ p := by unfold sortOf; rw [hP.row hp (r := 8) (by decide), hP.row hp (r := 10) (by decide)]
  have el : lowOf τ' p = lowOf τ p := by unfold lowOf; rw [hP.row hp (r := 8) (by decide), hP.row hp (r := 9) (by decide)]
  have eh : highOf τ' p = highOf τ p := by unfold highOf; rw [hP.row hp (r := 8) (by decide), hP.row hp (r := 9) (by decide), hP.row hp (r := 10) (by decide)]
  have ep : pcOf τ' p = pcOf τ p := by unfold pcOf; rw [e0, e1, e2]
  rw [hs 11 (by decide), hs 12 (by decide), hs 13 (by decide), hs 14 (by decide), hs 16 (by decide), hs 17 (by decide), hs 18 (by decide), hs 19 (by decide), hs 20 (by decide), hs 21 (by decide), es, el, eh, ep, hP.row hp (r := 12) (by decide), hP.row hp (r := 13) (by decide), hP.row hp (r := 14) (by decide), hP.row hp (r := 15) (by decide), hP.row hp (r := 16) (by decide), hP.row hp (r := 17) (by decide)]
  obtain ⟨h1, h2, h3, h4, h5, h6, h7, h8, h9, h10, h11, h12, h13⟩ := h
  refine ⟨h1, h2, h3, h4, fun k hk => by rw [hs15 k hk, hP.prtE hp hk]; exact h5 k hk, h6, h7, h8, h9, h10, h11, h12, fun hb d hd => ?_⟩
  rw [bareM_eq hP hw (p + 1) p (p + 1) (p + 1) (by omega) hp (by omega) (by omega)]
  exact h13 hb d hd
