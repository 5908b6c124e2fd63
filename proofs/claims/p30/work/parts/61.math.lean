/-! one pattern more, on both sides -/
theorem KM.ext {τ τ' : Sg} {n : Nat} {fm hd rs p0 p1 p2 kd : Int} (hN : τ 0 9 = n) (h : KM τ τ' n fm hd rs p0 p1 p2 kd) : ExtP τ τ' := by
  obtain ⟨m1, m2, m3, m4, m5, -⟩ := h
  refine ⟨by omega, fun p hp => ⟨fun r hr => m4 r hr p (by omega), fun k hk => m5 _ (by omega)⟩⟩
theorem KM.extK {τ τ' : Sg} {n : Nat} {fm hd rs p0 p1 p2 kd : Int} (h : KM τ τ' n fm hd rs p0 p1 p2 kd) : ExtK τ τ' := by
  obtain ⟨m1, -⟩ := h
  intro t ht
  rw [m1 1 (by decide), m1 2 (by decide), m1 3 (by decide)]
  exact ⟨Int.le_refl _, fun _ _ => ⟨rfl, fun _ _ => rfl⟩⟩
/-- what an operation has tested of a new pattern -/
def NewP (τ : Sg) (n : Nat) (fm hd rs p0 p1 p2 kd : Int) : Prop :=
  (0 ≤ fm ∧ fm ≤ 6) ∧ okp n p0 ∧ okp n p1 ∧ okp n p2 ∧ 1 + szo τ p0 + szo τ p1 + szo τ p2 ≤ 40 ∧
  max3 (dpo τ p0) (dpo τ p1) (dpo τ p2) + (if fm = 1 ∨ fm = 4 ∨ fm = 5 then 0 else 1) ≤ 4 ∧
  (fm = 0 → hd = 0 ∧ rs = 0 ∧ p0 = -1 ∧ p1 = -1 ∧ p2 = -1 ∧ kd = -1) ∧
  (fm = 1 → (0 ≤ hd ∧ hd ≤ 5) ∧ 0 ≤ p0 ∧ p1 = -1 ∧ p2 = -1 ∧ kd = τ 12 p0.toNat ∧ ¬ (τ 15 p0.toNat).toNat.testBit hd.toNat = true) ∧
  (fm = 2 → (0 ≤ hd ∧ hd ≤ rs ∧ rs ≤ 9) ∧ p0 = -1 ∧ p1 = -1 ∧ p2 = -1 ∧ kd = 4) ∧
  (fm = 3 → ∃ t c : Nat, t < 4 ∧ (c : Int) < τ 1 t ∧ hd = 4 * t + c ∧ kd = t ∧ ∀ k : Nat, k < 3 → ((k : Int) < τ 2 (4 * t + c) → fitsK τ (F_X10_pick k p0 p1 p2) (τ 3 (3 * (4 * t + c) + k))) ∧ (τ 2 (4 * t + c) ≤ k → F_X10_pick k p0 p1 p2 = -1)) ∧
  (fm = 4 → 0 ≤ p0 ∧ 0 ≤ p1 ∧ p2 = -1 ∧ kd = (if τ 12 p0.toNat = -1 then τ 12 p1.toNat else τ 12 p0.toNat) ∧ (τ 12 p0.toNat = -1 ∨ τ 12 p1.toNat = -1 ∨ τ 12 p0.toNat = τ 12 p1.toNat) ∧ τ 15 p0.toNat = τ 15 p1.toNat) ∧
  (fm = 5 → (0 ≤ hd ∧ hd ≤ 2) ∧ 0 ≤ p0 ∧ p1 = -1 ∧ p2 = -1 ∧ kd = -1 ∧ τ 17 p0.toNat = 1) ∧
  (fm = 6 → (0 ≤ hd ∧ hd ≤ 2) ∧ (0 ≤ rs ∧ rs ≤ 2) ∧ kd = 5 ∧ p2 = -1 ∧ ∀ k : Nat, k < 2 → ((k : Int) < hd → fitsK τ (F_X10_pick k p0 p1 p2) 4) ∧ (hd ≤ k → F_X10_pick k p0 p1 p2 = -1))
theorem nmo_b {τ : Sg} {n : Nat} {p : Int} (hN : τ 0 9 = n) (hw : ∀ p : Nat, (p : Int) < τ 0 9 → WFP1 τ p) (hp : okp n p) : 0 ≤ nmo τ p ∧ nmo τ p < 64 := by
  unfold nmo
  split
  · omega
  · exact (hw p.toNat (by rcases hp with h | h <;> omega)).2.2.2.2.2.2.1
theorem shl_b {h : Int} (hh : 0 ≤ h ∧ h ≤ 5) : 0 ≤ jshl 1 h ∧ jshl 1 h < 64 := by
  have := bit_a ⟨h.toNat, by omega⟩
  simp only at this
  rw [show ((h.toNat : Nat) : Int) = h by omega] at this
  have h2 : 2 ^ h.toNat < 64 := Nat.lt_of_lt_of_le (Nat.pow_lt_pow_right (a := 2) (by omega) (show h.toNat < 6 by omega)) (by decide)
  rw [this]
  generalize 2 ^ h.toNat = N at h2
  omega
set_option maxHeartbeats 4000000 in
theorem NewP.wf {τ τ' : Sg} {n : Nat} {fm hd rs p0 p1 p2 kd : Int} (hN : τ 0 9 = n) (hw : ∀ p : Nat, (p : Int) < τ 0 9 → WFP1 τ p) (hF : WFK (τ 1) (τ 2) (τ 3)) (hM : KM τ τ' n fm hd rs p0 p1 p2 kd) (h : NewP τ n fm hd rs p0 p1 p2 kd) : WFP1 τ' n := by
  have hP := hM.ext hN
  obtain ⟨m1, m2, m3, m4, m5, t8, t9, t10, t12, q0, q1, q2, t15, t13, t14, t16, t16', t17, t17'⟩ := hM
  obtain ⟨c0, o0, o1, o2, c1, c2, f0, f1, f2, f3, f4, f5, f6⟩ := h
  have e0 : prt τ' n 0 = p0 := q0
  have e1 : prt τ' n 1 = p1 := q1
  have e2 : prt τ' n 2 = p2 := q2
  have ek : ∀ k : Nat, k < 3 → prt τ' n k = F_X10_pick k p0 p1 p2 := by
    intro k hk
    have : k = 0 ∨ k = 1 ∨ k = 2 := by omega
    rcases this with rfl | rfl | rfl
    · exact q0
    · exact q1
    · exact q2
  have lt : ∀ p, okp n p → p < τ 0 9 := fun p hp => by rcases hp with h | h <;> omega
  have s0 := hP.szoE (lt p0 o0)
  have s1 := hP.szoE (lt p1 o1)
  have s2 := hP.szoE (lt p2 o2)
  have d0 := hP.dpoE (lt p0 o0)
  have d1 := hP.dpoE (lt p1 o1)
  have d2 := hP.dpoE (lt p2 o2)
  have n0 := hP.nmoE (lt p0 o0)
  have n1 := hP.nmoE (lt p1 o1)
  have n2 := hP.nmoE (lt p2 o2)
  have q : ∀ (p : Int) (r : Nat), okp n p → 0 ≤ p → r ∈ [8, 9, 10, 12, 13, 14, 15, 16, 17] → τ' r p.toNat = τ r p.toNat := fun p r hp h0 hr => hP.row (by rcases hp with h | h <;> omega) hr
  have hbr : ∀ p, bro τ p ↔ (p = -1 ∨ τ 17 p.toNat = 1) := fun p => Iff.rfl
  have hnm : 0 ≤ τ' 15 n ∧ τ' 15 n < 64 := by
    rw [t15]
    have b0 := nmo_b hN hw o0
    have b1 := nmo_b hN hw o1
    have b2 := nmo_b hN hw o2
    by_cases c : fm = 1
    · rw [if_pos c]; exact (names_eq (shl_b (f1 c).1) b0 b1 b2).2
    · rw [if_neg c]; exact (names_eq0 b0 b1 b2).2
  have kinds : τ' 1 = τ 1 ∧ τ' 2 = τ 2 ∧ τ' 3 = τ 3 := ⟨m1 1 (by decide), m1 2 (by decide), m1 3 (by decide)⟩
  unfold WFP1
  rw [e0, e1, e2, s0, s1, s2, d0, d1, d2, n0, n1, n2, t8, t9, t10, t12, t13, t14, kinds.1, kinds.2.1, kinds.2.2]
  refine ⟨c0, ?_, rfl, c1, rfl, c2, hnm, t15, t16, t17, ?_, ?_, ?_, ?_, ?_, ?_, ?_⟩
  · intro k hk
    rw [ek k hk]
    have : k = 0 ∨ k = 1 ∨ k = 2 := by omega
    rcases this with rfl | rfl | rfl
    · show -1 ≤ p0 ∧ p0 < n; rcases o0 with h | h <;> omega
    · show -1 ≤ p1 ∧ p1 < n; rcases o1 with h | h <;> omega
    · show -1 ≤ p2 ∧ p2 < n; rcases o2 with h | h <;> omega
  · intro c
    obtain ⟨g1, g2, g3, g4, g5, g6⟩ := f0 c
    exact ⟨g1, g2, g3, g4, g5, g6, t17'.mpr ⟨by omega, Or.inl g3, Or.inl g4, Or.inl g5⟩⟩
  · intro c
    obtain ⟨g1, g2, g3, g4, g5, g6⟩ := f1 c
    refine ⟨g1, g2, g3, g4, by rw [q p0 12 o0 g2 (by decide)]; exact g5, ?_, by rw [q p0 15 o0 g2 (by decide)]; exact g6⟩
    rcases t17 with h | h
    · exact h
    · have := (t17'.mp h).1; omega
  · intro c
    obtain ⟨g1, g2, g3, g4, g5⟩ := f2 c
    exact ⟨g1, g2, g3, g4, g5, t17'.mpr ⟨by omega, Or.inl g2, Or.inl g3, Or.inl g4⟩⟩
  · intro c
    obtain ⟨t, cc, g1, g2, g3, g4, g5⟩ := f3 c
    refine ⟨t, cc, g1, g2, g3, g4, ?_, fun k hk => ?_⟩
    · rcases t17 with h | h
      · exact h
      · have := (t17'.mp h).1; omega
    · rw [ek k hk]
      exact ⟨fun h => hP.fits ((g5 k hk).1 h), (g5 k hk).2⟩
  · intro c
    obtain ⟨g1, g2, g3, g4, g5, g6⟩ := f4 c
    rw [q p0 12 o0 g1 (by decide), q p1 12 o1 g2 (by decide), q p0 15 o0 g1 (by decide), q p1 15 o1 g2 (by decide), q p0 17 o0 g1 (by decide), q p1 17 o1 g2 (by decide)]
    refine ⟨g1, g2, g3, g4, g5, g6, ?_⟩
    rw [t17', hbr, hbr, hbr]
    constructor
    · rintro ⟨-, h0, h1, -⟩; exact ⟨by omega, by omega⟩
    · rintro ⟨h0, h1⟩; exact ⟨by omega, Or.inr h0, Or.inr h1, Or.inl g3⟩
  · intro c
    obtain ⟨g1, g2, g3, g4, g5, g6⟩ := f5 c
    rw [q p0 17 o0 g2 (by decide)]
    refine ⟨g1, g2, g3, g4, g5, ?_, g6⟩
    rcases t17 with h | h
    · exact h
    · have := (t17'.mp h).1; omega
  · intro c
    obtain ⟨g1, g2, g3, g4, g5⟩ := f6 c
    refine ⟨g1, g2, g3, ?_, g4, fun k hk => ?_⟩
    · rcases t17 with h | h
      · exact h
      · have := (t17'.mp h).1; omega
    · rw [ek k (by omega)]
      exact ⟨fun h => hP.fits ((g5 k hk).1 h), (g5 k hk).2⟩
set_option maxHeartbeats 4000000 in
theorem NewP.rp {σ τ τ' : Sg} {n : Nat} {so lo hi fm hd rs p0 p1 p2 kd vf : Int} (hr : RP σ τ) (hN : τ 0 9 = n) (hn : n < 60) (hF : WFK (τ 1) (τ 2) (τ 3)) (hM : KM τ τ' n fm hd rs p0 p1 p2 kd) (h : NewP τ n fm hd rs p0 p1 p2 kd)
    (hso : so = if fm = 6 ∧ rs = 2 then 7 else fm) (hlo : lo = if fm = 3 then jrem hd 4 else hd) (hhi : hi = if fm = 2 then rs else if fm = 3 then jrem hd 4 else if fm = 6 then (if rs = 0 then hd else 3) else hd)
    (hvf : vf = 0 ∨ vf = 1) (hvf' : vf = 1 ↔ so = 5 ∨ hvC σ p0 ∨ hvC σ p1 ∨ hvC σ p2) :
    RP (cPb (cPa σ n so kd lo hi p0 p1 p2) n (max3 (dpC σ p0) (dpC σ p1) (dpC σ p2) + (if so = 1 ∨ so = 4 ∨ so = 5 then 0 else 1)) (1 + szC σ p0 + szC σ p1 + szC σ p2) (if so = 1 then jor (jor (jor (nmC σ p0) (nmC σ p1)) (nmC σ p2)) (jshl 1 lo) else jor (jor (nmC σ p0) (nmC σ p1)) (nmC σ p2)) vf (dgC σ so lo hi p0 p1)) τ' := by
  obtain ⟨r1, ⟨w1, w2, w3⟩, r3, r4⟩ := hr
  have hP := hM.ext hN
  have hW := h.wf hN w3 hF hM
  have hK := hM.extK
  obtain ⟨m1, m2, m3, m4, m5, t8, t9, t10, t12, q0, q1, q2, t15, t13, t14, t16, t16', t17, t17'⟩ := hM
  obtain ⟨c0, o0, o1, o2, c1, c2, f0, f1, f2, f3, f4, f5, f6⟩ := h
  generalize hdp : max3 (dpC σ p0) (dpC σ p1) (dpC σ p2) + (if so = 1 ∨ so = 4 ∨ so = 5 then 0 else 1) = dp
  generalize hsz : 1 + szC σ p0 + szC σ p1 + szC σ p2 = sz
  generalize hnm : (if so = 1 then jor (jor (jor (nmC σ p0) (nmC σ p1)) (nmC σ p2)) (jshl 1 lo) else jor (jor (nmC σ p0) (nmC σ p1)) (nmC σ p2)) = nm
  generalize hdg : dgC σ so lo hi p0 p1 = dg
  have rp : ∀ p, okp n p → 0 ≤ p → RP1 σ τ p.toNat := fun p hp h0 => r3 p.toNat (by rcases hp with h | h <;> omega)
  have ez : ∀ p, okp n p → szC σ p = szo τ p := fun p hp => by
    unfold szC szo
    rcases hp with h | h
    · rw [if_pos h, if_pos (by omega)]
    · rw [if_neg (by omega), if_neg (by omega)]; exact (rp p (Or.inr h) h.1).2.2.2.2.2.2.2.1
  have ed : ∀ p, okp n p → dpC σ p = dpo τ p := fun p hp => by
    unfold dpC dpo
    rcases hp with h | h
    · rw [if_pos h, if_pos (by omega)]
    · rw [if_neg (by omega), if_neg (by omega)]; exact (rp p (Or.inr h) h.1).2.2.2.2.2.2.1
  have en : ∀ p, okp n p → nmC σ p = nmo τ p := fun p hp => by
    unfold nmC nmo
    rcases hp with h | h
    · rw [if_pos h, if_pos (by omega)]
    · rw [if_neg (by omega), if_neg (by omega)]; exact (rp p (Or.inr h) h.1).2.2.2.2.2.2.2.2.1
  have ev : ∀ p, okp n p → (hvC σ p ↔ hvo τ p) := fun p hp => by
    unfold hvC hvo
    rcases hp with h | h
    · simp [h]
    · rw [(rp p (Or.inr h) h.1).2.2.2.2.2.2.2.2.2.1]
  have es1 : so = 1 ↔ fm = 1 := by rw [hso]; split <;> omega
  have es5 : so = 5 ↔ fm = 5 := by rw [hso]; split <;> omega
  have es4 : so = 4 ↔ fm = 4 := by rw [hso]; split <;> omega
  have es0 : so = 0 ↔ fm = 0 := by rw [hso]; split <;> omega
  have es2 : so = 2 ↔ fm = 2 := by rw [hso]; split <;> omega
  have hnn : (n : Int).toNat = n := by omega
  have x0 : ((n : Int) * 3 + 0).toNat = 3 * n := by omega
  have x1 : ((n : Int) * 3 + 1).toNat = 3 * n + 1 := by omega
  have x2 : ((n : Int) * 3 + 2).toNat = 3 * n + 2 := by omega
  have hdig : (0 ≤ dg ∧ dg < 1024) ∧ (dg = 0 ↔ ¬ τ' 17 n = 1) ∧ (τ' 17 n = 1 → ∀ d : Nat, d < 10 → (dg.toNat.testBit d = true ↔ bareM τ' (n + 1) n d = true)) := by
    have hb0 : ¬ fm = 0 → ¬ fm = 2 → ¬ fm = 4 → dg = 0 := fun g0 g2 g4 => by
      rw [← hdg]; unfold dgC
      rw [if_neg (fun q => g0 (es0.mp q)), if_neg (fun q => g2 (es2.mp q)), if_neg (fun q => g4 (es4.mp q))]
    by_cases g0 : fm = 0
    · obtain ⟨-, -, i0, i1, i2, -⟩ := f0 g0
      have hd1 : dg = 1023 := by rw [← hdg]; unfold dgC; rw [if_pos (es0.mpr g0)]
      have hb1 : τ' 17 n = 1 := t17'.mpr ⟨by omega, Or.inl i0, Or.inl i1, Or.inl i2⟩
      refine ⟨by omega, by omega, fun _ d hd => ?_⟩
      rw [hd1]
      unfold bareM
      rw [t8, if_pos g0]
      have : ∀ d : Fin 10, (1023 : Int).toNat.testBit d.val = true := by decide
      simp only [this ⟨d, hd⟩]
    · by_cases g2 : fm = 2
      · obtain ⟨i1, j0, j1, j2, -⟩ := f2 g2
        have hd1 : dg = jand (jshr 1023 (9 - rs)) (jshl 1023 hd) := by
          rw [← hdg]; unfold dgC
          rw [if_neg (fun q => g0 (es0.mp q)), if_pos (es2.mpr g2), hlo, hhi, if_pos g2, if_neg (by omega)]
        have hb1 : τ' 17 n = 1 := t17'.mpr ⟨by omega, Or.inl j0, Or.inl j1, Or.inl j2⟩
        have hb := bit_d ⟨hd.toNat, by omega⟩ ⟨rs.toNat, by omega⟩ (show hd.toNat ≤ rs.toNat by omega)
        simp only at hb
        rw [show ((rs.toNat : Nat) : Int) = rs by omega, show ((hd.toNat : Nat) : Int) = hd by omega, ← hd1] at hb
        refine ⟨by omega, by omega, fun _ d hd9 => ?_⟩
        unfold bareM
        rw [t8, if_neg (by omega), if_pos g2, t9, t10, hb.2.2 ⟨d, hd9⟩, decide_eq_true_iff]
        show hd.toNat ≤ d ∧ d ≤ rs.toNat ↔ _
        omega
      · by_cases g4 : fm = 4
        · obtain ⟨i0, i1, i2, -, -, -⟩ := f4 g4
          have R0 := rp p0 o0 i0
          have R1 := rp p1 o1 i1
          have hd1 : dg = (if σ 21 p0.toNat = 0 then 0 else if σ 21 p1.toNat = 0 then 0 else jor (σ 21 p0.toNat) (σ 21 p1.toNat)) := by
            rw [← hdg]; unfold dgC
            rw [if_neg (fun q => g0 (es0.mp q)), if_neg (fun q => g2 (es2.mp q)), if_pos (es4.mpr g4)]
          obtain ⟨-, -, -, -, -, -, -, -, -, -, a1, a2, a3⟩ := R0
          obtain ⟨-, -, -, -, -, -, -, -, -, -, b1, b2, b3⟩ := R1
          have hbr : τ' 17 n = 1 ↔ τ 17 p0.toNat = 1 ∧ τ 17 p1.toNat = 1 := by
            rw [t17']
            constructor
            · rintro ⟨-, h0, h1, -⟩
              exact ⟨h0.resolve_left (by omega), h1.resolve_left (by omega)⟩
            · rintro ⟨h0, h1⟩
              exact ⟨by omega, Or.inr h0, Or.inr h1, Or.inl i2⟩
          have hj := jor1024 a1 b1
          refine ⟨?_, ?_, ?_⟩
          · rw [hd1]; split
            · omega
            · split
              · omega
              · exact hj.2
          · rw [hd1, hbr]
            by_cases z0 : σ 21 p0.toNat = 0
            · rw [if_pos z0]
              have := a2.mp z0
              exact ⟨fun _ q => this q.1, fun _ => rfl⟩
            · rw [if_neg z0]
              by_cases z1 : σ 21 p1.toNat = 0
              · rw [if_pos z1]
                have := b2.mp z1
                exact ⟨fun _ q => this q.2, fun _ => rfl⟩
              · rw [if_neg z1]
                have g0 : τ 17 p0.toNat = 1 := Classical.byContradiction fun q => z0 (a2.mpr q)
                have g1 : τ 17 p1.toNat = 1 := Classical.byContradiction fun q => z1 (b2.mpr q)
                refine ⟨fun q => ?_, fun q => absurd ⟨g0, g1⟩ q⟩
                exfalso
                rw [hj.1] at q
                have q2 : (σ 21 p0.toNat).toNat ||| (σ 21 p1.toNat).toNat = 0 := by omega
                have q3 : (σ 21 p0.toNat).toNat ≤ (σ 21 p0.toNat).toNat ||| (σ 21 p1.toNat).toNat := Nat.left_le_or
                omega
          · intro hb d hd9
            obtain ⟨g0', g1'⟩ := hbr.mp hb
            have z0 : ¬ σ 21 p0.toNat = 0 := fun q => (a2.mp q) g0'
            have z1 : ¬ σ 21 p1.toNat = 0 := fun q => (b2.mp q) g1'
            rw [hd1, if_neg z0, if_neg z1, hj.1]
            unfold bareM
            have l0 : p0.toNat < n := by rcases o0 with h | h <;> omega
            have l1 : p1.toNat < n := by rcases o1 with h | h <;> omega
            rw [t8, if_neg g0, if_neg g2, if_pos g4, show prt τ' n 0 = p0 from q0, show prt τ' n 1 = p1 from q1, bareM_eq hP w3 (p0.toNat + 1) p0.toNat (p0.toNat + 1) n (by omega) (by omega) (by omega) l0, bareM_eq hP w3 (p1.toNat + 1) p1.toNat (p1.toNat + 1) n (by omega) (by omega) (by omega) l1]
            rw [Int.toNat_natCast, Nat.testBit_or, Bool.or_eq_true, Bool.or_eq_true, a3 g0' d hd9, b3 g1' d hd9]
        · have hd0 := hb0 g0 g2 g4
          have hn1 : ¬ τ' 17 n = 1 := fun q => by have := (t17'.mp q).1; omega
          exact ⟨by omega, ⟨fun _ => hn1, fun _ => hd0⟩, fun q => absurd q hn1⟩
  have old : ∀ p : Nat, ¬ p = n → (∀ r ∈ [11, 12, 13, 14, 16, 17, 18, 19, 20, 21], cPb (cPa σ n so kd lo hi p0 p1 p2) n dp sz nm vf dg r p = σ r p) ∧ ∀ k : Nat, k < 3 → cPb (cPa σ n so kd lo hi p0 p1 p2) n dp sz nm vf dg 15 (3 * p + k) = σ 15 (3 * p + k) := by
    intro p hp
    unfold cPb cPa
    rw [hnn, x0, x1, x2]
    refine ⟨fun r hr => ?_, fun k hk => ?_⟩
    · simp only [List.mem_cons, List.not_mem_nil, or_false] at hr
      simp (disch := omega) only [bnd_eq, bind_some', wrap_id, rdn_ok, wrn_ok, wbn_ok, rdD_ok, rdD_out, wrD_ok, wrD_out, up2_at, up2_row, up2_idx, iter_s, itp, itn, isIn_iff, in_iff, ↓reduceIte, reduceCtorEq]
    · simp (disch := omega) only [bnd_eq, bind_some', wrap_id, rdn_ok, wrn_ok, wbn_ok, rdD_ok, rdD_out, wrD_ok, wrD_out, up2_at, up2_row, up2_idx, iter_s, itp, itn, isIn_iff, in_iff, ↓reduceIte, reduceCtorEq]
  refine ⟨?_, ⟨by omega, by omega, fun p hp => ?_⟩, fun p hp => ?_, fun p hp hp2 => ?_⟩
  · rw [m3]; unfold cPb cPa; rw [hnn, x0, x1, x2]; simp (disch := omega) only [bnd_eq, bind_some', wrap_id, rdn_ok, wrn_ok, wbn_ok, rdD_ok, rdD_out, wrD_ok, wrD_out, up2_at, up2_row, up2_idx, iter_s, itp, itn, isIn_iff, in_iff, ↓reduceIte, reduceCtorEq]
  · by_cases e : p = n
    · subst e; exact hW
    · exact WFP1.mono hP hK hF (by omega) (w3 p (by omega))
  · by_cases e : p = n
    · subst e
      unfold cPb cPa
      rw [hnn, x0, x1, x2]
      unfold RP1
      have p0' : prt τ' p 0 = p0 := q0
      have p1' : prt τ' p 1 = p1 := q1
      have p2' : prt τ' p 2 = p2 := q2
      refine ⟨?_, ?_, ?_, ?_, ?_, ?_, ?_, ?_, ?_, ?_, ?_, ?_, ?_⟩
      · simp (disch := omega) only [bnd_eq, bind_some', wrap_id, rdn_ok, wrn_ok, wbn_ok, rdD_ok, rdD_out, wrD_ok, wrD_out, up2_at, up2_row, up2_idx, iter_s, itp, itn, isIn_iff, in_iff, ↓reduceIte, reduceCtorEq]; unfold sortOf; rw [t8, t10]; exact hso
      · simp (disch := omega) only [bnd_eq, bind_some', wrap_id, rdn_ok, wrn_ok, wbn_ok, rdD_ok, rdD_out, wrD_ok, wrD_out, up2_at, up2_row, up2_idx, iter_s, itp, itn, isIn_iff, in_iff, ↓reduceIte, reduceCtorEq]; rw [t12]
      · simp (disch := omega) only [bnd_eq, bind_some', wrap_id, rdn_ok, wrn_ok, wbn_ok, rdD_ok, rdD_out, wrD_ok, wrD_out, up2_at, up2_row, up2_idx, iter_s, itp, itn, isIn_iff, in_iff, ↓reduceIte, reduceCtorEq]; unfold lowOf; rw [t8, t9]; exact hlo
      · simp (disch := omega) only [bnd_eq, bind_some', wrap_id, rdn_ok, wrn_ok, wbn_ok, rdD_ok, rdD_out, wrD_ok, wrD_out, up2_at, up2_row, up2_idx, iter_s, itp, itn, isIn_iff, in_iff, ↓reduceIte, reduceCtorEq]; unfold highOf; rw [t8, t9, t10]; exact hhi
      · intro k hk
        have : k = 0 ∨ k = 1 ∨ k = 2 := by omega
        rcases this with rfl | rfl | rfl
        · simp (disch := omega) only [bnd_eq, bind_some', wrap_id, rdn_ok, wrn_ok, wbn_ok, rdD_ok, rdD_out, wrD_ok, wrD_out, up2_at, up2_row, up2_idx, iter_s, itp, itn, isIn_iff, in_iff, ↓reduceIte, reduceCtorEq]; exact q0.symm
        · simp (disch := omega) only [bnd_eq, bind_some', wrap_id, rdn_ok, wrn_ok, wbn_ok, rdD_ok, rdD_out, wrD_ok, wrD_out, up2_at, up2_row, up2_idx, iter_s, itp, itn, isIn_iff, in_iff, ↓reduceIte, reduceCtorEq]; exact q1.symm
        · simp (disch := omega) only [bnd_eq, bind_some', wrap_id, rdn_ok, wrn_ok, wbn_ok, rdD_ok, rdD_out, wrD_ok, wrD_out, up2_at, up2_row, up2_idx, iter_s, itp, itn, isIn_iff, in_iff, ↓reduceIte, reduceCtorEq]; exact q2.symm
      · simp (disch := omega) only [bnd_eq, bind_some', wrap_id, rdn_ok, wrn_ok, wbn_ok, rdD_ok, rdD_out, wrD_ok, wrD_out, up2_at, up2_row, up2_idx, iter_s, itp, itn, isIn_iff, in_iff, ↓reduceIte, reduceCtorEq]; unfold pcOf one; rw [p0', p1', p2']
      · simp (disch := omega) only [bnd_eq, bind_some', wrap_id, rdn_ok, wrn_ok, wbn_ok, rdD_ok, rdD_out, wrD_ok, wrD_out, up2_at, up2_row, up2_idx, iter_s, itp, itn, isIn_iff, in_iff, ↓reduceIte, reduceCtorEq]; rw [t13, ← hdp, ed p0 o0, ed p1 o1, ed p2 o2]; simp only [es1, es4, es5]
      · simp (disch := omega) only [bnd_eq, bind_some', wrap_id, rdn_ok, wrn_ok, wbn_ok, rdD_ok, rdD_out, wrD_ok, wrD_out, up2_at, up2_row, up2_idx, iter_s, itp, itn, isIn_iff, in_iff, ↓reduceIte, reduceCtorEq]; rw [t14, ← hsz, ez p0 o0, ez p1 o1, ez p2 o2]
      · simp (disch := omega) only [bnd_eq, bind_some', wrap_id, rdn_ok, wrn_ok, wbn_ok, rdD_ok, rdD_out, wrD_ok, wrD_out, up2_at, up2_row, up2_idx, iter_s, itp, itn, isIn_iff, in_iff, ↓reduceIte, reduceCtorEq]
        rw [t15, ← hnm, en p0 o0, en p1 o1, en p2 o2]
        have b0 := nmo_b hN w3 o0
        have b1 := nmo_b hN w3 o1
        have b2 := nmo_b hN w3 o2
        by_cases c : fm = 1
        · rw [if_pos (es1.mpr c), if_pos c, hlo, if_neg (by omega)]
          exact (names_eq (shl_b (f1 c).1) b0 b1 b2).1
        · rw [if_neg (fun q => c (es1.mp q)), if_neg c]
          exact (names_eq0 b0 b1 b2).1
      · simp (disch := omega) only [bnd_eq, bind_some', wrap_id, rdn_ok, wrn_ok, wbn_ok, rdD_ok, rdD_out, wrD_ok, wrD_out, up2_at, up2_row, up2_idx, iter_s, itp, itn, isIn_iff, in_iff, ↓reduceIte, reduceCtorEq]
        have : vf = 1 ↔ τ' 16 p = 1 := by rw [hvf', t16', es5, ev p0 o0, ev p1 o1, ev p2 o2]
        rcases hvf with h | h <;> rcases t16 with h' | h' <;> omega
      · simp (disch := omega) only [bnd_eq, bind_some', wrap_id, rdn_ok, wrn_ok, wbn_ok, rdD_ok, rdD_out, wrD_ok, wrD_out, up2_at, up2_row, up2_idx, iter_s, itp, itn, isIn_iff, in_iff, ↓reduceIte, reduceCtorEq]; exact hdig.1
      · simp (disch := omega) only [bnd_eq, bind_some', wrap_id, rdn_ok, wrn_ok, wbn_ok, rdD_ok, rdD_out, wrD_ok, wrD_out, up2_at, up2_row, up2_idx, iter_s, itp, itn, isIn_iff, in_iff, ↓reduceIte, reduceCtorEq]; exact hdig.2.1
      · simp (disch := omega) only [bnd_eq, bind_some', wrap_id, rdn_ok, wrn_ok, wbn_ok, rdD_ok, rdD_out, wrD_ok, wrD_out, up2_at, up2_row, up2_idx, iter_s, itp, itn, isIn_iff, in_iff, ↓reduceIte, reduceCtorEq]; exact hdig.2.2
    · exact RP1.mono hP w3 (by omega) (old p e).1 (old p e).2 (r3 p (by omega))
  · have e : ¬ p = n := by omega
    rw [(old p e).1 16 (by decide)]
    exact r4 p (by omega) hp2
