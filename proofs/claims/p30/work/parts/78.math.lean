/-! split: the class's new match, cell by cell; what ties the new matches -/
theorem dbC_26 {σ : Sg} {a n c j : Nat} (hc : c ≤ n) (hj : j < 8) : dbC σ a n 26 (8 * c + j) = if (c = a ∨ c = a + 1) ∧ j = 7 then 0 else σ 26 (8 * srU a c + j) := by
  have base : shU (up2 σ 24 1 ((n : Int) + 1)) a n 26 (8 * c + j) = σ 26 (8 * srU a c + j) := by
    rw [shU_26 hc hj]; unfold up2; rw [if_neg (by omega)]
  unfold dbC
  generalize shU (up2 σ 24 1 ((n : Int) + 1)) a n = s at *
  unfold up2
  by_cases h : (c = a ∨ c = a + 1) ∧ j = 7
  · rw [if_pos h]
    by_cases h2 : c = a + 1
    · rw [if_pos (by omega)]
    · rw [if_neg (by omega), if_pos (by omega)]
  · rw [if_neg h, if_neg (by omega), if_neg (by omega)]; exact base
theorem cS_26 {σ : Sg} {a n k c j : Nat} {lo hi : Int} (hc : c ≤ n) (hk : k < 3) (hj : j < 8) : cS σ a n k lo hi 26 (8 * c + j) = if c = a ∧ j = k then lo else if c = a + 1 ∧ j = k then hi else if (c = a ∨ c = a + 1) ∧ j = 7 then 0 else σ 26 (8 * srU a c + j) := by
  have base : dbC (F_X10_forgetEngines σ) a n 26 (8 * c + j) = if (c = a ∨ c = a + 1) ∧ j = 7 then 0 else σ 26 (8 * srU a c + j) := by
    rw [dbC_26 hc hj, forget_eq, up2_row (by omega), up2_row (by omega), up2_row (by omega)]
  unfold cS
  generalize dbC (F_X10_forgetEngines σ) a n = s at *
  unfold up2
  by_cases h1 : c = a ∧ j = k
  · rw [if_neg (by omega), if_pos (by omega), if_pos h1]
  · rw [if_neg h1]
    by_cases h2 : c = a + 1 ∧ j = k
    · rw [if_pos (by omega), if_pos h2]
    · rw [if_neg h2, if_neg (by omega), if_neg (by omega)]; exact base
theorem dbC_row {σ : Sg} {a n r i : Nat} (hr : ¬ r = 26) : dbC σ a n r i = if r = 24 ∧ i = 1 then (n : Int) + 1 else σ r i := by
  unfold dbC
  rw [up2_row (by omega), up2_row (by omega)]
  unfold shU
  rw [if_neg (by omega)]
  rfl
theorem cS_row {σ : Sg} {a n k r i : Nat} {lo hi : Int} (hr : r ∉ [24, 26, 33, 43, 49]) : cS σ a n k lo hi r i = σ r i := by
  simp only [List.mem_cons, List.not_mem_nil, or_false, not_or] at hr
  unfold cS
  rw [up2_row (by omega), up2_row (by omega), dbC_row (by omega), if_neg (by omega), forget_eq, up2_row (by omega), up2_row (by omega), up2_row (by omega)]
theorem cS_24 {σ : Sg} {a n k i : Nat} {lo hi : Int} : cS σ a n k lo hi 24 i = if i = 1 then (n : Int) + 1 else σ 24 i := by
  unfold cS
  rw [up2_row (by omega), up2_row (by omega), dbC_row (by omega), forget_eq, up2_row (by omega), up2_row (by omega), up2_row (by omega)]
  by_cases h : i = 1
  · rw [if_pos ⟨rfl, h⟩, if_pos h]
  · rw [if_neg (by omega), if_neg h]
theorem cS_eng {σ : Sg} {a n k : Nat} {lo hi : Int} : cS σ a n k lo hi 33 3 = 0 ∧ cS σ a n k lo hi 43 4 = 0 ∧ cS σ a n k lo hi 49 4 = 0 ∧ cS σ a n k lo hi 43 2 = σ 43 2 ∧ cS σ a n k lo hi 49 2 = σ 49 2 := by
  have h : ∀ r i, ¬ r = 26 → ¬ r = 24 → cS σ a n k lo hi r i = F_X10_forgetEngines σ r i := fun r i h1 h2 => by
    unfold cS
    rw [up2_row h1, up2_row h1, dbC_row h1, if_neg (fun q => h2 q.1)]
  refine ⟨?_, ?_, ?_, ?_, ?_⟩ <;> (rw [h _ _ (by omega) (by omega), forget_eq]; simp (disch := omega) only [bnd_eq, bind_some', wrap_id, rdn_ok, wrn_ok, wbn_ok, rdD_ok, rdD_out, wrD_ok, wrD_out, up2_at, up2_row, up2_idx, iter_s, itp, itn, isIn_iff, in_iff, ↓reduceIte, reduceCtorEq])
/-- the alternatives of a pattern that fits fit -/
theorem alt_fit {τ : Sg} {p k : Nat} {kd : Int} (hW : WFP τ) (hp : (p : Int) < τ 0 9) (hf : fitsK τ p kd) (h4 : τ 8 p = 4) (hk : k < 2) : fitsK τ (prt τ p k) kd := by
  obtain ⟨f1, f2, f3, f4, f5, f6, f7⟩ := (hW.2.2 p hp).2.2.2.2.2.2.2.2.2.2.2.2.2.2.1 h4
  have hfk := hf.2.2
  rw [show ((p : Int)).toNat = p by omega] at hfk
  have b0 := (hW.2.2 p hp).2.1 0 (by omega)
  have b1 := (hW.2.2 p hp).2.1 1 (by omega)
  have : k = 0 ∨ k = 1 := by omega
  rcases this with rfl | rfl
  · refine ⟨f1, by omega, ?_⟩
    by_cases c : τ 12 (prt τ p 0).toNat = -1
    · exact Or.inl c
    · rw [if_neg c] at f4; omega
  · refine ⟨f2, by omega, ?_⟩
    by_cases c : τ 12 (prt τ p 0).toNat = -1
    · rw [if_pos c] at f4; omega
    · rw [if_neg c] at f4; omega
set_option maxHeartbeats 4000000 in
theorem RM.split {σ τ : Sg} {a n k p : Nat} (hW : WFP τ) (h : RM σ τ) (hn : τ 0 23 = n) (h8 : n < 8) (ha : a < n) (hk : k < 3) (hk2 : (k : Int) < τ 0 21) (hg : τ 22 a = -1) (hp : cpt τ a k = p) (h4 : τ 8 p = 4) : RM (cS σ a n k (prt τ p 0) (prt τ p 1)) (mS τ a n k (prt τ p 0) (prt τ p 1)) := by
  obtain ⟨h1, h2, h3, ⟨w1, w2, w3, w4, w5⟩, h5⟩ := h
  have hpf := ((w5 a (by omega)).1 k hk).1 hk2
  rw [hp] at hpf
  have hpn : (p : Int) < τ 0 9 := hpf.2.1
  have fl := alt_fit hW hpn hpf h4 (k := 0) (by omega)
  have fh := alt_fit hW hpn hpf h4 (k := 1) (by omega)
  generalize prt τ p 0 = lo at *
  generalize prt τ p 1 = hi at *
  have m0 : ∀ i, mS τ a n k lo hi 0 i = if i = 54 then -1 else if i = 23 then (n : Int) + 1 else if i = 0 then 0 else τ 0 i := fun i => mS_0
  have mr : ∀ r, r ∉ [0, 20, 21, 22, 23, 24, 25] → mS τ a n k lo hi r = τ r := fun r hr => mS_row hr
  have m20 : ∀ c j : Nat, c ≤ n → j < 3 → cpt (mS τ a n k lo hi) c j = if c = a ∧ j = k then lo else if c = a + 1 ∧ j = k then hi else cpt τ (srU a c) j := fun c j hc hj => mS_20 ha hc hk hj
  have m21 : ∀ c r : Nat, c ≤ n → 21 ≤ r ∧ r ≤ 24 → mS τ a n k lo hi r c = τ r (srU a c) := fun c r hc hr => mS_r ha hc hr
  have m25 : ∀ c : Nat, c ≤ n → mS τ a n k lo hi 25 c = if c = a ∨ c = a + 1 then 0 else τ 25 (srU a c) := fun c hc => mS_25 ha hc
  have c26 : ∀ c j : Nat, c ≤ n → j < 8 → cS σ a n k lo hi 26 (8 * c + j) = if c = a ∧ j = k then lo else if c = a + 1 ∧ j = k then hi else if (c = a ∨ c = a + 1) ∧ j = 7 then 0 else σ 26 (8 * srU a c + j) := fun c j hc hj => cS_26 hc hk hj
  have c24 : ∀ i, cS σ a n k lo hi 24 i = if i = 1 then (n : Int) + 1 else σ 24 i := fun i => cS_24
  have c25 : ∀ i, cS σ a n k lo hi 25 i = σ 25 i := fun i => cS_row (by decide)
  generalize cS σ a n k lo hi = σ' at *
  generalize mS τ a n k lo hi = τ' at *
  have e21 : τ' 0 21 = τ 0 21 := by rw [m0, if_neg (by omega), if_neg (by omega), if_neg (by omega)]
  have e23 : τ' 0 23 = (n : Int) + 1 := by rw [m0, if_neg (by omega), if_pos rfl]
  have e9 : τ' 0 9 = τ 0 9 := by rw [m0, if_neg (by omega), if_neg (by omega), if_neg (by omega)]
  have e19 := mr 19 (by decide)
  have e12 := mr 12 (by decide)
  have fk : ∀ x k, fitsK τ' x k ↔ fitsK τ x k := fun x k => by unfold fitsK; rw [e9, e12]
  have sr : ∀ c : Nat, c ≤ n → srU a c < n := fun c hc => by unfold srU; split <;> omega
  have sra : ∀ c : Nat, c = a ∨ c = a + 1 → srU a c = a := fun c hc => by unfold srU; split <;> omega
  refine ⟨by rw [c24, if_neg (by omega), e21]; exact h1, by rw [c24, if_pos rfl, e23], fun j hj => by rw [c25, e19]; exact h3 j hj, ⟨by rw [e21]; exact w1, by omega, fun j hj => by rw [e19]; exact w3 j (by omega), fun q => by omega, fun c hc => ?_⟩, fun c hc => ?_⟩
  · have hcn : c ≤ n := by omega
    obtain ⟨f1, f2, f3, f4⟩ := w5 (srU a c) (by have := sr c hcn; omega)
    unfold WFM1
    rw [m21 c 21 hcn (by omega), m21 c 22 hcn (by omega), m21 c 23 hcn (by omega), m21 c 24 hcn (by omega), e21, e19]
    refine ⟨fun j hj => ?_, f2, f3, fun q => ?_⟩
    · rw [m20 c j hcn hj]
      by_cases q1 : c = a ∧ j = k
      · rw [if_pos q1, q1.2]
        exact ⟨fun _ => (fk _ _).mpr fl, fun q => by omega⟩
      · rw [if_neg q1]
        by_cases q2 : c = a + 1 ∧ j = k
        · rw [if_pos q2, q2.2]
          exact ⟨fun _ => (fk _ _).mpr fh, fun q => by omega⟩
        · rw [if_neg q2]
          exact ⟨fun q => (fk _ _).mpr ((f1 j hj).1 q), (f1 j hj).2⟩
    · have hca : ¬ (c = a ∨ c = a + 1) := fun z => by rw [sra c z] at q; exact q hg
      rw [bnC_src (c0 := srU a c) (mr 3 (by decide)) (mr 8 (by decide)) (mr 9 (by decide)) (mr 11 (by decide)) (fun j _ => by rw [e19]) e21 (fun j hj => by rw [m20 c j hcn hj, if_neg (by omega), if_neg (by omega)])]
      exact f4 q
  · have hcn : c ≤ n := by omega
    obtain ⟨f1, f2, f3, f4, f5⟩ := h5 (srU a c) (by have := sr c hcn; omega)
    unfold RM1
    rw [m21 c 21 hcn (by omega), m21 c 22 hcn (by omega), m21 c 23 hcn (by omega), m21 c 24 hcn (by omega), m25 c hcn, c26 c 3 hcn (by omega), c26 c 4 hcn (by omega), c26 c 5 hcn (by omega), c26 c 6 hcn (by omega), c26 c 7 hcn (by omega)]
    rw [if_neg (by omega), if_neg (by omega), if_neg (by omega), if_neg (by omega), if_neg (by omega), if_neg (by omega), if_neg (by omega), if_neg (by omega), if_neg (by omega), if_neg (by omega), if_neg (by omega), if_neg (by omega), if_neg (by omega), if_neg (by omega)]
    refine ⟨fun j hj => ?_, f2, f3, f4, ?_⟩
    · rw [m20 c j hcn hj, c26 c j hcn (by omega)]
      by_cases q1 : c = a ∧ j = k
      · rw [if_pos q1, if_pos q1]
      · rw [if_neg q1, if_neg q1]
        by_cases q2 : c = a + 1 ∧ j = k
        · rw [if_pos q2, if_pos q2]
        · rw [if_neg q2, if_neg q2, if_neg (by omega)]; exact f1 j hj
    · by_cases q : c = a ∨ c = a + 1
      · rw [if_pos q, if_pos ⟨q, rfl⟩]
      · rw [if_neg q, if_neg (fun z => q z.1)]; exact f5
