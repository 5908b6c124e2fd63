/-! merge: the new match, cell by cell -/
def srD (a c : Nat) : Nat := if c ≤ a then c else c + 1
theorem srD_lo {a c : Nat} (h : c ≤ a) : srD a c = c := by unfold srD; rw [if_pos h]
theorem srD_hi {a c : Nat} (h : ¬ c ≤ a) : srD a c = c + 1 := by unfold srD; rw [if_neg h]
def cMg (σ : Sg) (a n k : Nat) (x : Int) : Sg := up2 (up2 (drC (F_X10_forgetEngines σ) (a + 1) n) 26 (8 * a + k) x) 26 (8 * a + 7) 0
def mMg (τ : Sg) (a n k : Nat) (x : Int) : Sg := up2 (up2 (smD (up2 (up2 τ 20 (3 * a + k) x) 25 a 0) (a + 1) (n - 1)) 0 23 ((n : Int) - 1)) 0 54 (-1)
theorem drC_row {σ : Sg} {a n r i : Nat} (hr : ¬ r = 26) : drC σ a n r i = if r = 24 ∧ i = 1 then (n : Int) - 1 else σ r i := by
  unfold drC up2
  by_cases h : r = 24 ∧ i = 1
  · rw [if_pos h, if_pos h]
  · rw [if_neg h, if_neg h]; unfold shD; rw [if_neg (by omega)]
theorem drC_26 {σ : Sg} {a n c j : Nat} (hc : c + 1 < n) (hj : j < 8) : drC σ (a + 1) n 26 (8 * c + j) = σ 26 (8 * srD a c + j) := by
  unfold drC
  rw [up2_row (by omega)]
  unfold shD
  by_cases h : c ≤ a
  · rw [if_neg (by omega), srD_lo h]
  · rw [if_pos (by omega), srD_hi h]; exact congrArg (σ 26) (by omega)
theorem cMg_26 {σ : Sg} {a n k c j : Nat} {x : Int} (hc : c + 1 < n) (hk : k < 3) (hj : j < 8) : cMg σ a n k x 26 (8 * c + j) = if c = a ∧ j = k then x else if c = a ∧ j = 7 then 0 else σ 26 (8 * srD a c + j) := by
  have base : drC (F_X10_forgetEngines σ) (a + 1) n 26 (8 * c + j) = σ 26 (8 * srD a c + j) := by
    rw [drC_26 hc hj, forget_eq, up2_row (by omega), up2_row (by omega), up2_row (by omega)]
  unfold cMg
  generalize drC (F_X10_forgetEngines σ) (a + 1) n = s at *
  by_cases h1 : c = a ∧ j = k
  · rw [up2_idx (by omega), up2_at rfl (by omega), if_pos h1]
  · rw [if_neg h1]
    by_cases h2 : c = a ∧ j = 7
    · rw [up2_at rfl (by omega), if_pos h2]
    · rw [if_neg h2, up2_idx (by omega), up2_idx (by omega)]; exact base
theorem cMg_row {σ : Sg} {a n k r i : Nat} {x : Int} (hr : r ∉ [24, 26, 33, 43, 49]) : cMg σ a n k x r i = σ r i := by
  simp only [List.mem_cons, List.not_mem_nil, or_false, not_or] at hr
  unfold cMg
  rw [up2_row (by omega), up2_row (by omega), drC_row (by omega), if_neg (by omega), forget_eq, up2_row (by omega), up2_row (by omega), up2_row (by omega)]
theorem cMg_24 {σ : Sg} {a n k i : Nat} {x : Int} : cMg σ a n k x 24 i = if i = 1 then (n : Int) - 1 else σ 24 i := by
  unfold cMg
  rw [up2_row (by omega), up2_row (by omega), drC_row (by omega), forget_eq, up2_row (by omega), up2_row (by omega), up2_row (by omega)]
  by_cases h : i = 1
  · rw [if_pos ⟨rfl, h⟩, if_pos h]
  · rw [if_neg (by omega), if_neg h]
theorem cMg_eng {σ : Sg} {a n k : Nat} {x : Int} : cMg σ a n k x 33 3 = 0 ∧ cMg σ a n k x 43 4 = 0 ∧ cMg σ a n k x 49 4 = 0 ∧ cMg σ a n k x 43 2 = σ 43 2 ∧ cMg σ a n k x 49 2 = σ 49 2 := by
  have h : ∀ r i, ¬ r = 26 → ¬ r = 24 → cMg σ a n k x r i = F_X10_forgetEngines σ r i := fun r i h1 h2 => by
    unfold cMg
    rw [up2_row h1, up2_row h1, drC_row h1, if_neg (fun q => h2 q.1)]
  refine ⟨?_, ?_, ?_, ?_, ?_⟩ <;> (rw [h _ _ (by omega) (by omega), forget_eq]; simp (disch := omega) only [bnd_eq, bind_some', wrap_id, rdn_ok, wrn_ok, wbn_ok, rdD_ok, rdD_out, wrD_ok, wrD_out, up2_at, up2_row, up2_idx, iter_s, itp, itn, isIn_iff, in_iff, ↓reduceIte, reduceCtorEq])
theorem mMg_20 {τ : Sg} {a n k c j : Nat} {x : Int} (hc : c + 1 < n) (hk : k < 3) (hj : j < 3) : mMg τ a n k x 20 (3 * c + j) = if c = a ∧ j = k then x else τ 20 (3 * srD a c + j) := by
  unfold mMg
  rw [up2_row (by omega), up2_row (by omega)]
  unfold smD
  by_cases h : c ≤ a
  · rw [if_neg (by omega), if_neg (by omega), srD_lo h, up2_row (by omega)]
    by_cases h1 : c = a ∧ j = k
    · rw [if_pos h1, up2_at rfl (by omega)]
    · rw [if_neg h1, up2_idx (by omega)]
  · rw [if_pos (by omega), srD_hi h, if_neg (by omega), up2_row (by omega), up2_idx (by omega)]; exact congrArg (τ 20) (by omega)
theorem mMg_r {τ : Sg} {a n k c r : Nat} {x : Int} (hc : c + 1 < n) (hr : 21 ≤ r ∧ r ≤ 24) : mMg τ a n k x r c = τ r (srD a c) := by
  unfold mMg
  rw [up2_row (by omega), up2_row (by omega)]
  unfold smD
  by_cases h : c ≤ a
  · rw [if_neg (by omega), if_neg (by omega), srD_lo h, up2_row (by omega), up2_row (by omega)]
  · rw [if_neg (by omega), if_pos (by omega), srD_hi h, up2_row (by omega), up2_row (by omega)]
theorem mMg_25 {τ : Sg} {a n k c : Nat} {x : Int} (hc : c + 1 < n) : mMg τ a n k x 25 c = if c = a then 0 else τ 25 (srD a c) := by
  unfold mMg
  rw [up2_row (by omega), up2_row (by omega)]
  unfold smD
  by_cases h : c ≤ a
  · rw [if_neg (by omega), if_neg (by omega), srD_lo h]
    by_cases h1 : c = a
    · rw [if_pos h1, up2_at rfl h1]
    · rw [if_neg h1, up2_idx h1, up2_row (by omega)]
  · rw [if_neg (by omega), if_pos (by omega), srD_hi h, up2_idx (by omega), up2_row (by omega), if_neg (by omega)]
theorem mMg_row {τ : Sg} {a n k r : Nat} {x : Int} (hr : r ∉ [0, 20, 21, 22, 23, 24, 25]) : mMg τ a n k x r = τ r := by
  simp only [List.mem_cons, List.not_mem_nil, or_false, not_or] at hr
  funext i
  unfold mMg
  rw [up2_row (by omega), up2_row (by omega)]
  unfold smD
  rw [if_neg (by omega), if_neg (by omega), up2_row (by omega), up2_row (by omega)]
theorem mMg_0 {τ : Sg} {a n k i : Nat} {x : Int} : mMg τ a n k x 0 i = if i = 54 then -1 else if i = 23 then (n : Int) - 1 else τ 0 i := by
  unfold mMg
  by_cases h1 : i = 54
  · rw [up2_at rfl h1, if_pos h1]
  · rw [up2_idx h1, if_neg h1]
    by_cases h2 : i = 23
    · rw [up2_at rfl h2, if_pos h2]
    · rw [up2_idx h2, if_neg h2]
      unfold smD
      rw [if_neg (by omega), if_neg (by omega), up2_row (by omega), up2_row (by omega)]
set_option maxHeartbeats 4000000 in
theorem RM.merge {σ τ : Sg} {a n k : Nat} {x : Int} (h : RM σ τ) (hn : τ 0 23 = n) (h8 : n ≤ 8) (ha : a + 1 < n) (hk : k < 3) (hk2 : (k : Int) < τ 0 21) (hg : τ 22 a = -1) (hx : fitsK τ x (τ 19 k)) : RM (cMg σ a n k x) (mMg τ a n k x) := by
  obtain ⟨h1, h2, h3, ⟨w1, w2, w3, w4, w5⟩, h5⟩ := h
  have m0 : ∀ i, mMg τ a n k x 0 i = if i = 54 then -1 else if i = 23 then (n : Int) - 1 else τ 0 i := fun i => mMg_0
  have mr : ∀ r, r ∉ [0, 20, 21, 22, 23, 24, 25] → mMg τ a n k x r = τ r := fun r hr => mMg_row hr
  have m20 : ∀ c j : Nat, c + 1 < n → j < 3 → cpt (mMg τ a n k x) c j = if c = a ∧ j = k then x else cpt τ (srD a c) j := fun c j hc hj => mMg_20 hc hk hj
  have m21 : ∀ c r : Nat, c + 1 < n → 21 ≤ r ∧ r ≤ 24 → mMg τ a n k x r c = τ r (srD a c) := fun c r hc hr => mMg_r hc hr
  have m25 : ∀ c : Nat, c + 1 < n → mMg τ a n k x 25 c = if c = a then 0 else τ 25 (srD a c) := fun c hc => mMg_25 hc
  have c26 : ∀ c j : Nat, c + 1 < n → j < 8 → cMg σ a n k x 26 (8 * c + j) = if c = a ∧ j = k then x else if c = a ∧ j = 7 then 0 else σ 26 (8 * srD a c + j) := fun c j hc hj => cMg_26 hc hk hj
  have c24 : ∀ i, cMg σ a n k x 24 i = if i = 1 then (n : Int) - 1 else σ 24 i := fun i => cMg_24
  have c25 : ∀ i, cMg σ a n k x 25 i = σ 25 i := fun i => cMg_row (by decide)
  generalize cMg σ a n k x = σ' at *
  generalize mMg τ a n k x = τ' at *
  have e21 : τ' 0 21 = τ 0 21 := by rw [m0, if_neg (by omega), if_neg (by omega)]
  have e23 : τ' 0 23 = (n : Int) - 1 := by rw [m0, if_neg (by omega), if_pos rfl]
  have e9 : τ' 0 9 = τ 0 9 := by rw [m0, if_neg (by omega), if_neg (by omega)]
  have e19 := mr 19 (by decide)
  have e12 := mr 12 (by decide)
  have fk : ∀ x k, fitsK τ' x k ↔ fitsK τ x k := fun x k => by unfold fitsK; rw [e9, e12]
  have sr : ∀ c : Nat, c + 1 < n → srD a c < n := fun c hc => by unfold srD; split <;> omega
  refine ⟨by rw [c24, if_neg (by omega), e21]; exact h1, by rw [c24, if_pos rfl, e23], fun j hj => by rw [c25, e19]; exact h3 j hj, ⟨by rw [e21]; exact w1, by omega, fun j hj => by rw [e19]; exact w3 j (by omega), fun q => by omega, fun c hc => ?_⟩, fun c hc => ?_⟩
  · have hcn : c + 1 < n := by omega
    obtain ⟨f1, f2, f3, f4⟩ := w5 (srD a c) (by have := sr c hcn; omega)
    unfold WFM1
    rw [m21 c 21 hcn (by omega), m21 c 22 hcn (by omega), m21 c 23 hcn (by omega), m21 c 24 hcn (by omega), e21, e19]
    refine ⟨fun j hj => ?_, f2, f3, fun q => ?_⟩
    · rw [m20 c j hcn hj]
      by_cases q1 : c = a ∧ j = k
      · rw [if_pos q1, q1.2]
        exact ⟨fun _ => (fk _ _).mpr hx, fun q => by omega⟩
      · rw [if_neg q1]
        exact ⟨fun q => (fk _ _).mpr ((f1 j hj).1 q), (f1 j hj).2⟩
    · have hca : ¬ c = a := fun z => by rw [z, srD_lo (Nat.le_refl _)] at q; exact q hg
      rw [bnC_src (c0 := srD a c) (mr 3 (by decide)) (mr 8 (by decide)) (mr 9 (by decide)) (mr 11 (by decide)) (fun j _ => by rw [e19]) e21 (fun j hj => by rw [m20 c j hcn hj, if_neg (by omega)])]
      exact f4 q
  · have hcn : c + 1 < n := by omega
    obtain ⟨f1, f2, f3, f4, f5⟩ := h5 (srD a c) (by have := sr c hcn; omega)
    unfold RM1
    rw [m21 c 21 hcn (by omega), m21 c 22 hcn (by omega), m21 c 23 hcn (by omega), m21 c 24 hcn (by omega), m25 c hcn, c26 c 3 hcn (by omega), c26 c 4 hcn (by omega), c26 c 5 hcn (by omega), c26 c 6 hcn (by omega), c26 c 7 hcn (by omega)]
    rw [if_neg (by omega), if_neg (by omega), if_neg (by omega), if_neg (by omega), if_neg (by omega), if_neg (by omega), if_neg (by omega), if_neg (by omega), if_neg (by omega)]
    refine ⟨fun j hj => ?_, f2, f3, f4, ?_⟩
    · rw [m20 c j hcn hj, c26 c j hcn (by omega)]
      by_cases q1 : c = a ∧ j = k
      · rw [if_pos q1, if_pos q1]
      · rw [if_neg q1, if_neg q1, if_neg (by omega)]
        exact f1 j hj
    · by_cases q : c = a
      · rw [if_pos q, if_pos ⟨q, rfl⟩]
      · rw [if_neg q, if_neg (fun z => q z.1)]; exact f5
