/-! split: the new match, cell by cell -/
def cS (σ : Sg) (a n k : Nat) (lo hi : Int) : Sg := up2 (up2 (dbC (F_X10_forgetEngines σ) a n) 26 (8 * a + k) lo) 26 (8 * a + 8 + k) hi
def mS (τ : Sg) (a n k : Nat) (lo hi : Int) : Sg := up2 (up2 (up2 (up2 (mpA (opM (up2 τ 0 0 0) a n) (a + 1) a) 25 a 0) 25 (a + 1) 0) 20 (3 * a + k) lo) 20 (3 * a + 3 + k) hi
theorem mS_20 {τ : Sg} {a n k c j : Nat} {lo hi : Int} (ha : a < n) (hc : c ≤ n) (hk : k < 3) (hj : j < 3) : mS τ a n k lo hi 20 (3 * c + j) = if c = a ∧ j = k then lo else if c = a + 1 ∧ j = k then hi else τ 20 (3 * srU a c + j) := by
  have old : ∀ i, (up2 τ 0 0 0) 20 i = τ 20 i := fun i => by unfold up2; rw [if_neg (by omega)]
  have base : mpA (opM (up2 τ 0 0 0) a n) (a + 1) a 20 (3 * c + j) = τ 20 (3 * srU a c + j) := by
    rw [mpA_20 hj, opM_20 (by omega) hj, opM_20 hc hj, old, old]
    by_cases h : c = a
    · rw [if_pos h, srU_hi (by omega), h, srU_lo (Nat.le_refl _)]; exact congrArg (τ 20) (by omega)
    · rw [if_neg h]
  unfold mS
  generalize mpA (opM (up2 τ 0 0 0) a n) (a + 1) a = s at *
  unfold up2
  by_cases h1 : c = a ∧ j = k
  · rw [if_neg (by omega), if_pos (by omega), if_pos h1]
  · rw [if_neg h1]
    by_cases h2 : c = a + 1 ∧ j = k
    · rw [if_pos (by omega), if_pos h2]
    · rw [if_neg h2, if_neg (by omega), if_neg (by omega), if_neg (by omega), if_neg (by omega)]
      exact base
theorem opM_n {τ : Sg} {a n c r : Nat} (hc : c ≤ n) (ha : ¬ c = a) (hr : 21 ≤ r ∧ r ≤ 25) : opM τ a n r c = τ r (srU a c) := by
  unfold opM up2
  rw [if_neg (by omega), if_neg (by omega), if_neg (by omega), if_neg (by omega)]
  exact smU_r hc hr
theorem mS_r {τ : Sg} {a n k c r : Nat} {lo hi : Int} (ha : a < n) (hc : c ≤ n) (hr : 21 ≤ r ∧ r ≤ 24) : mS τ a n k lo hi r c = τ r (srU a c) := by
  have old : ∀ i, (up2 τ 0 0 0) r i = τ r i := fun i => by unfold up2; rw [if_neg (by omega)]
  have base : mpA (opM (up2 τ 0 0 0) a n) (a + 1) a r c = τ r (srU a c) := by
    rw [mpA_r (by omega), opM_n (c := a + 1) (by omega) (by omega) (by omega), old]
    by_cases h : c = a
    · rw [if_pos h, srU_hi (by omega), h, srU_lo (Nat.le_refl _)]; exact congrArg (τ r) (by omega)
    · rw [if_neg h, opM_n hc h (by omega), old]
  unfold mS
  generalize mpA (opM (up2 τ 0 0 0) a n) (a + 1) a = s at *
  unfold up2
  rw [if_neg (by omega), if_neg (by omega), if_neg (by omega), if_neg (by omega)]
  exact base
theorem mS_25 {τ : Sg} {a n k c : Nat} {lo hi : Int} (ha : a < n) (hc : c ≤ n) : mS τ a n k lo hi 25 c = if c = a ∨ c = a + 1 then 0 else τ 25 (srU a c) := by
  have old : ∀ i, (up2 τ 0 0 0) 25 i = τ 25 i := fun i => by unfold up2; rw [if_neg (by omega)]
  have base : ¬ c = a → mpA (opM (up2 τ 0 0 0) a n) (a + 1) a 25 c = τ 25 (srU a c) := fun h => by
    rw [mpA_r (by omega), if_neg h, opM_n hc h (by omega), old]
  unfold mS
  generalize mpA (opM (up2 τ 0 0 0) a n) (a + 1) a = s at *
  unfold up2
  rw [if_neg (by omega), if_neg (by omega)]
  by_cases h1 : c = a
  · rw [if_neg (by omega), if_pos (by omega), if_pos (by omega)]
  · by_cases h2 : c = a + 1
    · rw [if_pos (by omega), if_pos (by omega)]
    · rw [if_neg (by omega), if_neg (by omega), if_neg (by omega)]
      exact base h1
theorem mS_row {τ : Sg} {a n k r : Nat} {lo hi : Int} (hr : r ∉ [0, 20, 21, 22, 23, 24, 25]) : mS τ a n k lo hi r = τ r := by
  simp only [List.mem_cons, List.not_mem_nil, or_false, not_or] at hr
  funext i
  have base : mpA (opM (up2 τ 0 0 0) a n) (a + 1) a r i = τ r i := by
    rw [mpA_o (by omega)]
    unfold opM
    have e := smU_o (τ := up2 τ 0 0 0) (a := a) (n := n) (r := r) (i := i) (by omega)
    generalize smU (up2 τ 0 0 0) a n = s at *
    unfold up2 at *
    rw [if_neg (by omega), if_neg (by omega), if_neg (by omega), if_neg (by omega), e, if_neg (by omega)]
  unfold mS
  generalize mpA (opM (up2 τ 0 0 0) a n) (a + 1) a = s at *
  unfold up2
  rw [if_neg (by omega), if_neg (by omega), if_neg (by omega), if_neg (by omega)]
  exact base
