/-! split: the new match -/
theorem bnC_src {τ τ' : Sg} {c c0 : Nat} {nm : Int} (h3 : τ' 3 = τ 3) (h8 : τ' 8 = τ 8) (h9 : τ' 9 = τ 9) (h11 : τ' 11 = τ 11) (h19 : ∀ k : Nat, k < 3 → τ' 19 k = τ 19 k) (h21 : τ' 0 21 = τ 0 21) (hc : ∀ k : Nat, k < 3 → cpt τ' c k = cpt τ c0 k) : bnC τ' c nm = bnC τ c0 nm := by
  unfold bnC
  have hb := bnS_congr (nm := nm) h3 h8 h9 h11
  simp only [hb, h21, hc 0 (by omega), hc 1 (by omega), hc 2 (by omega), h19 0 (by omega), h19 1 (by omega), h19 2 (by omega)]
def srU (a c : Nat) : Nat := if c ≤ a then c else c - 1
theorem srU_lo {a c : Nat} (h : c ≤ a) : srU a c = c := by unfold srU; rw [if_pos h]
theorem srU_hi {a c : Nat} (h : ¬ c ≤ a) : srU a c = c - 1 := by unfold srU; rw [if_neg h]
theorem shU_26 {σ : Sg} {a n c j : Nat} (hc : c ≤ n) (hj : j < 8) : shU σ a n 26 (8 * c + j) = σ 26 (8 * srU a c + j) := by
  unfold shU
  by_cases h : c ≤ a
  · rw [if_neg (by omega), srU_lo h]
  · rw [if_pos (by omega), srU_hi h]; exact congrArg (σ 26) (by omega)
theorem smU_20 {τ : Sg} {a n c j : Nat} (hc : c ≤ n) (hj : j < 3) : smU τ a n 20 (3 * c + j) = τ 20 (3 * srU a c + j) := by
  unfold smU
  by_cases h : c ≤ a
  · rw [if_neg (by omega), if_neg (by omega), srU_lo h]
  · rw [if_pos (by omega), srU_hi h]; exact congrArg (τ 20) (by omega)
theorem smU_r {τ : Sg} {a n c r : Nat} (hc : c ≤ n) (hr : 21 ≤ r ∧ r ≤ 25) : smU τ a n r c = τ r (srU a c) := by
  unfold smU
  by_cases h : c ≤ a
  · rw [if_neg (by omega), if_neg (by omega), srU_lo h]
  · rw [if_neg (by omega), if_pos (by omega), srU_hi h]
theorem smU_o {τ : Sg} {a n r i : Nat} (hr : r ≤ 19 ∨ 26 ≤ r) : smU τ a n r i = τ r i := by
  unfold smU; rw [if_neg (by omega), if_neg (by omega)]
theorem mpA_20 {s : Sg} {x a c j : Nat} (hj : j < 3) : mpA s x a 20 (3 * c + j) = if c = a then s 20 (3 * x + j) else s 20 (3 * c + j) := by
  unfold mpA mpC
  rw [if_neg (by omega)]
  by_cases h : c = a
  · rw [if_pos (by omega), if_pos h]; exact congrArg (s 20) (by omega)
  · rw [if_neg (by omega), if_neg h]
theorem mpA_r {s : Sg} {x a c r : Nat} (hr : 21 ≤ r ∧ r ≤ 25) : mpA s x a r c = if c = a then s r x else s r c := by
  unfold mpA mpC
  by_cases h : c = a
  · rw [if_pos ⟨hr, h⟩, if_pos h]
  · rw [if_neg (by omega), if_neg (by omega), if_neg h]
theorem mpA_o {s : Sg} {x a r i : Nat} (hr : r ≤ 19 ∨ 26 ≤ r) : mpA s x a r i = s r i := by
  unfold mpA mpC; rw [if_neg (by omega), if_neg (by omega)]
theorem opM_20 {τ : Sg} {a n c j : Nat} (hc : c ≤ n) (hj : j < 3) : opM τ a n 20 (3 * c + j) = τ 20 (3 * srU a c + j) := by
  unfold opM up2
  rw [if_neg (by omega), if_neg (by omega), if_neg (by omega), if_neg (by omega)]
  exact smU_20 hc hj
theorem opM_r {τ : Sg} {a n c r : Nat} (hc : c ≤ n) (hr : r = 21 ∨ r = 23 ∨ r = 24) : opM τ a n r c = τ r (srU a c) := by
  unfold opM up2
  rw [if_neg (by omega), if_neg (by omega), if_neg (by omega), if_neg (by omega)]
  exact smU_r hc (by omega)
