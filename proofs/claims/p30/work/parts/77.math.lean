/-! split: the rest of the new match -/
theorem mS_0 {τ : Sg} {a n k i : Nat} {lo hi : Int} : mS τ a n k lo hi 0 i = if i = 54 then -1 else if i = 23 then (n : Int) + 1 else if i = 0 then 0 else τ 0 i := by
  unfold mS
  have base : mpA (opM (up2 τ 0 0 0) a n) (a + 1) a 0 i = if i = 54 then -1 else if i = 23 then (n : Int) + 1 else if i = 0 then 0 else τ 0 i := by
    rw [mpA_o (by omega)]
    unfold opM
    have e := smU_o (τ := up2 τ 0 0 0) (a := a) (n := n) (r := 0) (i := i) (by omega)
    generalize smU (up2 τ 0 0 0) a n = s at *
    unfold up2 at *
    by_cases h1 : i = 54
    · rw [if_pos ⟨rfl, h1⟩, if_pos h1]
    · rw [if_neg (by omega), if_neg (by omega), if_neg (by omega), if_neg h1]
      by_cases h2 : i = 23
      · rw [if_pos ⟨rfl, h2⟩, if_pos h2]
      · rw [if_neg (by omega), if_neg h2, e]
        by_cases h3 : i = 0
        · rw [if_pos ⟨rfl, h3⟩, if_pos h3]
        · rw [if_neg (by omega), if_neg h3]
  generalize mpA (opM (up2 τ 0 0 0) a n) (a + 1) a = s at *
  unfold up2
  rw [if_neg (by omega), if_neg (by omega), if_neg (by omega), if_neg (by omega)]
  exact base
