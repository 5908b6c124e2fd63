/-! the reference's shifts -/
def smU (τ : Sg) (j n : Nat) : Sg := fun r i => if r = 20 ∧ 3 * (j + 1) ≤ i ∧ i < 3 * (n + 1) then τ 20 (i - 3) else if (21 ≤ r ∧ r ≤ 25) ∧ j + 1 ≤ i ∧ i ≤ n then τ r (i - 1) else τ r i
theorem smU_step {τ : Sg} {a j n : Nat} (h8 : n < 8) (hj : a < j ∧ j ≤ n) : L_X11_open_5 a j (smU τ j n) = some (.inl ((j : Int) - 1, smU τ (j - 1) n)) := by
  unfold L_X11_open_5
  rw [if_neg (by omega), wrap_id (by omega) (by omega), wrap_id (by omega) (by omega), show (j : Int) - 1 = ((j - 1 : Nat) : Int) by omega, copyM ⟨by omega, by omega⟩ (by omega), Option.bind_some, show (j : Int) + (-1) = ((j - 1 : Nat) : Int) by omega]
  congr 3
  funext r i
  unfold mpA mpC smU
  by_cases g : r = 20
  · subst g
    rw [if_neg (by omega)]
    by_cases g1 : 3 * j ≤ i ∧ i < 3 * j + 3
    · rw [if_pos ⟨rfl, g1⟩, if_neg (by omega), if_neg (by omega), if_pos (by omega)]; congr 1; omega
    · rw [if_neg (by omega)]
      by_cases g2 : 3 * (j + 1) ≤ i ∧ i < 3 * (n + 1)
      · rw [if_pos ⟨rfl, g2⟩, if_pos (by omega)]
      · rw [if_neg (by omega), if_neg (by omega), if_neg (by omega), if_neg (by omega)]
  · by_cases g3 : 21 ≤ r ∧ r ≤ 25
    · by_cases g1 : i = j
      · subst g1
        rw [if_pos ⟨g3, rfl⟩, if_neg (by omega), if_neg (by omega), if_neg (by omega), if_pos (by omega)]
      · rw [if_neg (by omega), if_neg (by omega), if_neg (by omega)]
        by_cases g2 : j + 1 ≤ i ∧ i ≤ n
        · rw [if_pos ⟨g3, g2⟩, if_neg (by omega), if_pos (by omega)]
        · rw [if_neg (by omega), if_neg (by omega), if_neg (by omega)]
    · rw [if_neg (by omega), if_neg (by omega), if_neg (by omega), if_neg (by omega), if_neg (by omega), if_neg (by omega)]
def opM (τ : Sg) (a n : Nat) : Sg := up2 (up2 (up2 (up2 (smU τ a n) 0 23 ((n : Int) + 1)) 25 a 0) 22 a (-1)) 0 54 (-1)
theorem openM {τ : Sg} {a n : Nat} (hn : τ 0 23 = n) (h8 : n < 8) (ha : a ≤ n) : F_X11_open a τ = some (opM τ a n) := by
  unfold F_X11_open opM
  have e0 : smU τ n n = τ := by funext r i; unfold smU; rw [if_neg (by omega), if_neg (by omega)]
  have := iter_dn (f := fun q : (Int × Sg) => L_X11_open_5 a q.1 q.2) (fun j => smU τ j.toNat n) (hi := n) (n := a) (e := smU τ a n) (fun j j0 j1 => by
    obtain ⟨k, rfl⟩ : ∃ k : Nat, j = k := ⟨j.toNat, by omega⟩
    have := smU_step (τ := τ) (a := a) (j := k) h8 (by omega)
    rw [show ((k : Int) - 1).toNat = k - 1 by omega]
    exact this) (by unfold L_X11_open_5; rw [if_pos (by omega)]; rfl) 3000 n (by omega) (by omega) (by omega)
  rw [show (n : Int).toNat = n by omega, e0] at this
  have e1 : smU τ a n 0 23 = n := by unfold smU; rw [if_neg (by omega), if_neg (by omega), hn]
  rw [bnd_eq, hn, this, Option.bind_some, bnd_eq, e1, wrap_id (by omega) (by omega), wrn_ok (by omega) (by omega), Option.bind_some, wrn_ok (by omega) (by omega), Option.bind_some, bnd_eq, show (a : Int).toNat = a by omega]
/-- cases from b on up to j moved down by one -/
def smD (τ : Sg) (b j : Nat) : Sg := fun r i => if r = 20 ∧ 3 * b ≤ i ∧ i < 3 * j then τ 20 (i + 3) else if (21 ≤ r ∧ r ≤ 25) ∧ b ≤ i ∧ i < j then τ r (i + 1) else τ r i
theorem smD_step {τ : Sg} {b j n : Nat} (hn : τ 0 23 = n) (h8 : n ≤ 8) (hj : b ≤ j ∧ j + 1 < n) : L_X11_merge_276 j (smD τ b j) = some (.inl ((j : Int) + 1, smD τ b (j + 1))) := by
  have e1 : smD τ b j 0 23 = n := by unfold smD; rw [if_neg (by omega), if_neg (by omega), hn]
  unfold L_X11_merge_276
  rw [e1, wrap_id (z := (n : Int) - 1) (by omega) (by omega), if_neg (by omega), wrap_id (by omega) (by omega), show (j : Int) + 1 = ((j + 1 : Nat) : Int) by omega, copyM ⟨by omega, by omega⟩ (by omega), Option.bind_some]
  congr 3
  funext r i
  unfold mpA mpC smD
  by_cases g : r = 20
  · subst g
    rw [if_neg (by omega)]
    by_cases g1 : 3 * j ≤ i ∧ i < 3 * j + 3
    · rw [if_pos ⟨rfl, g1⟩, if_neg (by omega), if_neg (by omega), if_pos (by omega)]; congr 1; omega
    · rw [if_neg (by omega)]
      by_cases g2 : 3 * b ≤ i ∧ i < 3 * j
      · rw [if_pos ⟨rfl, g2⟩, if_pos (by omega)]
      · rw [if_neg (by omega), if_neg (by omega), if_neg (by omega), if_neg (by omega)]
  · by_cases g3 : 21 ≤ r ∧ r ≤ 25
    · by_cases g1 : i = j
      · subst g1
        rw [if_pos ⟨g3, rfl⟩, if_neg (by omega), if_neg (by omega), if_neg (by omega), if_pos (by omega)]
      · rw [if_neg (by omega), if_neg (by omega), if_neg (by omega)]
        by_cases g2 : b ≤ i ∧ i < j
        · rw [if_pos ⟨g3, g2⟩, if_neg (by omega), if_pos (by omega)]
        · rw [if_neg (by omega), if_neg (by omega), if_neg (by omega)]
    · rw [if_neg (by omega), if_neg (by omega), if_neg (by omega), if_neg (by omega), if_neg (by omega), if_neg (by omega)]
theorem downM {τ : Sg} {b n : Nat} (hn : τ 0 23 = n) (h8 : n ≤ 8) (hb : b < n) : iter (fun a : (Int × Sg) => L_X11_merge_276 a.1 a.2) 3000 ((b : Int), τ) = some (smD τ b (n - 1)) := by
  have e0 : smD τ b b = τ := by funext r i; unfold smD; rw [if_neg (by omega), if_neg (by omega)]
  have := iter_up (f := fun q : (Int × Sg) => L_X11_merge_276 q.1 q.2) (fun j => smD τ b j.toNat) (lo := b) (n := (n : Int) - 1) (e := smD τ b (n - 1)) (fun j j0 j1 => by
    obtain ⟨k, rfl⟩ : ∃ k : Nat, j = k := ⟨j.toNat, by omega⟩
    have := smD_step (b := b) (j := k) hn h8 (by omega)
    rw [show ((k : Int) + 1).toNat = k + 1 by omega]
    exact this) (by
      have e1 : smD τ b ((n : Int) - 1).toNat 0 23 = n := by unfold smD; rw [if_neg (by omega), if_neg (by omega), hn]
      show L_X11_merge_276 ((n : Int) - 1) (smD τ b ((n : Int) - 1).toNat) = _
      unfold L_X11_merge_276
      rw [e1, wrap_id (by omega) (by omega), if_pos (by omega), show ((n : Int) - 1).toNat = n - 1 by omega]) 3000 b (by omega) (by omega) (by omega)
  rw [show (b : Int).toNat = b by omega, e0] at this
  exact this
