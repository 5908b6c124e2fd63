/-! split and merge: the copies -/
theorem iter_up {S A : Type} {f : Int × S → Option ((Int × S) ⊕ A)} (st : Int → S) {lo n : Int} {e : A} (hs : ∀ j, lo ≤ j → j < n → f (j, st j) = some (.inl (j + 1, st (j + 1)))) (he : f (n, st n) = some (.inr e)) : ∀ (m : Nat) (j : Int), lo ≤ j → j ≤ n → n - j < m → iter f m (j, st j) = some e
  | 0, j, h0, h1, h2 => by omega
  | m + 1, j, h0, h1, h2 => by
    by_cases h : j = n
    · subst h; exact iter_r (f := f) he
    · exact (iter_l (f := f) (a := (j, st j)) (hs j h0 (by omega))).trans (iter_up st hs he m (j + 1) (by omega) (by omega) (by omega))
theorem iter_dn {S A : Type} {f : Int × S → Option ((Int × S) ⊕ A)} (st : Int → S) {hi n : Int} {e : A} (hs : ∀ j, n < j → j ≤ hi → f (j, st j) = some (.inl (j - 1, st (j - 1)))) (he : f (n, st n) = some (.inr e)) : ∀ (m : Nat) (j : Int), n ≤ j → j ≤ hi → j - n < m → iter f m (j, st j) = some e
  | 0, j, h0, h1, h2 => by omega
  | m + 1, j, h0, h1, h2 => by
    by_cases h : j = n
    · subst h; exact iter_r (f := f) he
    · exact (iter_l (f := f) (a := (j, st j)) (hs j (by omega) h1)).trans (iter_dn st hs he m (j - 1) (by omega) (by omega) (by omega))
/-- the class: k cells of case a over those of case b -/
def cpC (σ : Sg) (a b k : Nat) : Sg := fun r i => if r = 26 ∧ 8 * b ≤ i ∧ i < 8 * b + k then σ 26 (8 * a + (i - 8 * b)) else σ r i
theorem cpC_24 {σ : Sg} {a b k : Nat} {i : Nat} : cpC σ a b k 24 i = σ 24 i := by unfold cpC; rw [if_neg (by omega)]
theorem get4n {s : Sg} {a k : Nat} (ha : (a : Int) < s 24 1) (h8 : a < 8) (hk : k < 8) : F_X4_get a k s = s 26 (8 * a + k) := by
  unfold F_X4_get F_X4_has
  rw [if_neg (show ¬ (a : Int) < 0 by omega), if_neg (show ¬ s 24 1 ≤ a by omega), if_pos rfl, if_pos (isIn_iff.mpr (by omega)), wrap_id (z := (a : Int) * 8) (by omega) (by omega), wrap_id (by omega) (by omega), rdD_ok (by omega) (by omega)]
  congr 1; omega
theorem cpC_step {σ : Sg} {a b k : Nat} (ha : (a : Int) < σ 24 1) (hb : (b : Int) < σ 24 1) (h8 : a < 8 ∧ b < 8) (hab : a ≠ b) (hk : k < 8) : L_X4_copyCase_2 a b k (cpC σ a b k) = some (.inl ((k : Int) + 1, cpC σ a b (k + 1))) := by
  unfold L_X4_copyCase_2
  rw [if_neg (by omega), bnd_eq, wrap_id (by omega) (by omega), get4n (by rw [cpC_24]; exact ha) h8.1 hk, set4 ⟨by omega, by rw [cpC_24]; exact hb⟩ (by omega) (by omega)]
  congr 3
  funext r i
  have e1 : ((b : Int) * 8 + k).toNat = 8 * b + k := by omega
  rw [e1]
  unfold up2 cpC
  by_cases g : r = 26 ∧ i = 8 * b + k
  · obtain ⟨g1, g2⟩ := g
    subst g1; subst g2
    rw [if_pos ⟨rfl, rfl⟩, if_neg (by omega), if_pos (by omega)]
    congr 1; omega
  · rw [if_neg g]
    by_cases g' : r = 26 ∧ 8 * b ≤ i ∧ i < 8 * b + k
    · rw [if_pos g', if_pos (by omega)]
    · rw [if_neg g', if_neg (by omega)]
theorem copyC {σ : Sg} {a b : Nat} (ha : (a : Int) < σ 24 1) (hb : (b : Int) < σ 24 1) (h8 : a < 8 ∧ b < 8) (hab : a ≠ b) : F_X4_copyCase a b σ = some (cpC σ a b 8) := by
  have e0 : cpC σ a b 0 = σ := by funext r i; unfold cpC; rw [if_neg (by omega)]
  unfold F_X4_copyCase
  have := iter_up (f := fun q : (Int × Sg) => L_X4_copyCase_2 a b q.1 q.2) (fun j => cpC σ a b j.toNat) (lo := 0) (n := 8) (e := cpC σ a b 8) (fun j j0 j1 => by
    obtain ⟨k, rfl⟩ : ∃ k : Nat, j = k := ⟨j.toNat, by omega⟩
    have := cpC_step ha hb h8 hab (k := k) (by omega)
    rw [show ((k : Int) + 1).toNat = k + 1 by omega]
    exact this) (by unfold L_X4_copyCase_2; rw [if_pos (by omega)]; rfl) 9 0 (by omega) (by omega) (by omega)
  rw [show (0 : Int).toNat = 0 from rfl, e0] at this
  rw [this]; rfl
/-- cases behind j moved up by one -/
def shU (σ : Sg) (j n : Nat) : Sg := fun r i => if r = 26 ∧ 8 * (j + 1) ≤ i ∧ i < 8 * (n + 1) then σ 26 (i - 8) else σ r i
theorem shU_24 {σ : Sg} {j n i : Nat} : shU σ j n 24 i = σ 24 i := by unfold shU; rw [if_neg (by omega)]
theorem shU_step {σ : Sg} {a j n : Nat} (hn : σ 24 1 = (n : Int) + 1) (h8 : n < 8) (hj : a < j ∧ j ≤ n) : L_X4_doubleCase_17 a j (shU σ j n) = some (.inl ((j : Int) - 1, shU σ (j - 1) n)) := by
  unfold L_X4_doubleCase_17
  rw [if_neg (by omega), wrap_id (by omega) (by omega), wrap_id (by omega) (by omega), show (j : Int) - 1 = ((j - 1 : Nat) : Int) by omega, copyC (by rw [shU_24]; omega) (by rw [shU_24]; omega) ⟨by omega, by omega⟩ (by omega), Option.bind_some, show (j : Int) + (-1) = ((j - 1 : Nat) : Int) by omega]
  congr 3
  funext r i
  unfold cpC shU
  by_cases g : r = 26
  · subst g
    by_cases g1 : 8 * j ≤ i ∧ i < 8 * j + 8
    · rw [if_pos ⟨rfl, g1⟩, if_neg (by omega), if_pos (by omega)]; congr 1; omega
    · rw [if_neg (by omega)]
      by_cases g2 : 8 * (j + 1) ≤ i ∧ i < 8 * (n + 1)
      · rw [if_pos ⟨rfl, g2⟩, if_pos (by omega)]
      · rw [if_neg (by omega), if_neg (by omega)]
  · rw [if_neg (by omega), if_neg (by omega), if_neg (by omega)]
def dbC (σ : Sg) (a n : Nat) : Sg := up2 (up2 (shU (up2 σ 24 1 ((n : Int) + 1)) a n) 26 (8 * a + 7) 0) 26 (8 * a + 15) 0
theorem doubleC {σ : Sg} {a n : Nat} (hn : σ 24 1 = n) (h8 : n < 8) (ha : a < n) : F_X4_doubleCase a σ = some (dbC σ a n) := by
  unfold F_X4_doubleCase dbC
  rw [hn, wrap_id (by omega) (by omega), bnd_eq]
  generalize hs : up2 σ 24 1 ((n : Int) + 1) = s
  have h1 : s 24 1 = (n : Int) + 1 := by rw [← hs]; unfold up2; rw [if_pos ⟨rfl, rfl⟩]
  rw [h1, wrap_id (by omega) (by omega), bnd_eq, show (n : Int) + 1 - 1 = n by omega]
  have e0 : shU s n n = s := by funext r i; unfold shU; rw [if_neg (by omega)]
  have := iter_dn (f := fun q : (Int × Sg) => L_X4_doubleCase_17 a q.1 q.2) (fun j => shU s j.toNat n) (hi := n) (n := a) (e := shU s a n) (fun j j0 j1 => by
    obtain ⟨k, rfl⟩ : ∃ k : Nat, j = k := ⟨j.toNat, by omega⟩
    have := shU_step (a := a) (j := k) h1 h8 (by omega)
    rw [show ((k : Int) - 1).toNat = k - 1 by omega]
    exact this) (by unfold L_X4_doubleCase_17; rw [if_pos (by omega)]; rfl) 3000 n (by omega) (by omega) (by omega)
  rw [show (n : Int).toNat = n by omega, e0] at this
  rw [this, Option.bind_some, bnd_eq, bnd_eq, wrap_id (by omega) (by omega), set4 (s := shU s a n) (n := (a : Int)) (k := 7) ⟨by omega, by rw [shU_24]; omega⟩ (by omega) (by omega), set4 (k := 7) ⟨by omega, by unfold up2; rw [if_neg (by omega), shU_24]; omega⟩ (by omega) (by omega), show ((a : Int) * 8 + 7).toNat = 8 * a + 7 by omega, show (((a : Int) + 1) * 8 + 7).toNat = 8 * a + 15 by omega]
/-- cases from a on up to j moved down by one -/
def shD (σ : Sg) (a j : Nat) : Sg := fun r i => if r = 26 ∧ 8 * a ≤ i ∧ i < 8 * j then σ 26 (i + 8) else σ r i
theorem shD_24 {σ : Sg} {j n i : Nat} : shD σ j n 24 i = σ 24 i := by unfold shD; rw [if_neg (by omega)]
theorem shD_step {σ : Sg} {a j n : Nat} (hn : σ 24 1 = (n : Int)) (h8 : n ≤ 8) (hj : a ≤ j ∧ j + 1 < n) : L_X4_dropCase_2 j (shD σ a j) = some (.inl ((j : Int) + 1, shD σ a (j + 1))) := by
  unfold L_X4_dropCase_2
  rw [shD_24, hn, wrap_id (z := (n : Int) - 1) (by omega) (by omega), if_neg (by omega), wrap_id (by omega) (by omega), show (j : Int) + 1 = ((j + 1 : Nat) : Int) by omega, copyC (by rw [shD_24]; omega) (by rw [shD_24]; omega) ⟨by omega, by omega⟩ (by omega), Option.bind_some]
  congr 3
  funext r i
  unfold cpC shD
  by_cases g : r = 26
  · subst g
    by_cases g1 : 8 * j ≤ i ∧ i < 8 * j + 8
    · rw [if_pos ⟨rfl, g1⟩, if_neg (by omega), if_pos (by omega)]; congr 1; omega
    · rw [if_neg (by omega)]
      by_cases g2 : 8 * a ≤ i ∧ i < 8 * j
      · rw [if_pos ⟨rfl, g2⟩, if_pos (by omega)]
      · rw [if_neg (by omega), if_neg (by omega)]
  · rw [if_neg (by omega), if_neg (by omega), if_neg (by omega)]
def drC (σ : Sg) (a n : Nat) : Sg := up2 (shD σ a (n - 1)) 24 1 ((n : Int) - 1)
theorem dropC {σ : Sg} {a n : Nat} (hn : σ 24 1 = n) (h8 : n ≤ 8) (ha : a < n) : F_X4_dropCase a σ = some (drC σ a n) := by
  unfold F_X4_dropCase drC
  have e0 : shD σ a a = σ := by funext r i; unfold shD; rw [if_neg (by omega)]
  have := iter_up (f := fun q : (Int × Sg) => L_X4_dropCase_2 q.1 q.2) (fun j => shD σ a j.toNat) (lo := a) (n := (n : Int) - 1) (e := shD σ a (n - 1)) (fun j j0 j1 => by
    obtain ⟨k, rfl⟩ : ∃ k : Nat, j = k := ⟨j.toNat, by omega⟩
    have := shD_step (a := a) (j := k) hn h8 (by omega)
    rw [show ((k : Int) + 1).toNat = k + 1 by omega]
    exact this) (by
      show L_X4_dropCase_2 ((n : Int) - 1) (shD σ a ((n : Int) - 1).toNat) = _
      unfold L_X4_dropCase_2
      rw [shD_24, hn, wrap_id (by omega) (by omega), if_pos (by omega), show ((n : Int) - 1).toNat = n - 1 by omega]) 3000 a (by omega) (by omega) (by omega)
  rw [show (a : Int).toNat = a by omega, e0] at this
  rw [this, Option.bind_some, bnd_eq, shD_24, hn, wrap_id (by omega) (by omega)]
/-! the reference's copies -/
def mpC (τ : Sg) (a b k : Nat) : Sg := fun r i => if r = 20 ∧ 3 * b ≤ i ∧ i < 3 * b + k then τ 20 (3 * a + (i - 3 * b)) else τ r i
def mpA (τ : Sg) (a b : Nat) : Sg := fun r i => if (21 ≤ r ∧ r ≤ 25) ∧ i = b then τ r a else mpC τ a b 3 r i
theorem mpC_step {τ : Sg} {a b k : Nat} (h8 : a < 8 ∧ b < 8) (hab : a ≠ b) (hk : k < 3) : L_X11_copyCase_2 a b k (mpC τ a b k) = some (.inl ((k : Int) + 1, mpC τ a b (k + 1))) := by
  unfold L_X11_copyCase_2
  rw [if_neg (by omega)]
  rw [wrap_id (z := 3 * (a : Int)) (by omega) (by omega), wrap_id (z := 3 * (a : Int) + k) (by omega) (by omega), rdn_ok (by omega) (by omega), Option.bind_some, wrap_id (z := 3 * (b : Int)) (by omega) (by omega), wrap_id (z := 3 * (b : Int) + k) (by omega) (by omega), wrn_ok (by omega) (by omega), Option.bind_some, wrap_id (by omega) (by omega)]
  congr 3
  funext r i
  rw [show (3 * (b : Int) + k).toNat = 3 * b + k by omega, show (3 * (a : Int) + k).toNat = 3 * a + k by omega]
  unfold up2 mpC
  by_cases g : r = 20 ∧ i = 3 * b + k
  · obtain ⟨g1, g2⟩ := g
    subst g1; subst g2
    rw [if_pos ⟨rfl, rfl⟩, if_neg (by omega), if_pos (by omega)]
    congr 1; omega
  · rw [if_neg g]
    by_cases g' : r = 20 ∧ 3 * b ≤ i ∧ i < 3 * b + k
    · rw [if_pos g', if_pos (by omega)]
    · rw [if_neg g', if_neg (by omega)]
theorem copyM {τ : Sg} {a b : Nat} (h8 : a < 8 ∧ b < 8) (hab : a ≠ b) : F_X11_copyCase a b τ = some (mpA τ a b) := by
  have e0 : mpC τ a b 0 = τ := by funext r i; unfold mpC; rw [if_neg (by omega)]
  unfold F_X11_copyCase
  have := iter_up (f := fun q : (Int × Sg) => L_X11_copyCase_2 a b q.1 q.2) (fun j => mpC τ a b j.toNat) (lo := 0) (n := 3) (e := mpC τ a b 3) (fun j j0 j1 => by
    obtain ⟨k, rfl⟩ : ∃ k : Nat, j = k := ⟨j.toNat, by omega⟩
    have := mpC_step (τ := τ) h8 hab (k := k) (by omega)
    rw [show ((k : Int) + 1).toNat = k + 1 by omega]
    exact this) (by unfold L_X11_copyCase_2; rw [if_pos (by omega)]; rfl) 4 0 (by omega) (by omega) (by omega)
  rw [show (0 : Int).toNat = 0 from rfl, e0] at this
  rw [this, Option.bind_some]
  have hb : (b : Int).toNat = b := by omega
  have ha : (a : Int).toNat = a := by omega
  generalize hs : mpC τ a b 3 = s
  have hr : ∀ r, 21 ≤ r ∧ r ≤ 25 → ∀ i, s r i = τ r i := fun r h i => by rw [← hs]; unfold mpC; rw [if_neg (by omega)]
  rw [rdn_ok (by omega) (by omega), Option.bind_some, wrn_ok (by omega) (by omega), Option.bind_some, rdn_ok (by omega) (by omega), Option.bind_some, wrn_ok (by omega) (by omega), Option.bind_some, rdn_ok (by omega) (by omega), Option.bind_some, wrn_ok (by omega) (by omega), Option.bind_some, rdn_ok (by omega) (by omega), Option.bind_some, wrn_ok (by omega) (by omega), Option.bind_some, rdn_ok (by omega) (by omega), Option.bind_some, wrn_ok (by omega) (by omega), Option.bind_some, ha, hb]
  refine congrArg some ?_
  funext r i
  unfold mpA
  rw [hs]
  by_cases g : (21 ≤ r ∧ r ≤ 25) ∧ i = b
  · obtain ⟨g1, g2⟩ := g
    subst g2
    rw [if_pos ⟨g1, rfl⟩]
    have : r = 21 ∨ r = 22 ∨ r = 23 ∨ r = 24 ∨ r = 25 := by omega
    rcases this with rfl | rfl | rfl | rfl | rfl <;> simp (disch := omega) only [bnd_eq, bind_some', wrap_id, rdn_ok, wrn_ok, wbn_ok, rdD_ok, rdD_out, wrD_ok, wrD_out, up2_at, up2_row, up2_idx, iter_s, itp, itn, isIn_iff, in_iff, ↓reduceIte, reduceCtorEq, hr]
  · rw [if_neg g]
    unfold up2
    rw [if_neg (by omega), if_neg (by omega), if_neg (by omega), if_neg (by omega), if_neg (by omega)]
