/-! parts: apart, small, not deep -/
theorem for_f3 {f : Bool × Bool × Int × Int → Option ((Bool × Bool × Int × Int) ⊕ (Bool × Bool))} {n : Int} {P Q : Int → Prop} {N bd : Int → Int} (hbd : ∀ j, 0 ≤ j → j < n → bd (j + 1) = jor (bd j) (N j)) (he : ∀ x y b, f (x, y, b, n) = some (.inr (x, y))) (hb : ∀ (m : Nat) (y : Bool) (b i : Int), 0 ≤ i → i ≤ n → n - i < m → ∃ y', iter f m (false, y, b, i) = some (false, y')) : ∀ (m : Nat) (i : Int) (y : Bool), 0 ≤ i → i ≤ n → n - i < m → (∀ (y : Bool) (j : Int), i ≤ j → j < n → ∃ x' y' b', f (true, y, bd j, j) = some (.inl (x', y', b', j + 1)) ∧ (x' = true ↔ P j) ∧ (x' = true → b' = jor (bd j) (N j) ∧ (y' = true ↔ y = true ∧ Q j ∧ jand (N j) (bd j) = 0))) → ∃ x y', iter f m (true, y, bd i, i) = some (x, y') ∧ (x = true ↔ ∀ j, i ≤ j → j < n → P j) ∧ (x = true → (y' = true ↔ y = true ∧ ∀ j, i ≤ j → j < n → Q j ∧ jand (N j) (bd j) = 0))
  | 0, i, y, h0, h1, h2, _ => by omega
  | m + 1, i, y, h0, h1, h2, hs => by
    by_cases h : i = n
    · subst h
      exact ⟨true, y, by rw [iter_r (he _ _ _)], ⟨fun _ j h3 h4 => by omega, fun _ => rfl⟩, fun _ => ⟨fun h => ⟨h, fun j h3 h4 => by omega⟩, fun h => h.1⟩⟩
    · obtain ⟨x', y', b', g1, g2, g3⟩ := hs y i (by omega) (by omega)
      cases x' with
      | false =>
        obtain ⟨y2, e2⟩ := hb m y' b' (i + 1) (by omega) (by omega) (by omega)
        refine ⟨false, y2, by rw [iter_l g1, e2], ⟨fun h => (Bool.false_ne_true h).elim, fun h => g2.mpr (h i (by omega) (by omega))⟩, fun h => (Bool.false_ne_true h).elim⟩
      | true =>
        obtain ⟨k1, k2⟩ := g3 rfl
        obtain ⟨x, z, g4, g5, g6⟩ := for_f3 hbd he hb m (i + 1) y' (by omega) (by omega) (by omega) (fun x j h3 h4 => hs x j (by omega) h4)
        refine ⟨x, z, by rw [iter_l g1, k1, ← hbd i h0 (by omega), g4], ?_, fun hx => ?_⟩
        · rw [g5]
          constructor
          · intro q3 j h3 h4
            by_cases e : j = i
            · rw [e]; exact g2.mp rfl
            · exact q3 j (by omega) h4
          · exact fun q j h3 h4 => q j (by omega) h4
        · rw [g6 hx, k2]
          constructor
          · rintro ⟨⟨q1, q2⟩, q3⟩
            refine ⟨q1, fun j h3 h4 => ?_⟩
            by_cases e : j = i
            · rw [e]; exact q2
            · exact q3 j (by omega) h4
          · rintro ⟨q1, q2⟩
            exact ⟨⟨q1, q2 i (by omega) (by omega)⟩, fun j h3 h4 => q2 j (by omega) h4⟩
theorem jand_c (x y : Int) : jand x y = jand y x := by unfold jand; rw [Int32.and_comm]
theorem jand_0 (x : Int) : jand x 0 = 0 := by unfold jand; rw [i32_zero, Int32.and_zero]; rfl
theorem jand_or {x y z : Int} (hx : 0 ≤ x ∧ x < 64) (hy : 0 ≤ y ∧ y < 64) (hz : 0 ≤ z ∧ z < 64) : jand x (jor y z) = 0 ↔ jand x y = 0 ∧ jand x z = 0 := by
  obtain ⟨j1, j2⟩ := jor64 hy hz
  rw [jand_nat (by omega) (by omega), jand_nat (by omega) (by omega), jand_nat (by omega) (by omega), j1, Int.toNat_natCast, Nat.and_or_distrib_left]
  generalize x.toNat &&& y.toNat = u
  generalize x.toNat &&& z.toNat = v
  have := Nat.left_le_or (n := u) (m := v)
  have := Nat.right_le_or (n := u) (m := v)
  constructor
  · intro h; omega
  · rintro ⟨h1, h2⟩
    have e1 : u = 0 := by omega
    have e2 : v = 0 := by omega
    subst e1 e2; rfl
def bd3 (n0 n1 n2 : Int) (i : Int) : Int := if i ≤ 0 then 0 else if i ≤ 1 then jor 0 n0 else if i ≤ 2 then jor (jor 0 n0) n1 else jor (jor (jor 0 n0) n1) n2
theorem bd3_s {n0 n1 n2 : Int} : ∀ j : Int, 0 ≤ j → j < 3 → bd3 n0 n1 n2 (j + 1) = jor (bd3 n0 n1 n2 j) (F_X10_pick j n0 n1 n2) := by
  intro j h1 h2
  have : j = 0 ∨ j = 1 ∨ j = 2 := by omega
  rcases this with rfl | rfl | rfl <;> rfl
theorem apart_iff {n0 n1 n2 : Int} (h0 : 0 ≤ n0 ∧ n0 < 64) (h1 : 0 ≤ n1 ∧ n1 < 64) (h2 : 0 ≤ n2 ∧ n2 < 64) : (jand n0 (bd3 n0 n1 n2 0) = 0 ∧ jand n1 (bd3 n0 n1 n2 1) = 0 ∧ jand n2 (bd3 n0 n1 n2 2) = 0) ↔ (jand n0 n1 = 0 ∧ jand n0 n2 = 0 ∧ jand n1 n2 = 0) := by
  show (jand n0 0 = 0 ∧ jand n1 (jor 0 n0) = 0 ∧ jand n2 (jor (jor 0 n0) n1) = 0) ↔ _
  rw [jor_0l h0, jand_or h2 h0 h1, jand_0, jand_c n1 n0, jand_c n2 n0, jand_c n2 n1]
  constructor
  · rintro ⟨-, a, b, c⟩; exact ⟨a, b, c⟩
  · rintro ⟨a, b, c⟩; exact ⟨rfl, a, b, c⟩
theorem nmo64 {τ : Sg} {x : Int} (h : WFP τ) (hx : plo τ x) : 0 ≤ nmo τ x ∧ nmo τ x < 64 := by
  unfold nmo
  split
  · omega
  · rcases hx with hx | hx
    · omega
    · exact nm_b h hx
theorem namesO5 {σ τ : Sg} {x : Int} (h : RP σ τ) (hx : plo τ x) : F_X5_namesOf x σ = nmo τ x := by
  have w2 := h.2.1.2.1
  rcases hx with hx | hx
  · unfold F_X5_namesOf nmo; rw [rdD_out (by omega), if_pos (by omega)]
  · rw [namesOf5 h hx]; unfold nmo; rw [if_neg (by have := hx.1; omega)]
def apS (τ : Sg) (a b c : Int) : Prop := jand (nmo τ a) (nmo τ b) = 0 ∧ jand (nmo τ a) (nmo τ c) = 0 ∧ jand (nmo τ b) (nmo τ c) = 0
theorem bindApart5 {σ τ : Sg} {a b c : Int} (h : RP σ τ) (ha : plo τ a) (hb : plo τ b) (hc : plo τ c) : F_X5_bindApart a b c σ = true ↔ apS τ a b c := by
  unfold F_X5_bindApart apS
  rw [namesO5 h ha, namesO5 h hb, namesO5 h hc, bnd_eq, bnd_eq, bnd_eq]
  split
  · split
    · split
      · simp [*]
      · simp [*]
    · simp [*]
  · simp [*]
theorem depthO5 {σ τ : Sg} {x : Int} (h : RP σ τ) (hx : plo τ x) : F_X5_depthOf x σ = dpo τ x ∧ 0 ≤ dpo τ x ∧ dpo τ x ≤ 4 := by
  have hW := h.2.1
  obtain ⟨r1, ⟨w1, w2, w3⟩, r3, r4⟩ := h
  unfold F_X5_depthOf dpo
  rcases hx with hx | ⟨x1, x2⟩
  · rw [rdD_out (by omega), if_pos (by omega)]; omega
  · rw [rdD_ok x1 (by omega), if_neg (by omega), (r3 x.toNat (by omega)).2.2.2.2.2.2.1]
    have := dpo_b hW x.toNat (by omega)
    omega
def ptS (τ : Sg) (a b c : Int) : Prop := apS τ a b c ∧ 1 + szo τ a + szo τ b + szo τ c ≤ 40 ∧ max3 (dpo τ a) (dpo τ b) (dpo τ c) < 4
theorem canParts5 {σ τ : Sg} {a b c : Int} (h : RP σ τ) (ha : plo τ a) (hb : plo τ b) (hc : plo τ c) : F_X5_canBeParts a b c σ = true ↔ ptS τ a b c := by
  have h1 := bindApart5 h ha hb hc
  have h2 := isSmall5 h ha hb hc
  have h3 : F_X5_deepest a b c σ = max3 (dpo τ a) (dpo τ b) (dpo τ c) := by
    unfold F_X5_deepest max3
    rw [(depthO5 h ha).1, (depthO5 h hb).1, (depthO5 h hc).1, maxJ, maxJ]
  unfold F_X5_canBeParts ptS
  by_cases c1 : apS τ a b c
  · rw [if_pos (h1.mpr c1)]
    by_cases c2 : 1 + szo τ a + szo τ b + szo τ c ≤ 40
    · rw [if_pos (h2.mpr c2), h3]
      by_cases c3 : max3 (dpo τ a) (dpo τ b) (dpo τ c) < 4
      · rw [if_neg (by omega)]; exact ⟨fun _ => ⟨c1, c2, c3⟩, fun _ => rfl⟩
      · rw [if_pos (by omega)]; exact ⟨(fun h => by cases h), fun h => absurd h.2.2 c3⟩
    · rw [if_neg (fun q => c2 (h2.mp q))]; exact ⟨(fun h => by cases h), fun h => absurd h.2.1 c2⟩
  · rw [if_neg (fun q => c1 (h1.mp q))]; exact ⟨(fun h => by cases h), fun h => absurd h.1 c1⟩
/-- the reference's depth -/
theorem dep1 {τ : Sg} {a b c m i : Int} (h : WFP τ) (hi : 0 ≤ i ∧ i < 3) (hm : 0 ≤ m ∧ m ≤ 4) (hp : plo τ (F_X10_pick i a b c)) : L_X11_depthOf_6 a b c τ m i = some (.inl (max m (dpo τ (F_X10_pick i a b c)), i + 1)) := by
  have w2 := h.2.1
  unfold L_X11_depthOf_6
  rw [if_neg (by omega), bnd_eq, qick]
  generalize F_X10_pick i a b c = p at *
  unfold B_X11_depthOf_50 B_X11_depthOf_52 dpo
  rcases hp with hp | hp
  · rw [if_pos hp, if_pos (by omega), wrap_id (by omega) (by omega), show max m 0 = m by omega]
  · obtain ⟨p1, p2⟩ := hp
    have hd := dpo_b h p.toNat (by omega)
    rw [if_neg (by omega), if_neg (by omega), rdn_ok p1 (by omega), Option.bind_some, wrap_id (by omega) (by omega)]
    by_cases c : τ 13 p.toNat ≤ m
    · rw [if_pos c, show max m (τ 13 p.toNat) = m by omega]
    · rw [if_neg c, Option.bind_some, show max m (τ 13 p.toNat) = τ 13 p.toNat by omega]
theorem depthM {τ : Sg} {a b c : Int} (h : WFP τ) (ha : plo τ a) (hb : plo τ b) (hc : plo τ c) : F_X11_depthOf a b c τ = some (max3 (dpo τ a) (dpo τ b) (dpo τ c) + 1) := by
  have bb : ∀ x, plo τ x → 0 ≤ dpo τ x ∧ dpo τ x ≤ 4 := fun x hx => by
    unfold dpo
    split
    · omega
    · rcases hx with hx | hx
      · omega
      · exact dpo_b h x.toNat (by have := hx.1; have := hx.2; omega)
  have b0 := bb a ha
  have b1 := bb b hb
  have b2 := bb c hc
  have s0 := dep1 (a := a) (b := b) (c := c) (m := 0) (i := 0) h (by omega) (by omega) ha
  have s1 := dep1 (a := a) (b := b) (c := c) (m := max 0 (dpo τ a)) (i := 1) h (by omega) (by omega) hb
  have s2 := dep1 (a := a) (b := b) (c := c) (m := max (max 0 (dpo τ a)) (dpo τ b)) (i := 2) h (by omega) (by omega) hc
  have hl : iter (fun z : (Int × Int) => L_X11_depthOf_6 a b c τ z.1 z.2) 4 (0, 0) = some (max (max (max 0 (dpo τ a)) (dpo τ b)) (dpo τ c)) := by
    refine (iter_l (f := fun z : (Int × Int) => L_X11_depthOf_6 a b c τ z.1 z.2) (n := 3) (a := (0, 0)) (a' := (max 0 (dpo τ a), 1)) s0).trans ?_
    refine (iter_l (f := fun z : (Int × Int) => L_X11_depthOf_6 a b c τ z.1 z.2) (n := 2) (a := (max 0 (dpo τ a), 1)) (a' := (max (max 0 (dpo τ a)) (dpo τ b), 2)) s1).trans ?_
    refine (iter_l (f := fun z : (Int × Int) => L_X11_depthOf_6 a b c τ z.1 z.2) (n := 1) (a := (max (max 0 (dpo τ a)) (dpo τ b), 2)) (a' := (max (max (max 0 (dpo τ a)) (dpo τ b)) (dpo τ c), 3)) s2).trans ?_
    exact iter_r (f := fun z : (Int × Int) => L_X11_depthOf_6 a b c τ z.1 z.2) rfl
  unfold F_X11_depthOf max3
  rw [hl, Option.bind_some, wrap_id (by omega) (by omega)]
  congr 1
  omega
