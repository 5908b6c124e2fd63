/-! numbers and rows: what the read-off functions come to -/
theorem rdn_ok {n : Nat} {σ : Sg} {k : Nat} {i : Int} (h1 : 0 ≤ i) (h2 : i < n) : rdn n σ k i = some (σ k i.toNat) := by unfold rdn; rw [if_pos ⟨h1, h2⟩]
theorem wrn_ok {n : Nat} {σ : Sg} {k : Nat} {i x : Int} (h1 : 0 ≤ i) (h2 : i < n) : wrn n σ k i x = some (up2 σ k i.toNat x) := by unfold wrn; rw [if_pos ⟨h1, h2⟩]
theorem wbn_ok {n : Nat} {σ : Sg} {k : Nat} {i x : Int} (h1 : 0 ≤ i) (h2 : i < n) (h3 : x = 0 ∨ x = 1) : wbn n σ k i x = some (up2 σ k i.toNat x) := by unfold wbn; rw [if_pos ⟨⟨h1, h2⟩, h3⟩]
theorem rdD_ok {d : Int} {n : Nat} {σ : Sg} {k : Nat} {i : Int} (h1 : 0 ≤ i) (h2 : i < n) : rdD d σ k n i = σ k i.toNat := by unfold rdD; rw [if_pos ⟨h1, h2⟩]
theorem rdD_out {d : Int} {n : Nat} {σ : Sg} {k : Nat} {i : Int} (h : i < 0 ∨ (n : Int) ≤ i) : rdD d σ k n i = d := by unfold rdD; rw [if_neg (by omega)]
theorem wrD_ok {n : Nat} {σ : Sg} {k : Nat} {i x : Int} (h1 : 0 ≤ i) (h2 : i < n) : wrD σ k n i x = up2 σ k i.toNat x := by unfold wrD; rw [if_pos ⟨h1, h2⟩]
theorem wrD_out {n : Nat} {σ : Sg} {k : Nat} {i x : Int} (h : i < 0 ∨ (n : Int) ≤ i) : wrD σ k n i x = σ := by unfold wrD; rw [if_neg (by omega)]
theorem wrap_id {z : Int} (h1 : -2147483648 ≤ z) (h2 : z ≤ 2147483647) : wrap z = z := wrap_eq ⟨h1, h2⟩
theorem up2_at {σ : Sg} {k i k' i' : Nat} {x : Int} (h1 : k' = k) (h2 : i' = i) : up2 σ k i x k' i' = x := by unfold up2; rw [if_pos ⟨h1, h2⟩]
theorem up2_row {σ : Sg} {k i k' i' : Nat} {x : Int} (h : ¬ k' = k) : up2 σ k i x k' i' = σ k' i' := by unfold up2; rw [if_neg (fun q => h q.1)]
theorem up2_idx {σ : Sg} {k i k' i' : Nat} {x : Int} (h : ¬ i' = i) : up2 σ k i x k' i' = σ k' i' := by unfold up2; rw [if_neg (fun q => h q.2)]
theorem iter_s {α β : Type} {f : α → Option (α ⊕ β)} {n : Nat} {a : α} : iter f (n + 1) a = (match f a with | none => none | some (.inl a') => iter f n a' | some (.inr b) => some b) := rfl
theorem iter_l {α β : Type} {f : α → Option (α ⊕ β)} {n : Nat} {a a' : α} (h : f a = some (.inl a')) : iter f (n + 1) a = iter f n a' := by rw [iter_s, h]
theorem iter_r {α β : Type} {f : α → Option (α ⊕ β)} {n : Nat} {a : α} {b : β} (h : f a = some (.inr b)) : iter f (n + 1) a = some b := by rw [iter_s, h]
theorem itp {α : Type} {c : Prop} [Decidable c] {a b : α} (h : c) : (if c then a else b) = a := if_pos h
theorem itn {α : Type} {c : Prop} [Decidable c] {a b : α} (h : ¬ c) : (if c then a else b) = b := if_neg h
theorem isIn_iff {a b c : Int} : F_X10_isIn a b c = true ↔ b ≤ a ∧ a ≤ c := by
  unfold F_X10_isIn; split
  · simp; omega
  · split <;> simp <;> omega
theorem in_iff {a b c : Int} : F_X11_in a b c = true ↔ b ≤ a ∧ a ≤ c := by
  unfold F_X11_in; split
  · simp; omega
  · split <;> simp <;> omega
theorem isDigit_iff {a : Int} : F_X10_isDigit a = true ↔ 0 ≤ a ∧ a ≤ 9 := isIn_iff
theorem refused_0 {τ : Sg} : F_X11_refused 0 τ = (false, up2 τ 0 0 0) := rfl
theorem refused_n {a : Int} {τ : Sg} (h : ¬ a = 0) : F_X11_refused a τ = (true, up2 τ 0 0 a) := if_neg h
theorem bnd_eq {α β : Type} {x : α} {f : α → β} : bnd x f = f x := rfl
theorem bind_some' {α β : Type} {x : α} {f : α → Option β} : (some x).bind f = f x := rfl
theorem isKind_iff {a : Int} : F_X2_isKind a = true ↔ 0 ≤ a ∧ a ≤ 5 := by
  unfold F_X2_isKind F_X2_isType B_X2_isKind_17
  by_cases h : 0 ≤ a ∧ a ≤ 3
  · rw [if_pos (isIn_iff.mpr h)]; simp; omega
  · rw [if_neg (fun q => h (isIn_iff.mp q))]
    split
    · simp; omega
    · split
      · simp; omega
      · simp; omega
theorem isKind11_iff {a : Int} : F_X11_isKind a = true ↔ 0 ≤ a ∧ a ≤ 5 := in_iff
/-! counting loops -/
theorem for_ok {β : Type} {f : Int → Option (Int ⊕ β)} {n : Int} {e : β} (he : f n = some (.inr e)) : ∀ (m : Nat) (i : Int), i ≤ n → n - i < m → (∀ j, i ≤ j → j < n → f j = some (.inl (j + 1))) → iter f m i = some e
  | 0, i, h1, h2, _ => by omega
  | m + 1, i, h1, h2, hs => by
    by_cases h : i = n
    · subst h; rw [iter_r he]
    · rw [iter_l (hs i (by omega) (by omega))]
      exact for_ok he m (i + 1) (by omega) (by omega) (fun j h3 h4 => hs j (by omega) h4)
theorem for_no {β : Type} {f : Int → Option (Int ⊕ β)} {n : Int} {r : β} {P : Int → Prop} : ∀ (m : Nat) (i : Int), i ≤ n → n - i < m → (∀ j, i ≤ j → j < n → P j → f j = some (.inl (j + 1))) → (∀ j, i ≤ j → j < n → ¬ P j → f j = some (.inr r)) → ¬ (∀ j, i ≤ j → j < n → P j) → iter f m i = some r
  | 0, i, h1, h2, _, _, _ => by omega
  | m + 1, i, h1, h2, hs, hf, hn => by
    by_cases h : i = n
    · exact absurd (fun j h3 h4 => by omega) hn
    · by_cases hp : P i
      · rw [iter_l (hs i (by omega) (by omega) hp)]
        refine for_no m (i + 1) (by omega) (by omega) (fun j h3 h4 => hs j (by omega) h4) (fun j h3 h4 => hf j (by omega) h4) (fun hall => hn (fun j h3 h4 => ?_))
        by_cases e : j = i
        · rw [e]; exact hp
        · exact hall j (by omega) h4
      · rw [iter_r (hf i (by omega) (by omega) hp)]
theorem for_fl {f : Bool × Int → Option ((Bool × Int) ⊕ Bool)} {n : Int} {P : Int → Prop} (he : ∀ x, f (x, n) = some (.inr x)) : ∀ (m : Nat) (i : Int) (x : Bool), i ≤ n → n - i < m → (∀ (x : Bool) (j : Int), i ≤ j → j < n → ∃ y, f (x, j) = some (.inl (y, j + 1)) ∧ (y = true ↔ x = true ∧ P j)) → ∃ b, iter f m (x, i) = some b ∧ (b = true ↔ x = true ∧ ∀ j, i ≤ j → j < n → P j)
  | 0, i, x, h1, h2, _ => by omega
  | m + 1, i, x, h1, h2, hs => by
    by_cases h : i = n
    · subst h
      exact ⟨x, by rw [iter_r (he x)], by constructor; (intro h; exact ⟨h, fun j h3 h4 => by omega⟩); (intro h; exact h.1)⟩
    · obtain ⟨y, g1, g2⟩ := hs x i (by omega) (by omega)
      obtain ⟨b, g3, g4⟩ := for_fl he m (i + 1) y (by omega) (by omega) (fun x j h3 h4 => hs x j (by omega) h4)
      refine ⟨b, by rw [iter_l g1, g3], ?_⟩
      rw [g4, g2]
      constructor
      · rintro ⟨⟨q1, q2⟩, q3⟩
        refine ⟨q1, fun j h3 h4 => ?_⟩
        by_cases e : j = i
        · rw [e]; exact q2
        · exact q3 j (by omega) h4
      · rintro ⟨q1, q2⟩
        exact ⟨⟨q1, q2 i (by omega) (by omega)⟩, fun j h3 h4 => q2 j (by omega) h4⟩
theorem all3 {P : Int → Prop} : (∀ j : Int, 0 ≤ j → j < 3 → P j) ↔ P 0 ∧ P 1 ∧ P 2 := by
  constructor
  · intro h; exact ⟨h 0 (by omega) (by omega), h 1 (by omega) (by omega), h 2 (by omega) (by omega)⟩
  · rintro ⟨h0, h1, h2⟩ j h3 h4
    have : j = 0 ∨ j = 1 ∨ j = 2 := by omega
    rcases this with rfl | rfl | rfl
    · exact h0
    · exact h1
    · exact h2
theorem pick0 {a b c : Int} : F_X10_pick 0 a b c = a := rfl
theorem pick1 {a b c : Int} : F_X10_pick 1 a b c = b := rfl
theorem pick2 {a b c : Int} : F_X10_pick 2 a b c = c := rfl
theorem qick {a b c i : Int} : F_X11_pick a b c i = F_X10_pick i a b c := rfl
theorem reft {a : Int} {τ : Sg} : F_X11_refused a τ = (decide (¬ a = 0), up2 τ 0 0 a) := by
  by_cases h : a = 0
  · subst h; rfl
  · rw [refused_n h, decide_eq_true h]
theorem ag_x {es : List (Nat × Int)} {E : Nat} {v t : Int} {τ : Sg} (h : kE es E = some t) (h1 : 1 ≤ t) (h2 : t ≤ 3) : Ag es (.inr E) v (up2 τ 0 0 t 0 0) := ⟨h, h1, h2⟩
theorem isType_iff {a : Int} : F_X2_isType a = true ↔ 0 ≤ a ∧ a ≤ 3 := isIn_iff
theorem hasRoom8 {σ : Sg} : F_X8_hasRoom σ = decide (σ 5 0 < 40) := by
  unfold F_X8_hasRoom
  split
  · rw [decide_eq_false (by omega)]
  · rw [decide_eq_true (by omega)]
theorem jrem97 {x : Int} (h : 0 ≤ x) : jrem x 97 = x % 97 := by unfold jrem; exact Int.tmod_eq_emod_of_nonneg h
theorem for_f2 {f : Bool × Bool × Int → Option ((Bool × Bool × Int) ⊕ (Bool × Bool))} {n : Int} {P Q : Int → Prop} (he : ∀ x y, f (x, y, n) = some (.inr (x, y))) (hb : ∀ y i, f (false, y, i) = some (.inr (false, y))) : ∀ (m : Nat) (i : Int) (y : Bool), i ≤ n → n - i < m → (∀ (y : Bool) (j : Int), i ≤ j → j < n → ∃ x' y', f (true, y, j) = some (.inl (x', y', j + 1)) ∧ (x' = true ↔ P j) ∧ (x' = true → (y' = true ↔ y = true ∧ Q j))) → ∃ x y', iter f m (true, y, i) = some (x, y') ∧ (x = true ↔ ∀ j, i ≤ j → j < n → P j) ∧ (x = true → (y' = true ↔ y = true ∧ ∀ j, i ≤ j → j < n → Q j))
  | 0, i, y, h1, h2, _ => by omega
  | m + 1, i, y, h1, h2, hs => by
    by_cases h : i = n
    · subst h
      exact ⟨true, y, by rw [iter_r (he _ _)], ⟨fun _ j h3 h4 => by omega, fun _ => rfl⟩, fun _ => ⟨fun h => ⟨h, fun j h3 h4 => by omega⟩, fun h => h.1⟩⟩
    · obtain ⟨x', y', g1, g2, g3⟩ := hs y i (by omega) (by omega)
      cases x' with
      | false =>
        refine ⟨false, y', ?_, ⟨fun h => (Bool.false_ne_true h).elim, fun h => g2.mpr (h i (by omega) (by omega))⟩, fun h => (Bool.false_ne_true h).elim⟩
        rw [iter_l g1]
        cases m with
        | zero => omega
        | succ m => rw [iter_r (hb _ _)]
      | true =>
        obtain ⟨x, z, g4, g5, g6⟩ := for_f2 he hb m (i + 1) y' (by omega) (by omega) (fun x j h3 h4 => hs x j (by omega) h4)
        refine ⟨x, z, by rw [iter_l g1, g4], ?_, fun hx => ?_⟩
        · rw [g5]
          constructor
          · intro q3 j h3 h4
            by_cases e : j = i
            · rw [e]; exact g2.mp rfl
            · exact q3 j (by omega) h4
          · exact fun q j h3 h4 => q j (by omega) h4
        · rw [g6 hx, g3 rfl]
          constructor
          · rintro ⟨⟨q1, q2⟩, q3⟩
            refine ⟨q1, fun j h3 h4 => ?_⟩
            by_cases e : j = i
            · rw [e]; exact q2
            · exact q3 j (by omega) h4
          · rintro ⟨q1, q2⟩
            exact ⟨⟨q1, q2 i (by omega) (by omega)⟩, fun j h3 h4 => q2 j (by omega) h4⟩
