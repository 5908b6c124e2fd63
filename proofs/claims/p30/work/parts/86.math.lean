/-! the reference's matching: its state -/
def rnl (s : Sg) : List (Int × Int × Int) → Prop
  | [] => True
  | e :: R => s 36 R.length = e.1 ∧ s 37 R.length = e.2.1 ∧ s 38 R.length = e.2.2 ∧ rnl s R
theorem rnl_congr {s s' : Sg} (h : ∀ r, 36 ≤ r → r ≤ 38 → s' r = s r) : ∀ {R : List (Int × Int × Int)}, rnl s R → rnl s' R
  | [], _ => trivial
  | e :: R, q => ⟨by rw [h 36 (by omega) (by omega)]; exact q.1, by rw [h 37 (by omega) (by omega)]; exact q.2.1, by rw [h 38 (by omega) (by omega)]; exact q.2.2.1, rnl_congr h q.2.2.2⟩
def FrR (τ s : Sg) : Prop := (∀ r, r ∉ [0, 28, 29, 30, 31, 32, 33, 34, 36, 37, 38] → s r = τ r) ∧ ∀ i, i ∉ [34, 38, 42, 43, 44, 47, 48] → s 0 i = τ 0 i
/-- the state of a matching in the reference's cells -/
def RX (τ : Sg) (x : XS) (s : Sg) : Prop := FrR τ s ∧ (∀ i : Nat, i < 6 → s 33 i = x.1 i) ∧ s 0 47 = x.2.1 ∧ inR x.2.1 ∧ s 0 48 = x.2.2.length ∧ rnl s x.2.2
theorem FrR.row {τ s : Sg} (h : FrR τ s) {r : Nat} (h1 : 1 ≤ r) (h2 : r ≤ 27 ∨ 39 ≤ r ∨ r = 35) : s r = τ r := h.1 r (by simp only [List.mem_cons, List.not_mem_nil, or_false, not_or]; omega)
theorem FrR.up {τ s : Sg} {r i : Nat} {v : Int} (h : FrR τ s) (hr : (28 ≤ r ∧ r ≤ 34) ∨ (36 ≤ r ∧ r ≤ 38) ∨ (r = 0 ∧ i ∈ [34, 38, 42, 43, 44, 47, 48])) : FrR τ (up2 s r i v) := by
  refine ⟨fun k hk => ?_, fun k hk => ?_⟩
  · rw [← h.1 k hk]
    simp only [List.mem_cons, List.not_mem_nil, or_false, not_or] at hk
    funext j; rw [up2_row (by omega)]
  · rw [← h.2 k hk]
    unfold up2
    by_cases c : 0 = r ∧ k = i
    · exfalso
      rcases hr with g | g | ⟨g, g2⟩
      · omega
      · omega
      · rw [c.2] at hk; exact hk g2
    · rw [if_neg c]
theorem RX.up {τ s : Sg} {x : XS} {r i : Nat} {v : Int} (h : RX τ x s) (hr : (28 ≤ r ∧ r ≤ 32) ∨ r = 34 ∨ (r = 0 ∧ i ∈ [34, 38, 42, 43, 44])) : RX τ x (up2 s r i v) := by
  obtain ⟨h1, h2, h3, h4, h5, h6⟩ := h
  have hi : r = 0 → i = 34 ∨ i = 38 ∨ i = 42 ∨ i = 43 ∨ i = 44 := fun q => by
    rcases hr with g | g | ⟨g, g2⟩
    · omega
    · omega
    · simpa only [List.mem_cons, List.not_mem_nil, or_false] using g2
  refine ⟨h1.up ?_, fun k hk => ?_, ?_, h4, ?_, rnl_congr (s := s) (fun k k1 k2 => ?_) h6⟩
  · rcases hr with g | g | ⟨g, g2⟩
    · exact Or.inl (by omega)
    · exact Or.inl (by omega)
    · refine Or.inr (Or.inr ⟨g, ?_⟩)
      have := hi g
      simp only [List.mem_cons, List.not_mem_nil, or_false]; omega
  · rw [up2_row (by rcases hr with g | g | ⟨g, g2⟩ <;> omega)]; exact h2 k hk
  · unfold up2; rw [if_neg (fun q => by have := hi q.1.symm; omega)]; exact h3
  · unfold up2; rw [if_neg (fun q => by have := hi q.1.symm; omega)]; exact h5
  · funext j; rw [up2_row (by rcases hr with g | g | ⟨g, g2⟩ <;> omega)]
theorem RX.way {τ s s' : Sg} {x : XS} (h : RX τ x s) (hs : ∀ r, ¬ r = 34 → s' r = s r) : RX τ x s' := by
  obtain ⟨⟨h0, h1⟩, h2, h3, h4, h5, h6⟩ := h
  refine ⟨⟨fun r hr => ?_, fun i hi => by rw [hs 0 (by omega)]; exact h1 i hi⟩, fun k hk => by rw [hs 33 (by omega)]; exact h2 k hk, by rw [hs 0 (by omega)]; exact h3, h4, by rw [hs 0 (by omega)]; exact h5, rnl_congr (s := s) (fun k k1 k2 => hs k (by omega)) h6⟩
  rw [hs r (by simp only [List.mem_cons, List.not_mem_nil, or_false, not_or] at hr; omega)]
  exact h0 r hr
/-- the heap of what is still to be matched, from its top; and the alternatives -/
def hp (s : Sg) : List (Int × Int) → Prop
  | [] => True
  | q :: S => s 28 S.length = q.1 ∧ s 29 S.length = q.2 ∧ hp s S
def chs (s : Sg) : List (Int × Int × Int) → Prop
  | [] => True
  | q :: C => s 30 C.length = q.1 ∧ s 31 C.length = q.2.1 ∧ s 32 C.length = q.2.2 ∧ chs s C
theorem hp_up {s : Sg} {r i : Nat} {v : Int} : ∀ {S : List (Int × Int)}, hp s S → (¬ r = 28 ∧ ¬ r = 29) ∨ S.length ≤ i → hp (up2 s r i v) S
  | [], _, _ => trivial
  | q :: S, h, hi => by
    simp only [List.length_cons] at hi
    refine ⟨?_, ?_, hp_up h.2.2 (by omega)⟩
    · unfold up2; rw [if_neg (by omega)]; exact h.1
    · unfold up2; rw [if_neg (by omega)]; exact h.2.1
theorem hp_congr {s s' : Sg} (h1 : s' 28 = s 28) (h2 : s' 29 = s 29) : ∀ {S : List (Int × Int)}, hp s S → hp s' S
  | [], _ => trivial
  | q :: S, h => ⟨by rw [h1]; exact h.1, by rw [h2]; exact h.2.1, hp_congr h1 h2 h.2.2⟩
theorem hp_app {s : Sg} : ∀ {L S : List (Int × Int)}, hp s (L ++ S) → hp s S
  | [], _, h => h
  | _ :: _, _, h => hp_app h.2.2
theorem chs_up {s : Sg} {r i : Nat} {v : Int} : ∀ {C : List (Int × Int × Int)}, chs s C → (r < 30 ∨ 32 < r) ∨ C.length ≤ i → chs (up2 s r i v) C
  | [], _, _ => trivial
  | q :: S, h, hi => by
    simp only [List.length_cons] at hi
    refine ⟨?_, ?_, ?_, chs_up h.2.2.2 (by omega)⟩
    · unfold up2; rw [if_neg (by omega)]; exact h.1
    · unfold up2; rw [if_neg (by omega)]; exact h.2.1
    · unfold up2; rw [if_neg (by omega)]; exact h.2.2.1
theorem chs_congr {s s' : Sg} (h1 : s' 30 = s 30) (h2 : s' 31 = s 31) (h3 : s' 32 = s 32) : ∀ {C : List (Int × Int × Int)}, chs s C → chs s' C
  | [], _ => trivial
  | q :: S, h => ⟨by rw [h1]; exact h.1, by rw [h2]; exact h.2.1, by rw [h3]; exact h.2.2.1, chs_congr h1 h2 h3 h.2.2.2⟩
def st (s : Sg) (S : List (Int × Int)) (C : List (Int × Int × Int)) : Prop := hp s S ∧ s 0 34 = S.length ∧ chs s C ∧ s 0 38 = C.length
def pu (s : Sg) (a b : Int) : Sg := up2 (up2 (up2 s 28 (s 0 34).toNat a) 29 (s 0 34).toNat b) 0 34 (s 0 34 + 1)
theorem push_c {s : Sg} {a b : Int} (h : 0 ≤ s 0 34 ∧ s 0 34 < 256) : F_X11_push a b s = some (pu s a b) := by
  unfold F_X11_push pu
  rw [wrn_ok h.1 (by omega), Option.bind_some, up2_row (by omega), wrn_ok h.1 (by omega), Option.bind_some, bnd_eq, up2_row (by omega), up2_row (by omega), wrap_id (by omega) (by omega)]
theorem st_pu {s : Sg} {a b : Int} {S : List (Int × Int)} {C : List (Int × Int × Int)} (h : st s S C) : st (pu s a b) ((a, b) :: S) C := by
  obtain ⟨h1, h2, h3, h4⟩ := h
  have e : (s 0 34).toNat = S.length := by omega
  unfold pu
  rw [e]
  refine ⟨⟨?_, ?_, hp_up (hp_up (hp_up h1 (Or.inr (Nat.le_refl _))) (Or.inr (Nat.le_refl _))) (Or.inl (by omega))⟩, ?_, chs_up (chs_up (chs_up h3 (Or.inl (by omega))) (Or.inl (by omega))) (Or.inl (by omega)), ?_⟩
  · rw [up2_row (by omega), up2_row (by omega), up2_at rfl rfl]
  · rw [up2_row (by omega), up2_at rfl rfl]
  · rw [up2_at rfl rfl, List.length_cons]; omega
  · rw [up2_idx (by omega), up2_row (by omega), up2_row (by omega)]; exact h4
theorem RX_pu {τ s : Sg} {x : XS} {a b : Int} (h : RX τ x s) : RX τ x (pu s a b) :=
  ((h.up (Or.inl (by omega))).up (Or.inl (by omega))).up (Or.inr (Or.inr ⟨rfl, by decide⟩))
