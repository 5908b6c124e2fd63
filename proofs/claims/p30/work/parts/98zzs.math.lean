/-! the two at their start; all operations -/
def sI : Sg := I_X10_init_0 (fun _ _ => 0)
def tI : Sg := I_X11_init_0 (fun _ _ => 0)
theorem rel_0 : RelW sI tI := by
  have t4 : tI 0 4 = 0 := by decide +kernel
  have t9 : tI 0 9 = 0 := by decide +kernel
  have t21 : tI 0 21 = 0 := by decide +kernel
  have t23 : tI 0 23 = 0 := by decide +kernel
  have t47 : tI 0 47 = 0 := by decide +kernel
  have t48 : tI 0 48 = 0 := by decide +kernel
  have t52 : tI 0 52 = -1 := by decide +kernel
  have t54 : tI 0 54 = -1 := by decide +kernel
  have t1 : ∀ i : Nat, i < 4 → tI 1 i = 0 := by decide +kernel
  have k2 : ∀ i : Nat, i < 4 → sI 2 i = tI 1 i := by decide +kernel
  have k3 : ∀ i : Nat, i < 16 → sI 3 i = tI 2 i := by decide +kernel
  have k4 : ∀ i : Nat, i < 48 → sI 4 i = tI 3 i := by decide +kernel
  have s5 : sI 5 0 = 0 := by decide +kernel
  have s6 : ∀ d : Nat, d < 10 → sI 6 (40 + d) = 4 ∧ sI 7 (40 + d) = d ∧ sI 8 (40 + d) = d ∧ ∀ j : Nat, j < 3 → sI 9 (3 * (40 + d) + j) = -1 := by decide +kernel
  have s10 : sI 10 0 = 0 := by decide +kernel
  have s16 : ∀ p : Nat, p < 60 → sI 16 p = 0 := by decide +kernel
  have s23 : ∀ i : Nat, i < 12 → sI 23 i = tI 18 i := by decide +kernel
  have w18 : ∀ v : Nat, v < 3 → 1 ≤ tI 18 (4 * v + 3) ∧ tI 18 (4 * v + 3) ≤ 10 ∧ ∀ j : Nat, j < 3 → -9 ≤ tI 18 (4 * v + j) ∧ tI 18 (4 * v + j) ≤ 9 := by decide +kernel
  have s240 : sI 24 0 = 0 := by decide +kernel
  have s241 : sI 24 1 = 0 := by decide +kernel
  have s25 : ∀ k : Nat, k < 3 → sI 25 k = tI 19 k := by decide +kernel
  have s273 : sI 27 3 = 0 := by decide +kernel
  have s274 : sI 27 4 = 0 := by decide +kernel
  have s31 : ∀ i : Nat, i < 6 → sI 31 i = -1 := by decide +kernel
  have s42 : ∀ i : Nat, i < 469 → sI 42 i = 0 := by decide +kernel
  have s432 : sI 43 2 = mI false := by decide +kernel
  have s492 : sI 49 2 = mI true := by decide +kernel
  have s434 : sI 43 4 = 0 := by decide +kernel
  have s494 : sI 49 4 = 0 := by decide +kernel
  have s333 : sI 33 3 = 0 := by decide +kernel
  generalize sI = σ at *
  generalize tI = τ at *
  have hK : WFK (τ 1) (τ 2) (τ 3) := ⟨fun t ht => by rw [t1 t ht]; omega, fun t c ht hc => by rw [t1 t ht] at hc; omega⟩
  have hM : WFM τ := ⟨by omega, by omega, fun k hk => by omega, fun _ => t23, fun c hc => by omega⟩
  refine ⟨⟨⟨k2, k3, k4, hK⟩, ⟨by omega, ⟨by omega, by omega, fun v hv => by omega⟩, fun v hv => by omega, s6⟩, ⟨by omega, ⟨by omega, by omega, fun p hp => by omega⟩, fun p hp => by omega, fun p _ hp => s16 p hp⟩, ⟨s23, w18⟩, ⟨by omega, by omega, s25, hM, fun c hc => by omega⟩, ⟨by omega, by omega, by omega, fun i hi => by omega, fun i hi => ?_⟩⟩, fun y y1 y2 => s42 y.toNat (by omega), ⟨s432, Or.inl s434⟩, ⟨s492, Or.inl s494⟩, Or.inl s333, Or.inl t54⟩
  rw [if_pos t52]
  exact s31 i hi
theorem all_ops : AllOps RelW := ⟨w_constructor, w_num, w_seq, w_data, w_any, w_name, w_range, w_make, w_either, w_view, w_list, w_setView, w_begin, w_add, w_guard, w_split, w_merge, w_run, w_tests, w_views, w_viewAt, w_bound, w_taken, w_size, w_missing, w_example, w_isUsed⟩
