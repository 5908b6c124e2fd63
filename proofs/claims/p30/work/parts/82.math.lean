/-! merge, the call -/
theorem for_fb {f : Bool × Int → Option ((Bool × Int) ⊕ Bool)} {n : Int} {P : Int → Prop} (he : f (true, n) = some (.inr true)) (hb : ∀ j, j ≤ n → f (false, j) = some (.inr false)) : ∀ (m : Nat) (i : Int), i ≤ n → n - i < m → (∀ (j : Int), i ≤ j → j < n → ∃ y, f (true, j) = some (.inl (y, j + 1)) ∧ (y = true ↔ P j)) → ∃ b, iter f m (true, i) = some b ∧ (b = true ↔ ∀ j, i ≤ j → j < n → P j)
  | 0, i, h1, h2, _ => by omega
  | m + 1, i, h1, h2, hs => by
    by_cases h : i = n
    · subst h
      exact ⟨true, by rw [iter_r he], by constructor; (intro h j h3 h4; omega); (intro h; rfl)⟩
    · obtain ⟨y, g1, g2⟩ := hs i (by omega) (by omega)
      cases y with
      | false =>
        refine ⟨false, ?_, by constructor; (intro h; cases h); (intro h; exact g2.mpr (h i (by omega) (by omega)))⟩
        rw [iter_l g1]
        cases m with
        | zero => omega
        | succ m => rw [iter_r (hb _ (by omega))]
      | true =>
        obtain ⟨b, g3, g4⟩ := for_fb he hb m (i + 1) (by omega) (by omega) (fun j h3 h4 => hs j (by omega) h4)
        refine ⟨b, by rw [iter_l g1, g3], ?_⟩
        rw [g4]
        constructor
        · intro q3 j h3 h4
          by_cases e : j = i
          · rw [e]; exact g2.mp rfl
          · exact q3 j (by omega) h4
        · exact fun q j h3 h4 => q j (by omega) h4
def alkS (τ : Sg) (a k : Nat) : Prop := (∀ i : Nat, i < 3 → ¬ i = k → cpt τ a i = cpt τ (a + 1) i) ∧ τ 22 a = -1 ∧ τ 22 (a + 1) = -1 ∧ τ 21 a = τ 21 (a + 1)
set_option maxHeartbeats 4000000 in
theorem alikeC {σ τ : Sg} {a k : Nat} (hM : RM σ τ) (ha : (a : Int) + 1 < τ 0 23) : ∃ b, F_X4_areAlike a ((a : Int) + 1) k σ = some b ∧ (b = true ↔ alkS τ a k) := by
  obtain ⟨h1, h2, h3, h4, h5⟩ := id hM
  have w2 := h4.2.1
  have g0 := h5 a (by omega)
  have g1 := h5 (a + 1) (by omega)
  have hga : ∀ j : Int, 0 ≤ j → j ≤ 7 → F_X4_get a j σ = σ 26 (8 * a + j.toNat) := fun j j0 j7 => by
    rw [get4 hM ⟨by omega, by omega⟩ ⟨j0, j7⟩, show ((a : Int)).toNat = a by omega]
  have hgb : ∀ j : Int, 0 ≤ j → j ≤ 7 → F_X4_get ((a : Int) + 1) j σ = σ 26 (8 * (a + 1) + j.toNat) := fun j j0 j7 => by
    rw [get4 hM ⟨by omega, by omega⟩ ⟨j0, j7⟩, show ((a : Int) + 1).toNat = a + 1 by omega]
  unfold F_X4_areAlike alkS
  by_cases c : ∀ j : Int, 0 ≤ j → j < 3 → (¬ j = k → cpt τ a j.toNat = cpt τ (a + 1) j.toNat)
  · rw [for_ok (f := fun x : Int => L_X4_areAlike_3 a ((a : Int) + 1) k σ x) (n := 3) (e := .inl ()) rfl 4 0 (by omega) (by omega) (fun j j1 j2 => by
      show L_X4_areAlike_3 a ((a : Int) + 1) k σ j = _
      unfold L_X4_areAlike_3 B_X4_areAlike_34
      rw [if_neg (by omega), wrap_id (by omega) (by omega)]
      by_cases e : j = k
      · rw [if_pos e]
      · rw [if_neg e, hga j j1 (by omega), hgb j j1 (by omega), g0.1 j.toNat (by omega), g1.1 j.toNat (by omega), if_pos (c j j1 j2 e)]), Option.bind_some, Sum.elim_inl]
    have c' : ∀ i : Nat, i < 3 → ¬ i = k → cpt τ a i = cpt τ (a + 1) i := fun i i3 ik => by
      have := c i (by omega) (by omega) (by omega)
      rw [show ((i : Int)).toNat = i by omega] at this
      exact this
    have q1 := g0.2.2.1
    have q2 := g1.2.2.1
    have q3 := g0.2.1
    have q4 := g1.2.1
    rw [hga 4 (by omega) (by omega), hgb 4 (by omega) (by omega), hga 3 (by omega) (by omega), hgb 3 (by omega) (by omega), show ((4 : Int)).toNat = 4 from rfl, show ((3 : Int)).toNat = 3 from rfl, q1, q2, q3, q4]
    by_cases e1 : τ 22 a = -1
    · rw [if_pos e1]
      by_cases e2 : τ 22 (a + 1) = -1
      · rw [if_pos e2]
        by_cases e3 : τ 21 a = τ 21 (a + 1)
        · rw [if_pos e3]; exact ⟨true, rfl, fun _ => ⟨c', e1, e2, e3⟩, fun _ => rfl⟩
        · rw [if_neg e3]; exact ⟨false, rfl, (fun q => by cases q), fun q => absurd q.2.2.2 e3⟩
      · rw [if_neg e2]; exact ⟨false, rfl, (fun q => by cases q), fun q => absurd q.2.2.1 e2⟩
    · rw [if_neg e1]; exact ⟨false, rfl, (fun q => by cases q), fun q => absurd q.2.1 e1⟩
  · refine ⟨false, ?_, (fun q => by cases q), fun q => absurd (fun (j : Int) (j0 : 0 ≤ j) (j1 : j < 3) (jk : ¬ j = k) => q.1 j.toNat (by omega) (by omega)) c⟩
    rw [for_no (f := fun x : Int => L_X4_areAlike_3 a ((a : Int) + 1) k σ x) (n := 3) (r := .inr false) (P := fun j => ¬ j = k → cpt τ a j.toNat = cpt τ (a + 1) j.toNat) 4 0 (by omega) (by omega) (fun j j1 j2 j3 => by
      show L_X4_areAlike_3 a ((a : Int) + 1) k σ j = _
      unfold L_X4_areAlike_3 B_X4_areAlike_34
      rw [if_neg (by omega), wrap_id (by omega) (by omega)]
      by_cases e : j = k
      · rw [if_pos e]
      · rw [if_neg e, hga j j1 (by omega), hgb j j1 (by omega), g0.1 j.toNat (by omega), g1.1 j.toNat (by omega), if_pos (j3 e)]) (fun j j1 j2 j3 => by
      show L_X4_areAlike_3 a ((a : Int) + 1) k σ j = _
      unfold L_X4_areAlike_3
      have e : ¬ j = k := fun q => j3 (fun z => absurd q z)
      rw [if_neg (by omega), if_neg e, hga j j1 (by omega), hgb j j1 (by omega), g0.1 j.toNat (by omega), g1.1 j.toNat (by omega), if_neg (fun z => j3 (fun _ => z))]) c, Option.bind_some, Sum.elim_inr]
def mgP (τ : Sg) (a k : Nat) (j : Int) : Prop := if j = k then (τ 16 (cpt τ a k).toNat = 0 ∧ τ 16 (cpt τ (a + 1) k).toNat = 0 ∧ altS τ (cpt τ a k) (cpt τ (a + 1) k) ∧ ¬ τ 0 9 = 60) else cpt τ a j.toNat = cpt τ (a + 1) j.toNat
set_option maxHeartbeats 4000000 in
theorem mergeM {τ : Sg} {a k : Nat} (hW : WFP τ) (hM : WFM τ) (ha : (a : Int) + 1 < τ 0 23) : ∃ b, iter (fun x : (Bool × Int) => L_X11_merge_87 a k τ x.1 x.2) 3000 (true, 0) = some b ∧ (b = true ↔ ∀ j : Int, 0 ≤ j → j < τ 0 21 → mgP τ a k j) := by
  obtain ⟨w1, w2, w3, w4, w5⟩ := id hM
  have hw9 := hW.2.1
  refine for_fb (f := fun x : (Bool × Int) => L_X11_merge_87 a k τ x.1 x.2) (n := τ 0 21) ?_ ?_ 3000 0 (by omega) (by omega) ?_
  · show L_X11_merge_87 a k τ true (τ 0 21) = _
    unfold L_X11_merge_87; rw [if_pos (by omega)]
  · intro j hj
    show L_X11_merge_87 a k τ false j = _
    unfold L_X11_merge_87
    by_cases c : τ 0 21 ≤ j
    · rw [if_pos c]
    · rw [if_neg c, if_neg (by simp)]
  · intro j j0 j1
    show ∃ y, L_X11_merge_87 a k τ true j = some (.inl (y, j + 1)) ∧ (y = true ↔ mgP τ a k j)
    have p1 := ((w5 a (by omega)).1 j.toNat (by omega)).1 (by omega)
    have p2 := ((w5 (a + 1) (by omega)).1 j.toNat (by omega)).1 (by omega)
    have ev1 : τ 20 (3 * (a : Int) + j).toNat = cpt τ a j.toNat := by unfold cpt; congr 1; omega
    have ev2 : τ 20 (3 * (a : Int) + 3 + j).toNat = cpt τ (a + 1) j.toNat := by unfold cpt; congr 1; omega
    unfold L_X11_merge_87 B_X11_merge_177 B_X11_merge_193
    rw [if_neg (by omega), if_pos rfl, wrap_id (z := 3 * (a : Int)) (by omega) (by omega), wrap_id (z := 3 * (a : Int) + j) (by omega) (by omega), rdn_ok (by omega) (by omega), Option.bind_some, wrap_id (z := 3 * (a : Int) + 3) (by omega) (by omega), wrap_id (z := 3 * (a : Int) + 3 + j) (by omega) (by omega), rdn_ok (by omega) (by omega), Option.bind_some, ev1, ev2, wrap_id (z := j + 1) (by omega) (by omega)]
    unfold mgP
    by_cases e : j = k
    · subst e
      rw [show ((k : Int)).toNat = k by omega] at p1 p2 ⊢
      have l1 : pl τ (cpt τ a k) := ⟨p1.1, p1.2.1⟩
      have l2 : pl τ (cpt τ (a + 1) k) := ⟨p2.1, p2.2.1⟩
      obtain ⟨y, y1, y2⟩ := areAlt hW l1 l2
      have b1 := p1.2.1
      have b2 := p2.2.1
      rw [if_pos rfl, if_pos rfl, rdn_ok p1.1 (by omega), Option.bind_some]
      by_cases d1 : τ 16 (cpt τ a k).toNat = 0
      · rw [if_pos d1, rdn_ok p2.1 (by omega), Option.bind_some]
        by_cases d2 : τ 16 (cpt τ (a + 1) k).toNat = 0
        · rw [if_pos d2, y1, Option.bind_some]
          by_cases d3 : y = true
          · rw [if_pos d3]
            by_cases d4 : τ 0 9 = 60
            · rw [if_pos (isFull_iff.mpr d4)]; exact ⟨false, rfl, (fun q => by cases q), fun q => absurd d4 q.2.2.2⟩
            · rw [if_neg (fun q => d4 (isFull_iff.mp q))]; exact ⟨true, rfl, fun _ => ⟨d1, d2, y2.mp d3, d4⟩, fun _ => rfl⟩
          · rw [if_neg d3]; exact ⟨false, rfl, (fun q => by cases q), fun q => absurd (y2.mpr q.2.2.1) d3⟩
        · rw [if_neg d2]; exact ⟨false, rfl, (fun q => by cases q), fun q => absurd q.2.1 d2⟩
      · rw [if_neg d1]; exact ⟨false, rfl, (fun q => by cases q), fun q => absurd q.1 d1⟩
    · rw [if_neg e, if_neg e]
      by_cases d : cpt τ a j.toNat = cpt τ (a + 1) j.toNat
      · rw [if_pos d]; exact ⟨true, rfl, fun _ => d, fun _ => rfl⟩
      · rw [if_neg d]; exact ⟨false, rfl, (fun q => by cases q), fun q => absurd q d⟩
