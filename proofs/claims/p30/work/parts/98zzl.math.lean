/-! a run: what is asked of the given values -/
def rIn (τ : Sg) (a b c i : Int) : Prop := τ 0 21 ≤ i ∨ vl τ (F_X10_pick i a b c)
def rFit (τ : Sg) (a b c i : Int) : Prop := (τ 0 21 ≤ i → F_X10_pick i a b c = -1) ∧ (i < τ 0 21 → vl τ (F_X10_pick i a b c) ∧ τ 4 (F_X10_pick i a b c).toNat = τ 19 i.toNat)
theorem rn_st {τ : Sg} {a b c i : Int} {x y : Bool} (hn : 0 ≤ τ 0 4 ∧ τ 0 4 ≤ 40) (hi : 0 ≤ i ∧ i < 3) : ∃ x' y', L_X11_run_14 a b c τ x y i = some (.inl (x', y', i + 1)) ∧ (x' = true ↔ x = true ∧ rIn τ a b c i) ∧ (y' = true ↔ y = true ∧ rFit τ a b c i) := by
  unfold L_X11_run_14 rIn rFit
  rw [if_neg (by omega), bnd_eq, bnd_eq, qick, wrap_id (z := τ 0 4 - 1) (by omega) (by omega)]
  generalize F_X10_pick i a b c = v at *
  have hin : F_X11_in v 0 (τ 0 4 - 1) = true ↔ vl τ v := by rw [in_iff]; unfold vl; omega
  have h69 : ∀ z : Bool, ∃ y', B_X11_run_69 y i v (F_X11_in v 0 (τ 0 4 - 1)) z τ = some (.inl (z, y', i + 1)) ∧ (y' = true ↔ y = true ∧ (τ 0 21 ≤ i → v = -1) ∧ (i < τ 0 21 → vl τ v ∧ τ 4 v.toNat = τ 19 i.toNat)) := fun z => by
    unfold B_X11_run_69 B_X11_run_116 B_X11_run_120 B_X11_run_121
    rw [wrap_id (by omega) (by omega)]
    cases y with
    | false =>
      rw [if_neg (by decide)]
      exact ⟨false, rfl, by simp⟩
    | true =>
      rw [if_pos rfl]
      by_cases g : τ 0 21 ≤ i
      · rw [if_pos g]
        by_cases g2 : v = -1
        · rw [if_pos g2]
          exact ⟨true, rfl, fun _ => ⟨rfl, fun _ => g2, fun q => by omega⟩, fun _ => rfl⟩
        · rw [if_neg g2]
          exact ⟨false, rfl, fun q => (by cases q), fun q => absurd (q.2.1 g) g2⟩
      · rw [if_neg g]
        by_cases g2 : vl τ v
        · rw [if_pos (hin.mpr g2)]
          have g2' := g2
          obtain ⟨g3, g4⟩ := g2'
          rw [rdn_ok g3 (by omega), rdn_ok hi.1 hi.2, Option.bind_some, Option.bind_some]
          by_cases g5 : τ 4 v.toNat = τ 19 i.toNat
          · rw [if_pos g5]
            exact ⟨true, rfl, fun _ => ⟨rfl, fun q => absurd q g, fun _ => ⟨g2, g5⟩⟩, fun _ => rfl⟩
          · rw [if_neg g5]
            exact ⟨false, rfl, fun q => (by cases q), fun q => absurd (q.2.2 (by omega)).2 g5⟩
        · rw [if_neg (fun q => g2 (hin.mp q))]
          exact ⟨false, rfl, fun q => (by cases q), fun q => absurd (q.2.2 (by omega)).1 g2⟩
  cases x with
  | false =>
    rw [if_neg (by decide)]
    obtain ⟨y', e1, e2⟩ := h69 false
    unfold B_X11_run_68
    exact ⟨false, y', e1, by simp, e2⟩
  | true =>
    rw [if_pos rfl]
    by_cases g : τ 0 21 ≤ i
    · rw [if_pos g]
      obtain ⟨y', e1, e2⟩ := h69 true
      unfold B_X11_run_64
      exact ⟨true, y', e1, ⟨fun _ => ⟨rfl, Or.inl g⟩, fun _ => rfl⟩, e2⟩
    · rw [if_neg g]
      by_cases g2 : vl τ v
      · rw [if_pos (hin.mpr g2)]
        obtain ⟨y', e1, e2⟩ := h69 true
        unfold B_X11_run_64
        exact ⟨true, y', e1, ⟨fun _ => ⟨rfl, Or.inr g2⟩, fun _ => rfl⟩, e2⟩
      · rw [if_neg (fun q => g2 (hin.mp q))]
        obtain ⟨y', e1, e2⟩ := h69 false
        unfold B_X11_run_68
        exact ⟨false, y', e1, ⟨fun q => (by cases q), fun q => (by
          rcases q.2 with q | q
          · exact absurd q g
          · exact absurd q g2)⟩, e2⟩
/-- the reference's two flags -/
theorem rn_fl {τ : Sg} {a b c : Int} {x : Bool} (hn : 0 ≤ τ 0 4 ∧ τ 0 4 ≤ 40) : ∃ x' y', iter (fun z : (Bool × Bool × Int) => L_X11_run_14 a b c τ z.1 z.2.1 z.2.2) 4 (x, true, 0) = some (x', y') ∧ (x' = true ↔ x = true ∧ ∀ i, 0 ≤ i → i < 3 → rIn τ a b c i) ∧ (y' = true ↔ ∀ i, 0 ≤ i → i < 3 → rFit τ a b c i) := by
  obtain ⟨x1, y1, e1, p1, q1⟩ := rn_st (x := x) (y := true) (a := a) (b := b) (c := c) (i := 0) hn (by omega)
  obtain ⟨x2, y2, e2, p2, q2⟩ := rn_st (x := x1) (y := y1) (a := a) (b := b) (c := c) (i := 0 + 1) hn (by omega)
  obtain ⟨x3, y3, e3, p3, q3⟩ := rn_st (x := x2) (y := y2) (a := a) (b := b) (c := c) (i := 0 + 1 + 1) hn (by omega)
  refine ⟨x3, y3, ?_, ?_, ?_⟩
  · rw [iter_l (f := fun z : (Bool × Bool × Int) => L_X11_run_14 a b c τ z.1 z.2.1 z.2.2) (a := (x, true, 0)) e1, iter_l (f := fun z : (Bool × Bool × Int) => L_X11_run_14 a b c τ z.1 z.2.1 z.2.2) (a := (x1, y1, 0 + 1)) e2, iter_l (f := fun z : (Bool × Bool × Int) => L_X11_run_14 a b c τ z.1 z.2.1 z.2.2) (a := (x2, y2, 0 + 1 + 1)) e3]
    refine iter_r (f := fun z : (Bool × Bool × Int) => L_X11_run_14 a b c τ z.1 z.2.1 z.2.2) ?_
    show L_X11_run_14 a b c τ x3 y3 (0 + 1 + 1 + 1) = _
    unfold L_X11_run_14
    rw [if_pos (by omega)]
  · rw [p3, p2, p1]
    constructor
    · rintro ⟨⟨⟨h, h0⟩, h1⟩, h2⟩
      refine ⟨h, fun i i1 i2 => ?_⟩
      have : i = 0 ∨ i = 0 + 1 ∨ i = 0 + 1 + 1 := by omega
      rcases this with rfl | rfl | rfl
      · exact h0
      · exact h1
      · exact h2
    · rintro ⟨h, h0⟩
      exact ⟨⟨⟨h, h0 _ (by omega) (by omega)⟩, h0 _ (by omega) (by omega)⟩, h0 _ (by omega) (by omega)⟩
  · rw [q3, q2, q1]
    constructor
    · rintro ⟨⟨⟨h, h0⟩, h1⟩, h2⟩
      refine fun i i1 i2 => ?_
      have : i = 0 ∨ i = 0 + 1 ∨ i = 0 + 1 + 1 := by omega
      rcases this with rfl | rfl | rfl
      · exact h0
      · exact h1
      · exact h2
    · intro h0
      exact ⟨⟨⟨rfl, h0 _ (by omega) (by omega)⟩, h0 _ (by omega) (by omega)⟩, h0 _ (by omega) (by omega)⟩
/-- the class's look at the kinds -/
theorem rk_st {σ τ : Sg} {a b c i : Int} (hV : RV σ τ) (hM : RM σ τ) (hi : 0 ≤ i ∧ i < 3) (hv : i < τ 0 21 → vl τ (F_X10_pick i a b c)) : (rFit τ a b c i → L_X10_run_31 a b c (τ 0 21) σ i = some (.inl (i + 1))) ∧ (¬ rFit τ a b c i → L_X10_run_31 a b c (τ 0 21) σ i = some (.inr (.inr (.inr 1, σ)))) := by
  unfold rFit L_X10_run_31
  rw [if_neg (by omega), bnd_eq]
  generalize F_X10_pick i a b c = v at *
  have b1 : B_X10_run_95 i true σ = some (.inl (i + 1)) := by
    unfold B_X10_run_95
    rw [if_pos rfl, wrap_id (by omega) (by omega)]
  have b2 : B_X10_run_95 i false σ = some (.inr (.inr (.inr 1, σ))) := by
    unfold B_X10_run_95
    rw [if_neg (by decide)]
  rw [b1, b2]
  obtain ⟨m1, m2, m3, m4, m5⟩ := hM
  by_cases g : τ 0 21 ≤ i
  · rw [if_pos g]
    by_cases g2 : v = -1
    · rw [if_pos g2]
      exact ⟨fun _ => rfl, fun q => absurd ⟨fun _ => g2, fun z => by omega⟩ q⟩
    · rw [if_neg g2]
      exact ⟨fun q => absurd (q.1 g) g2, fun _ => rfl⟩
  · rw [if_neg g, kindOf8 hV (hv (by omega))]
    have e : F_X4_kindOf i σ = τ 19 i.toNat := by
      unfold F_X4_kindOf
      rw [rdD_ok hi.1 hi.2, m3 i.toNat (by omega)]
    rw [e]
    by_cases g2 : τ 4 v.toNat = τ 19 i.toNat
    · rw [if_pos g2]
      exact ⟨fun _ => rfl, fun q => absurd ⟨fun z => absurd z g, fun _ => ⟨hv (by omega), g2⟩⟩ q⟩
    · rw [if_neg g2]
      exact ⟨fun q => absurd (q.2 (by omega)).2 g2, fun _ => rfl⟩
theorem rk_fl {σ τ : Sg} {a b c : Int} (hV : RV σ τ) (hM : RM σ τ) (hv : ∀ i, 0 ≤ i → i < τ 0 21 → vl τ (F_X10_pick i a b c)) : ((∀ i, 0 ≤ i → i < 3 → rFit τ a b c i) → iter (fun z : Int => L_X10_run_31 a b c (τ 0 21) σ z) 4 0 = some (.inl ())) ∧ ((¬ ∀ i, 0 ≤ i → i < 3 → rFit τ a b c i) → iter (fun z : Int => L_X10_run_31 a b c (τ 0 21) σ z) 4 0 = some (.inr (.inr 1, σ))) := by
  refine ⟨fun h => ?_, fun h => ?_⟩
  · refine for_ok (f := fun z : Int => L_X10_run_31 a b c (τ 0 21) σ z) (n := 3) ?_ 4 0 (by omega) (by omega) (fun j j1 j2 => (rk_st hV hM ⟨j1, j2⟩ (hv j j1)).1 (h j j1 j2))
    show L_X10_run_31 a b c (τ 0 21) σ 3 = _
    unfold L_X10_run_31
    rw [if_pos (by omega)]
  · exact for_no (f := fun z : Int => L_X10_run_31 a b c (τ 0 21) σ z) (n := 3) (P := fun i => rFit τ a b c i) 4 0 (by omega) (by omega) (fun j j1 j2 g => (rk_st hV hM ⟨j1, j2⟩ (hv j j1)).1 g) (fun j j1 j2 g => (rk_st hV hM ⟨j1, j2⟩ (hv j j1)).2 g) h
/-- the given values, as the reference keeps them -/
theorem given_m {τ : Sg} {a b c : Int} (hM : 0 ≤ τ 0 21 ∧ τ 0 21 ≤ 3) : ∃ s : Sg, (∀ e : Int, B_X11_run_221 e a b c 0 τ = if e < 2 then F_X11_runPlain s else F_X11_runTree s) ∧ (∀ r, ¬ r = 0 → ¬ r = 35 → s r = τ r) ∧ (∀ i, ¬ i = 0 → ¬ i = 47 → ¬ i = 48 → s 0 i = τ 0 i) ∧ s 0 0 = 0 ∧ s 0 47 = 0 ∧ s 0 48 = 0 ∧ (∀ k : Nat, (k : Int) < τ 0 21 → s 35 k = F_X10_pick k a b c) ∧ ∀ k : Nat, ¬ (k : Int) < τ 0 21 → s 35 k = τ 35 k := by
  obtain ⟨st, hst⟩ : ∃ st : Int → Sg, st = fun (j : Int) (r i : Nat) => if r = 35 ∧ (i : Int) < j then F_X10_pick i a b c else up2 τ 0 0 0 r i := ⟨_, rfl⟩
  have hst' : ∀ j r i, st j r i = if r = 35 ∧ (i : Int) < j then F_X10_pick i a b c else up2 τ 0 0 0 r i := fun j r i => by rw [hst]
  have hin : ∀ (j : Int) (r i : Nat), r = 35 ∧ (i : Int) < j → st j r i = F_X10_pick i a b c := fun j r i h => by rw [hst', if_pos h]
  have hout : ∀ (j : Int) (r i : Nat), ¬ (r = 35 ∧ (i : Int) < j) → st j r i = up2 τ 0 0 0 r i := fun j r i h => by rw [hst', if_neg h]
  have h21 : ∀ j, st j 0 21 = τ 0 21 := fun j => by rw [hout j 0 21 (by omega), up2_idx (by omega)]
  have h0 : st 0 = up2 τ 0 0 0 := by
    funext r i
    exact hout 0 r i (by omega)
  have hl : iter (fun z : (Int × Sg) => L_X11_run_232 a b c z.1 z.2) 3000 (0, st 0) = some (st (τ 0 21)) := by
    refine iter_up (f := fun z : (Int × Sg) => L_X11_run_232 a b c z.1 z.2) st (lo := 0) (n := τ 0 21) (fun j j1 j2 => ?_) ?_ 3000 0 (by omega) (by omega) (by omega)
    · show L_X11_run_232 a b c j (st j) = _
      unfold L_X11_run_232
      rw [h21 j, if_neg (by omega), wrn_ok (by omega) (by omega), Option.bind_some, wrap_id (by omega) (by omega)]
      congr 3
      funext r i
      by_cases g : r = 35 ∧ i = j.toNat
      · obtain ⟨rfl, rfl⟩ := g
        rw [up2_at rfl rfl, hin (j + 1) _ _ ⟨rfl, by omega⟩, qick, show ((j.toNat : Nat) : Int) = j by omega]
      · have e : up2 (st j) 35 j.toNat (F_X11_pick a b c j) r i = st j r i := by
          unfold up2
          rw [if_neg g]
        rw [e]
        by_cases g2 : r = 35 ∧ (i : Int) < j
        · rw [hin j r i g2, hin (j + 1) r i ⟨g2.1, by omega⟩]
        · rw [hout j r i g2, hout (j + 1) r i (by omega)]
    · show L_X11_run_232 a b c (τ 0 21) (st (τ 0 21)) = _
      unfold L_X11_run_232
      rw [h21, if_pos (Int.le_refl _)]
  refine ⟨up2 (up2 (st (τ 0 21)) 0 47 0) 0 48 0, fun e => ?_, fun r r0 r1 => ?_, fun i i0 i1 i2 => ?_, ?_, ?_, ?_, fun k hk => ?_, fun k hk => ?_⟩
  · unfold B_X11_run_221
    rw [refused_0, bnd_eq]
    dsimp only
    rw [if_neg (by decide), ← h0, hl, Option.bind_some, bnd_eq, bnd_eq, bind_eta, bind_eta]
  · funext i
    rw [up2_row r0, up2_row r0, hout _ r i (by omega), up2_row r0]
  · rw [up2_idx i2, up2_idx i1, hout _ 0 i (by omega), up2_idx i0]
  · rw [up2_idx (by omega), up2_idx (by omega), hout _ 0 0 (by omega), up2_at rfl rfl]
  · rw [up2_idx (by omega), up2_at rfl rfl]
  · rw [up2_at rfl rfl]
  · rw [up2_row (by omega), up2_row (by omega), hin _ 35 k ⟨rfl, hk⟩]
  · rw [up2_row (by omega), up2_row (by omega), hout _ 35 k (fun z => hk z.2), up2_row (by omega)]
