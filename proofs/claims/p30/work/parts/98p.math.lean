/-! ways in a tree are well put together -/
theorem qry_c {τ : Sg} {m : Bool} {q : Ask × Nat} {P : Pth} : qry τ m (q :: P) = if q.1.1 = 5 ∧ q.2 = 0 then (0, q.1.2.1, 0) else if q.1.1 = 5 ∧ τ 22 q.1.2.1.toNat = 3 then (1, q.1.2.1, 0) else seekM τ m (q :: P) := rfl
theorem ndC_ok {τ : Sg} {P : Pth} {c : Nat} (hW : WFP τ) (hF : WFK (τ 1) (τ 2) (τ 3)) (hM : WFM τ) (hH : HOK τ (hk P)) (hc : (c : Int) < τ 0 23) : ∀ x ∈ ndC τ P c, (1 ≤ x ∧ x ≤ 468) ∧ 0 ≤ kd τ (hk P) x ∧ hk P x = -9 := by
  intro x hx
  obtain ⟨q, hq, hqx⟩ := List.mem_flatMap.mp hx
  have hok := cols_ok (H := hk P) hM hc q hq
  obtain ⟨k, k3, k1, q1, q2⟩ := colsL_mem hq
  have := hW.ge hok.1
  exact nd_ok hW hF hH 60 q.1 q.2 hok (by omega) (by omega) x hqx
theorem cnt_pos {τ : Sg} {P : Pth} {x : Int} : 0 < cnt τ P x ↔ ∃ c : Nat, (c : Int) < τ 0 23 ∧ cted τ P c = true ∧ x ∈ ndC τ P c := by
  unfold cnt
  constructor
  · intro h
    obtain ⟨c, hc⟩ := List.exists_mem_of_length_pos h
    rw [List.mem_filter, List.mem_range] at hc
    obtain ⟨h1, h2⟩ := hc
    simp only [Bool.and_eq_true, decide_eq_true_eq] at h2
    exact ⟨c, by omega, h2.1, h2.2⟩
  · rintro ⟨c, h1, h2, h3⟩
    refine List.length_pos_of_mem (a := c) ?_
    rw [List.mem_filter, List.mem_range]
    exact ⟨by omega, by simp [h2, h3]⟩
theorem max_ex (f : Int → Nat) : ∀ (L : List Int) (x0 : Int), x0 ∈ L → 0 < f x0 → ∃ x, x ∈ L ∧ 0 < f x ∧ ∀ y ∈ L, 0 < f y → f y < f x ∨ (f y = f x ∧ x ≤ y)
  | [], x0, h, _ => by cases h
  | a :: L, x0, h, hp => by
    by_cases hL : ∃ z ∈ L, 0 < f z
    · obtain ⟨z, z1, z2⟩ := hL
      obtain ⟨x, x1, x2, x3⟩ := max_ex f L z z1 z2
      by_cases c : 0 < f a ∧ ¬ (f a < f x ∨ (f a = f x ∧ x ≤ a))
      · refine ⟨a, List.mem_cons_self, c.1, fun y hy hy0 => ?_⟩
        rcases List.mem_cons.mp hy with rfl | hy
        · exact Or.inr ⟨rfl, Int.le_refl _⟩
        · have := x3 y hy hy0
          have := c.2
          omega
      · refine ⟨x, List.mem_cons_of_mem _ x1, x2, fun y hy hy0 => ?_⟩
        rcases List.mem_cons.mp hy with rfl | hy
        · exact Classical.byContradiction fun z => c ⟨hy0, z⟩
        · exact x3 y hy hy0
    · have hxa : x0 = a := by
        rcases List.mem_cons.mp h with z | z
        · exact z
        · exact absurd ⟨x0, z, hp⟩ hL
      refine ⟨a, List.mem_cons_self, by rw [← hxa]; exact hp, fun y hy hy0 => ?_⟩
      rcases List.mem_cons.mp hy with rfl | hy
      · exact Or.inr ⟨rfl, Int.le_refl _⟩
      · exact absurd ⟨y, hy, hy0⟩ hL
theorem best_ex {τ : Sg} {P : Pth} (hW : WFP τ) (hF : WFK (τ 1) (τ 2) (τ 3)) (hM : WFM τ) (hH : HOK τ (hk P)) {x0 : Int} (h : 0 < cnt τ P x0) : BestP τ P (best τ P) := by
  have rng : ∀ y, 0 < cnt τ P y → y ∈ (List.range 469).map (fun n : Nat => (n : Int)) := fun y hy => by
    obtain ⟨c, c1, c2, c3⟩ := cnt_pos.mp hy
    have := (ndC_ok hW hF hM hH c1 y c3).1
    rw [List.mem_map]
    exact ⟨y.toNat, List.mem_range.mpr (by omega), by omega⟩
  obtain ⟨x, x1, x2, x3⟩ := max_ex (cnt τ P) _ x0 (rng x0 h) h
  exact Classical.epsilon_spec (p := BestP τ P) ⟨x, x2, fun y hy => x3 y (rng y hy) hy⟩
theorem best_ok {τ : Sg} {P : Pth} (hW : WFP τ) (hF : WFK (τ 1) (τ 2) (τ 3)) (hM : WFM τ) (hH : HOK τ (hk P)) {x0 : Int} (h : 0 < cnt τ P x0) : (1 ≤ best τ P ∧ best τ P ≤ 468) ∧ 0 ≤ kd τ (hk P) (best τ P) ∧ hk P (best τ P) = -9 := by
  have hb := best_ex hW hF hM hH h
  obtain ⟨c, c1, c2, c3⟩ := cnt_pos.mp hb.1
  exact ndC_ok hW hF hM hH c1 _ c3
theorem seek_or {τ : Sg} {P : Pth} {m : Nat} : ∀ (d c : Nat), c + d = m → seekS τ P d c = (2, 0, 0) ∨ (∃ c' : Nat, c' < m ∧ fk P c' = false ∧ (tryK τ P c').1 = .inl true ∧ seekS τ P d c = if τ 22 c' = -1 then (0, (c' : Int), 0) else (5, (c' : Int), 0)) ∨ (∃ c' : Nat, c' < m ∧ fk P c' = false ∧ (tryK τ P c').1 = .inr (seekS τ P d c))
  | 0, c, _ => Or.inl rfl
  | d + 1, c, h => by
    have ih := seek_or (τ := τ) (P := P) (m := m) d (c + 1) (by omega)
    unfold seekS
    by_cases g : fk P c = true
    · rw [if_pos g]; exact ih
    · rw [if_neg g]
      have g' : fk P c = false := by simpa using g
      cases ht : (tryK τ P c).1 with
      | inl b =>
        cases b with
        | true => exact Or.inr (Or.inl ⟨c, by omega, g', ht, rfl⟩)
        | false => exact ih
      | inr a => exact Or.inr (Or.inr ⟨c, by omega, g', ht⟩)
/-- what a node may ask -/
def QOK (τ : Sg) (P : Pth) (a : Ask) : Prop :=
  AskOK τ P a ∨ (a.1 = 5 ∧ a.2.2 = 0 ∧ (0 ≤ a.2.1 ∧ a.2.1 < τ 0 23) ∧ fk P a.2.1.toNat = false ∧ ¬ τ 22 a.2.1.toNat = -1 ∧ (tryK τ P a.2.1.toNat).1 = .inl true) ∨ (a = (2, 0, 0)) ∨ ((a.1 = 0 ∨ a.1 = 1) ∧ a.2.2 = 0 ∧ 0 ≤ a.2.1 ∧ a.2.1 < τ 0 23 ∧ (tryK τ P a.2.1.toNat).1 = .inl true)
theorem seekM_ok {τ : Sg} {m : Bool} {P : Pth} (hW : WFP τ) (hF : WFK (τ 1) (τ 2) (τ 3)) (hM : WFM τ) (hH : HOK τ (hk P)) (hV : VOK P) : QOK τ P (seekM τ m P) := by
  have h8 := hM.2.1
  have hs := seek_or (τ := τ) (P := P) (m := (τ 0 23).toNat) (τ 0 23).toNat 0 (by omega)
  have base : QOK τ P (seekS τ P (τ 0 23).toNat 0) := by
    rcases hs with h | ⟨c, c1, c2, c3, c4⟩ | ⟨c, c1, c2, c3⟩
    · rw [h]; exact Or.inr (Or.inr (Or.inl rfl))
    · rw [c4]
      by_cases g : τ 22 c = -1
      · rw [if_pos g]
        exact Or.inr (Or.inr (Or.inr ⟨Or.inl rfl, rfl, by show (0 : Int) ≤ c; omega, by show (c : Int) < _; omega, by show (tryK τ P ((c : Int)).toNat).1 = _; rw [show ((c : Int)).toNat = c by omega]; exact c3⟩))
      · rw [if_neg g]
        have e : ((c : Int)).toNat = c := by omega
        refine Or.inr (Or.inl ⟨rfl, rfl, ⟨by show (0 : Int) ≤ c; omega, by show (c : Int) < _; omega⟩, ?_, ?_, ?_⟩)
        · show fk P ((c : Int)).toNat = _; rw [e]; exact c2
        · show ¬ τ 22 ((c : Int)).toNat = _; rw [e]; exact g
        · show (tryK τ P ((c : Int)).toNat).1 = _; rw [e]; exact c3
    · exact Or.inl (try_ask hW hF hM hH hV (by omega) c3)
  unfold seekM
  by_cases g : m = true ∧ (seekS τ P (τ 0 23).toNat 0).1 = 3
  · rw [if_pos g]
    have hpos : ∃ x0, 0 < cnt τ P x0 := by
      rcases hs with h | ⟨c, c1, c2, c3, c4⟩ | ⟨c, c1, c2, c3⟩
      · rw [h] at g; exact absurd g.2 (by decide)
      · rw [c4] at g
        split at g
        · exact absurd g.2 (by show ¬ (0 : Int) = 3; decide)
        · exact absurd g.2 (by show ¬ (5 : Int) = 3; decide)
      · generalize seekS τ P (τ 0 23).toNat 0 = a at *
        obtain ⟨a1, pl, k⟩ := a
        have ha : a1 = 3 := g.2
        subst ha
        refine ⟨pl, cnt_pos.mpr ⟨c, by omega, ?_, ?_⟩⟩
        · unfold cted; rw [c2, c3]; rfl
        · refine seq_nd (τ := τ) (P := P) (fun q hq x hx => ?_) c3
          have hok := cols_ok (H := hk P) hM (by omega) q hq
          have := hW.ge hok.1
          exact mt_nd hW hF hH hV 60 q.1 q.2 x hok (by omega) hx
    obtain ⟨x0, hx0⟩ := hpos
    obtain ⟨b1, b2, b3⟩ := best_ok hW hF hM hH hx0
    exact Or.inl (Or.inl ⟨rfl, b1, b2, b3, rfl⟩)
  · rw [if_neg g]; exact base
/-- along a way: what was asked stays answered, a guard that failed matched -/
theorem AP.kp {τ : Sg} {m : Bool} (hW : WFP τ) (hF : WFK (τ 1) (τ 2) (τ 3)) (hM : WFM τ) (hWW : WFW τ) : ∀ {P : Pth}, AP τ m P → KP τ P
  | [], _ => trivial
  | q :: P, h => by
    obtain ⟨h1, h2, h3⟩ := h
    have ih := AP.kp hW hF hM hWW h1
    have leaf : ∀ a : Ask, (a.1 = 0 ∨ a.1 = 1 ∨ a.1 = 2) → wid τ a = 0 := fun a ha => by
      unfold wid
      rw [if_neg (by omega), if_neg (by omega), if_neg (by omega)]; rfl
    refine ⟨ih, h3, ?_⟩
    have hq : QOK τ P q.1 := by
      have hM' := seekM_ok (m := m) hW hF hM (ih.hok hF hM) (ih.vok hWW)
      cases P with
      | nil => rw [h2]; exact hM'
      | cons z P =>
        by_cases c1 : z.1.1 = 5 ∧ z.2 = 0
        · exfalso
          have : q.1 = (0, z.1.2.1, 0) := by rw [h2, qry_c, if_pos c1]
          have := leaf q.1 (Or.inl (by rw [this]))
          omega
        · by_cases c2 : z.1.1 = 5 ∧ τ 22 z.1.2.1.toNat = 3
          · exfalso
            have : q.1 = (1, z.1.2.1, 0) := by rw [h2, qry_c, if_neg c1, if_pos c2]
            have := leaf q.1 (Or.inr (Or.inl (by rw [this])))
            omega
          · have : q.1 = seekM τ m (z :: P) := by rw [h2, qry_c, if_neg c1, if_neg c2]
            rw [this]; exact hM'
    rcases hq with g | g | g | g
    · exact Or.inl g
    · exact Or.inr ⟨g.1, g.2.2.1, g.2.2.2.1, g.2.2.2.2.1⟩
    · have := leaf q.1 (Or.inr (Or.inr (by rw [g]))); omega
    · have := leaf q.1 (by rcases g.1 with z | z; exact Or.inl z; exact Or.inr (Or.inl z)); omega
/-- the sort of an ask, its place or case, and its kind or view are small -/
theorem qry_b {τ : Sg} {m : Bool} {P : Pth} (hW : WFP τ) (hF : WFK (τ 1) (τ 2) (τ 3)) (hM : WFM τ) (hWW : WFW τ) (h : AP τ m P) : (0 ≤ (qry τ m P).1 ∧ (qry τ m P).1 ≤ 5) ∧ (0 ≤ (qry τ m P).2.1 ∧ (qry τ m P).2.1 ≤ 468) ∧ (0 ≤ (qry τ m P).2.2 ∧ (qry τ m P).2.2 ≤ 5) ∧ wid τ (qry τ m P) ≤ 10 ∧ ((qry τ m P).1 = 5 ∨ (qry τ m P).1 = 0 ∨ (qry τ m P).1 = 1 → (qry τ m P).2.1 < τ 0 23 ∧ (qry τ m P).2.2 = 0) ∧ ((qry τ m P).1 = 2 → qry τ m P = (2, 0, 0)) ∧ ((qry τ m P).1 = 4 → (qry τ m P).2.2 ≤ 2) := by
  have hkp := h.kp hW hF hM hWW
  have h8 := hM.2.1
  have hH := hkp.hok hF hM
  have gen : ∀ a : Ask, QOK τ P a → (0 ≤ a.1 ∧ a.1 ≤ 5) ∧ (0 ≤ a.2.1 ∧ a.2.1 ≤ 468) ∧ (0 ≤ a.2.2 ∧ a.2.2 ≤ 5) ∧ wid τ a ≤ 10 ∧ (a.1 = 5 ∨ a.1 = 0 ∨ a.1 = 1 → a.2.1 < τ 0 23 ∧ a.2.2 = 0) ∧ (a.1 = 2 → a = (2, 0, 0)) ∧ (a.1 = 4 → a.2.2 ≤ 2) := by
    intro a ha
    rcases ha with (g | g) | g | g | g
    · obtain ⟨g1, g2, g3, g4, g5⟩ := g
      -- a kind is at most 5
      have hk5 : kd τ (hk P) a.2.1 ≤ 5 := by
        by_cases z : a.2.1 ≤ 3
        · unfold kd kdF
          rw [if_pos z]
          split
          · have := hM.2.2.1 (a.2.1 - 1).toNat (by omega); omega
          · omega
        · obtain ⟨b, i, hb, hi, e, hkb⟩ := kd_par z g3
          rw [e, kd_in hb hi]
          unfold kdG
          split
          · split <;> omega
          · split
            · split
              · rename_i c3 cc
                obtain ⟨z1, z2, z3⟩ := hF.2 (kd τ (hk P) b).toNat (hk P b).toNat (by omega) (by omega)
                have := z3 i.toNat (by rw [show 4 * (kd τ (hk P) b).toNat + (hk P b).toNat = (4 * kd τ (hk P) b + hk P b).toNat by omega]; omega)
                rw [show (3 * (4 * kd τ (hk P) b + hk P b) + i).toNat = 3 * (4 * (kd τ (hk P) b).toNat + (hk P b).toNat) + i.toNat by omega]
                omega
              · omega
            · omega
      refine ⟨by omega, by omega, by omega, ?_, fun z => by omega, fun z => by omega, fun z => by omega⟩
      unfold wid hds
      rw [if_pos g1]
      split
      · omega
      · split
        · omega
        · have := hF.1 a.2.2.toNat (by omega); omega
    · obtain ⟨g1, g2, g3, g4, g5⟩ := g
      refine ⟨by omega, by omega, by omega, ?_, fun z => by omega, fun z => by omega, fun z => g4.2⟩
      unfold wid
      rw [if_neg (by omega), if_pos g1]
      have := hWW a.2.2.toNat (by omega)
      rw [show (4 * a.2.2 + 3).toNat = 4 * a.2.2.toNat + 3 by omega]
      omega
    · obtain ⟨g1, g2, g3, -⟩ := g
      refine ⟨by omega, by omega, by omega, ?_, fun z => ⟨by omega, g2⟩, fun z => by omega, fun z => by omega⟩
      unfold wid
      rw [if_neg (by omega), if_neg (by omega), if_pos g1]; decide
    · rw [g]
      refine ⟨by decide, by decide, by decide, ?_, fun z => ?_, fun _ => rfl, fun z => absurd z (by decide)⟩
      · unfold wid
        rw [if_neg (by decide), if_neg (by decide), if_neg (by decide)]; decide
      · exact absurd z (by decide)
    · obtain ⟨g1, g2, g3, g4, -⟩ := g
      refine ⟨by omega, by omega, by omega, ?_, fun z => ⟨g4, g2⟩, fun z => by omega, fun z => by omega⟩
      unfold wid
      rw [if_neg (by omega), if_neg (by omega), if_neg (by omega)]; decide
  have hM' := gen _ (seekM_ok (m := m) hW hF hM hH (hkp.vok hWW))
  have leafc : ∀ (P : Pth) (z : Ask × Nat), KP τ (z :: P) → z.1.1 = 5 → (0 ≤ z.1.2.1 ∧ z.1.2.1 < τ 0 23) := fun P z hz h5 => by
    rcases hz.2.2 with (g | g) | g
    · omega
    · omega
    · exact g.2.1
  cases P with
  | nil => exact hM'
  | cons z P =>
    rw [qry_c]
    by_cases c1 : z.1.1 = 5 ∧ z.2 = 0
    · have hz := leafc P z hkp c1.1
      rw [if_pos c1]
      refine ⟨by show (0 : Int) ≤ 0 ∧ (0 : Int) ≤ 5; omega, by show 0 ≤ z.1.2.1 ∧ z.1.2.1 ≤ 468; omega, by show (0 : Int) ≤ 0 ∧ (0 : Int) ≤ 5; omega, ?_, fun _ => ⟨hz.2, rfl⟩, fun q => absurd q (by show ¬ (0 : Int) = 2; omega), fun q => absurd q (by show ¬ (0 : Int) = 4; omega)⟩
      unfold wid
      rw [if_neg (by show ¬ (0 : Int) = 3; omega), if_neg (by show ¬ (0 : Int) = 4; omega), if_neg (by show ¬ (0 : Int) = 5; omega)]; decide
    · rw [if_neg c1]
      by_cases c2 : z.1.1 = 5 ∧ τ 22 z.1.2.1.toNat = 3
      · have hz := leafc P z hkp c2.1
        rw [if_pos c2]
        refine ⟨by show (0 : Int) ≤ 1 ∧ (1 : Int) ≤ 5; omega, by show 0 ≤ z.1.2.1 ∧ z.1.2.1 ≤ 468; omega, by show (0 : Int) ≤ 0 ∧ (0 : Int) ≤ 5; omega, ?_, fun _ => ⟨hz.2, rfl⟩, fun q => absurd q (by show ¬ (1 : Int) = 2; omega), fun q => absurd q (by show ¬ (1 : Int) = 4; omega)⟩
        unfold wid
        rw [if_neg (by show ¬ (1 : Int) = 3; omega), if_neg (by show ¬ (1 : Int) = 4; omega), if_neg (by show ¬ (1 : Int) = 5; omega)]; decide
      · rw [if_neg c2]; exact hM'
