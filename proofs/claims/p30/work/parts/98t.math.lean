/-! the places that are needed, counted -/
def NI (s : Sg) (c : Nat) (f : Int → Nat) (D : Int → Prop) : Prop := ∃ K : Nat, s 0 67 = K ∧ (∀ i j : Nat, i < j → j < K → ¬ s 47 i = s 47 j) ∧ (∀ i : Nat, i < K → 1 ≤ s 47 i ∧ s 47 i ≤ 468) ∧ (∀ x, (∃ i : Nat, i < K ∧ s 47 i = x) ↔ (0 < f x ∨ D x)) ∧ ∀ i : Nat, i < K → (D (s 47 i) → s 48 i = f (s 47 i) + 1 ∧ s 49 i = c) ∧ (¬ D (s 47 i) → s 48 i = f (s 47 i) ∧ s 49 i < c)
theorem NI.iff {s : Sg} {c : Nat} {f : Int → Nat} {D D' : Int → Prop} (h : NI s c f D) (hD : ∀ x, D x ↔ D' x) : NI s c f D' := by
  have : D = D' := funext fun x => propext (hD x)
  rw [← this]; exact h
theorem NI.fr {s s' : Sg} {c : Nat} {f : Int → Nat} {D : Int → Prop} (h : NI s c f D) (h0 : s' 0 67 = s 0 67) (h7 : s' 47 = s 47) (h8 : s' 48 = s 48) (h9 : s' 49 = s 49) : NI s' c f D := by
  obtain ⟨K, a⟩ := h
  refine ⟨K, ?_⟩
  rw [h0, h7, h8, h9]
  exact a
theorem NI.len {s : Sg} {K : Nat} (h1 : ∀ i j : Nat, i < j → j < K → ¬ s 47 i = s 47 j) (h2 : ∀ i : Nat, i < K → 1 ≤ s 47 i ∧ s 47 i ≤ 468) : K ≤ 468 := by
  have := sub_len (l := (List.range K).map (fun i => (s 47 i))) (m := (List.range 468).map (fun i : Nat => (i : Int) + 1)) (by
    rw [List.nodup_iff_pairwise_ne, List.pairwise_map]
    have : List.Pairwise (fun a b => a < b ∧ b < K) (List.range K) := by
      rw [List.pairwise_iff_getElem]
      intro i j hi hj hij
      rw [List.length_range] at hi hj
      rw [List.getElem_range, List.getElem_range]
      exact ⟨hij, hj⟩
    exact this.imp (fun {a b} q => h1 a b q.1 q.2)) (by
    intro a ha
    rw [List.mem_map] at ha ⊢
    obtain ⟨i, hi, rfl⟩ := ha
    rw [List.mem_range] at hi
    have := h2 i hi
    exact ⟨(s 47 i - 1).toNat, List.mem_range.mpr (by omega), by omega⟩)
  rw [List.length_map, List.length_map, List.length_range, List.length_range] at this
  exact this
theorem need_l {s : Sg} {x : Int} {K : Nat} (h67 : s 0 67 = K) (hK : K ≤ 468) : ∀ k : Nat, k ≤ K → ∃ r : Int, Rch (fun a : (Int × Int) => L_X11_need_5 x s a.1 a.2) k (-1, 0) (r, (k : Int)) ∧ ((r = -1 ∧ ∀ i : Nat, i < k → ¬ s 47 i = x) ∨ ∃ i : Nat, i < k ∧ r = i ∧ s 47 i = x)
  | 0, _ => ⟨-1, Rch.nil, Or.inl ⟨rfl, fun i hi => by omega⟩⟩
  | k + 1, hk => by
    obtain ⟨r, r1, r2⟩ := need_l h67 hK k (by omega)
    have hstep : ∀ r' : Int, (r' = if s 47 k = x then (k : Int) else r) → L_X11_need_5 x s r (k : Int) = some (.inl (r', ((k + 1 : Nat) : Int))) := fun r' hr' => by
      unfold L_X11_need_5 B_X11_need_31
      rw [h67, if_neg (by omega), rdn_ok (by omega) (by omega), Option.bind_some, show ((k : Nat) : Int).toNat = k by omega, wrap_id (z := (k : Int) + 1) (by omega) (by omega), hr']
      by_cases c : s 47 k = x
      · rw [if_pos c, if_pos c]; rfl
      · rw [if_neg c, if_neg c]; rfl
    by_cases c : s 47 k = x
    · exact ⟨k, r1.snoc (f := fun a : (Int × Int) => L_X11_need_5 x s a.1 a.2) (hstep _ (by rw [if_pos c])), Or.inr ⟨k, by omega, rfl, c⟩⟩
    · refine ⟨r, r1.snoc (f := fun a : (Int × Int) => L_X11_need_5 x s a.1 a.2) (hstep _ (by rw [if_neg c])), ?_⟩
      rcases r2 with ⟨a, b⟩ | ⟨i, a, b, d⟩
      · refine Or.inl ⟨a, fun i hi => ?_⟩
        by_cases e : i = k
        · rw [e]; exact c
        · exact b i (by omega)
      · exact Or.inr ⟨i, by omega, b, d⟩
theorem need_79 {s : Sg} {c i : Nat} (hi : i < 512) : B_X11_need_79 c i s = some (up2 (up2 s 48 i (wrap (s 48 i + (if s 49 i = c then 0 else 1)))) 49 i c) := by
  unfold B_X11_need_79 B_X11_need_101
  rw [rdn_ok (by omega) (by omega), Option.bind_some, rdn_ok (by omega) (by omega), Option.bind_some, show ((i : Nat) : Int).toNat = i by omega]
  by_cases g : s 49 i = c
  · rw [if_pos g, if_pos g, wrn_ok (by omega) (by omega), Option.bind_some, wrn_ok (by omega) (by omega), Option.bind_some]; rfl
  · rw [if_neg g, if_neg g, wrn_ok (by omega) (by omega), Option.bind_some, wrn_ok (by omega) (by omega), Option.bind_some]; rfl
theorem need_c {s : Sg} {c : Nat} {x : Int} {f : Int → Nat} {D : Int → Prop} (hN : NI s c f D) (hx : 1 ≤ x ∧ x ≤ 468) (hf : ∀ y, f y ≤ 8) (hc : c < 8) : ∃ s', F_X11_need x c s = some s' ∧ NI s' c f (fun y => D y ∨ y = x) ∧ (∀ r, ¬ r = 0 → ¬ r = 47 → ¬ r = 48 → ¬ r = 49 → s' r = s r) ∧ ∀ i, ¬ i = 67 → s' 0 i = s 0 i := by
  obtain ⟨K, k1, k2, k3, k4, k5⟩ := hN
  have hK := NI.len k2 k3
  obtain ⟨r, r1, r2⟩ := need_l (x := x) k1 hK K (Nat.le_refl _)
  have hend := r1.fin (m := 3000) (z := r) (by
    show L_X11_need_5 x s r (K : Int) = _
    unfold L_X11_need_5; rw [k1, if_pos (by omega)]) (by omega)
  unfold F_X11_need
  rw [hend, Option.bind_some]
  clear hend r1
  rcases r2 with ⟨rfl, hno⟩ | ⟨i, hi, rfl, hix⟩
  · have hnx : ¬ (0 < f x ∨ D x) := fun z => by
      obtain ⟨i, i1, i2⟩ := (k4 x).mpr z
      exact hno i i1 i2
    have hf0 : f x = 0 := by
      have : ¬ 0 < f x := fun z => hnx (Or.inl z)
      omega
    rw [if_pos rfl, bnd_eq, k1, wrn_ok (by omega) (by omega), Option.bind_some, wrn_ok (by omega) (by omega), Option.bind_some, wrn_ok (by omega) (by omega), Option.bind_some, bnd_eq, show ((K : Nat) : Int).toNat = K by omega, need_79 (by omega)]
    refine ⟨_, rfl, ?_, fun r h0 h1 h2 h3 => ?_, fun i hi => ?_⟩
    · refine ⟨K + 1, ?_, ?_, ?_, ?_, ?_⟩
      · rw [up2_row (by omega), up2_row (by omega), up2_at rfl rfl, up2_row (by omega), up2_row (by omega), up2_row (by omega), k1, wrap_id (by omega) (by omega)]; rfl
      all_goals
        have e7 : ∀ (v w : Int) (i : Nat), (up2 (up2 (up2 (up2 (up2 (up2 s 47 K x) 48 K 0) 49 K (-1)) 0 67 v) 48 K w) 49 K c) 47 i = if i = K then x else s 47 i := fun v w i => by
          rw [up2_row (by omega), up2_row (by omega), up2_row (by omega), up2_row (by omega), up2_row (by omega)]
          by_cases g : i = K
          · rw [if_pos g, up2_at rfl g]
          · rw [if_neg g, up2_idx g]
      · intro i j hij hj
        rw [e7, e7]
        by_cases g : j = K
        · rw [if_pos g, if_neg (by omega)]; exact hno i (by omega)
        · rw [if_neg g, if_neg (by omega)]; exact k2 i j hij (by omega)
      · intro i hi
        rw [e7]
        by_cases g : i = K
        · rw [if_pos g]; exact hx
        · rw [if_neg g]; exact k3 i (by omega)
      · intro y
        constructor
        · rintro ⟨i, i1, i2⟩
          rw [e7] at i2
          by_cases g : i = K
          · rw [if_pos g] at i2; exact Or.inr (Or.inr i2.symm)
          · rw [if_neg g] at i2
            rcases (k4 y).mp ⟨i, by omega, i2⟩ with z | z
            · exact Or.inl z
            · exact Or.inr (Or.inl z)
        · intro z
          by_cases g : y = x
          · exact ⟨K, by omega, by rw [e7, if_pos rfl, g]⟩
          · have : 0 < f y ∨ D y := by
              rcases z with z | z | z
              · exact Or.inl z
              · exact Or.inr z
              · exact absurd z g
            obtain ⟨i, i1, i2⟩ := (k4 y).mpr this
            exact ⟨i, by omega, by rw [e7, if_neg (by omega)]; exact i2⟩
      · intro i hi
        rw [e7]
        by_cases g : i = K
        · rw [if_pos g]
          refine ⟨fun _ => ⟨?_, ?_⟩, fun z => absurd (Or.inr rfl) z⟩
          · rw [up2_row (by omega), up2_at rfl g, up2_row (by omega), up2_row (by omega), up2_at rfl rfl, up2_row (by omega), up2_at rfl rfl, hf0, if_neg (by omega)]; rfl
          · rw [up2_at rfl g]
        · rw [if_neg g]
          have hd : ¬ s 47 i = x := hno i (by omega)
          have o8 : ∀ v w : Int, (up2 (up2 (up2 (up2 (up2 (up2 s 47 K x) 48 K 0) 49 K (-1)) 0 67 v) 48 K w) 49 K c) 48 i = s 48 i := fun v w => by
            rw [up2_row (by omega), up2_idx g, up2_row (by omega), up2_row (by omega), up2_idx g, up2_row (by omega)]
          have o9 : ∀ v w : Int, (up2 (up2 (up2 (up2 (up2 (up2 s 47 K x) 48 K 0) 49 K (-1)) 0 67 v) 48 K w) 49 K c) 49 i = s 49 i := fun v w => by
            rw [up2_idx g, up2_row (by omega), up2_row (by omega), up2_idx g, up2_row (by omega), up2_row (by omega)]
          rw [o8, o9]
          obtain ⟨q1, q2⟩ := k5 i (by omega)
          exact ⟨fun z => q1 (by rcases z with z | z; exact z; exact absurd z hd), fun z => q2 (fun w => z (Or.inl w))⟩
    · funext j
      rw [up2_row (by omega), up2_row (by omega), up2_row (by omega), up2_row (by omega), up2_row (by omega), up2_row (by omega)]
    · rw [up2_row (by omega), up2_row (by omega), up2_idx (by omega), up2_row (by omega), up2_row (by omega), up2_row (by omega)]
  · rw [if_neg (by omega), need_79 (by omega)]
    obtain ⟨q1, q2⟩ := k5 i hi
    refine ⟨_, rfl, ?_, fun r h0 h1 h2 h3 => ?_, fun j hj => ?_⟩
    · have e7 : ∀ (w : Int) (j : Nat), (up2 (up2 s 48 i w) 49 i c) 47 j = s 47 j := fun w j => by
        rw [up2_row (by omega), up2_row (by omega)]
      refine ⟨K, by rw [up2_row (by omega), up2_row (by omega)]; exact k1, ?_, ?_, ?_, ?_⟩
      · intro a b hab hb
        rw [e7, e7]; exact k2 a b hab hb
      · intro a ha
        rw [e7]; exact k3 a ha
      · intro y
        constructor
        · rintro ⟨a, a1, a2⟩
          rw [e7] at a2
          rcases (k4 y).mp ⟨a, a1, a2⟩ with z | z
          · exact Or.inl z
          · exact Or.inr (Or.inl z)
        · intro z
          by_cases g : y = x
          · exact ⟨i, hi, by rw [e7, g]; exact hix⟩
          · have : 0 < f y ∨ D y := by
              rcases z with z | z | z
              · exact Or.inl z
              · exact Or.inr z
              · exact absurd z g
            obtain ⟨a, a1, a2⟩ := (k4 y).mpr this
            exact ⟨a, a1, by rw [e7]; exact a2⟩
      · intro a ha
        rw [e7]
        by_cases g : a = i
        · subst g
          have hfx := hf x
          rw [hix] at q1 q2 ⊢
          refine ⟨fun _ => ⟨?_, by rw [up2_at rfl rfl]⟩, fun z => absurd (Or.inr rfl) z⟩
          rw [up2_row (by omega), up2_at rfl rfl]
          by_cases dx : D x
          · obtain ⟨z1, z2⟩ := q1 dx
            rw [if_pos z2, z1, wrap_id (by omega) (by omega)]; omega
          · obtain ⟨z1, z2⟩ := q2 dx
            rw [if_neg (by omega), z1, wrap_id (by omega) (by omega)]
        · have hd : ¬ s 47 a = x := fun z => by
            rcases Nat.lt_or_gt_of_ne g with y | y
            · exact k2 a i y hi (by rw [z, hix])
            · exact k2 i a y ha (by rw [z, hix])
          have o8 : ∀ w : Int, (up2 (up2 s 48 i w) 49 i c) 48 a = s 48 a := fun w => by rw [up2_row (by omega), up2_idx g]
          have o9 : ∀ w : Int, (up2 (up2 s 48 i w) 49 i c) 49 a = s 49 a := fun w => by rw [up2_idx g, up2_row (by omega)]
          rw [o8, o9]
          obtain ⟨p1, p2⟩ := k5 a ha
          exact ⟨fun z => p1 (by rcases z with z | z; exact z; exact absurd z hd), fun z => p2 (fun w => z (Or.inl w))⟩
    · funext j
      rw [up2_row (by omega), up2_row (by omega)]
    · rw [up2_row (by omega), up2_row (by omega)]
