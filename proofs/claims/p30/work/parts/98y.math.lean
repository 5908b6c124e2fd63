theorem most_l {τ : Sg} {pf : Nat → Pth} {N n : Nat} (hP : WFP τ) (hF : WFK (τ 1) (τ 2) (τ 3)) (hM : WFM τ) (hWW : WFW τ) (hN : NodeAt τ pf N n) {s : Sg} {x : XS} (h : FrW τ s) (hx : Xo x s) (hI : NI s 0 (cntL τ (pf n) 0) (fun _ => False)) : ∀ c : Nat, (c : Int) ≤ τ 0 23 → ∃ x' s', Rch (fun a : (Int × Sg) => L_X11_mostNeeded_7 a.1 a.2) c (0, s) ((c : Int), s') ∧ FrW τ s' ∧ Xo x' s' ∧ x'.2 = x.2 ∧ NI s' c (cntL τ (pf n) c) (fun _ => False)
  | 0, _ => ⟨x, s, Rch.nil, h, hx, rfl, hI⟩
  | c + 1, hc => by
    obtain ⟨x1, s1, a1, a2, a3, a4, a5⟩ := most_l hP hF hM hWW hN h hx hI c (by omega)
    obtain ⟨x2, s2, b1, b2, b3, b4, b5⟩ := most_1 hP hF hM hWW hN a2 a3 (by omega) a5
    exact ⟨x2, s2, a1.snoc (f := fun a : (Int × Sg) => L_X11_mostNeeded_7 a.1 a.2) b1, b2, b3, by rw [b4, a4], b5⟩
theorem bestI_l {s : Sg} {K : Nat} (h67 : s 0 67 = K) (hK : K ≤ 468) (hpos : 0 < K) : ∀ k : Nat, k ≤ K → ∃ b : Nat, b < K ∧ Rch (fun a : (Int × Int) => L_X11_mostNeeded_47 s a.1 a.2) k (0, 0) ((b : Int), (k : Int)) ∧ ∀ i : Nat, i < k → s 48 i < s 48 b ∨ (s 48 i = s 48 b ∧ s 47 b ≤ s 47 i)
  | 0, _ => ⟨0, hpos, Rch.nil, fun i hi => by omega⟩
  | k + 1, hk => by
    obtain ⟨b, b1, b2, b3⟩ := bestI_l h67 hK hpos k (by omega)
    have hw : wrap ((k : Int) + 1) = ((k + 1 : Nat) : Int) := by rw [wrap_id (z := (k : Int) + 1) (by omega) (by omega)]; omega
    have yes : B_X11_mostNeeded_100 b k s = some (.inl ((k : Int), ((k + 1 : Nat) : Int))) := by
      unfold B_X11_mostNeeded_100 B_X11_mostNeeded_105 B_X11_mostNeeded_115
      rw [if_pos rfl, hw]
    have no : B_X11_mostNeeded_104 b k s = some (.inl ((b : Int), ((k + 1 : Nat) : Int))) := by
      unfold B_X11_mostNeeded_104 B_X11_mostNeeded_105 B_X11_mostNeeded_115
      rw [if_neg (by simp), hw]
    have hu : L_X11_mostNeeded_47 s b k = if s 48 b < s 48 k then B_X11_mostNeeded_100 b k s else if s 48 k = s 48 b then (if s 47 b ≤ s 47 k then B_X11_mostNeeded_104 b k s else B_X11_mostNeeded_100 b k s) else B_X11_mostNeeded_104 b k s := by
      unfold L_X11_mostNeeded_47
      rw [h67, if_neg (by omega), rdn_ok (by omega) (by omega), Option.bind_some, rdn_ok (by omega) (by omega), Option.bind_some, show ((k : Nat) : Int).toNat = k by omega, show ((b : Nat) : Int).toNat = b by omega, Option.bind_some, Option.bind_some, rdn_ok (by omega) (by omega), Option.bind_some, rdn_ok (by omega) (by omega), Option.bind_some, show ((k : Nat) : Int).toNat = k by omega, show ((b : Nat) : Int).toNat = b by omega]
    rw [yes, no] at hu
    have keep : (s 48 k < s 48 b ∨ (s 48 k = s 48 b ∧ s 47 b ≤ s 47 k)) → L_X11_mostNeeded_47 s b k = some (.inl ((b : Int), ((k + 1 : Nat) : Int))) → ∃ b' : Nat, b' < K ∧ Rch (fun a : (Int × Int) => L_X11_mostNeeded_47 s a.1 a.2) (k + 1) (0, 0) ((b' : Int), ((k + 1 : Nat) : Int)) ∧ ∀ i : Nat, i < k + 1 → s 48 i < s 48 b' ∨ (s 48 i = s 48 b' ∧ s 47 b' ≤ s 47 i) := fun q e => by
      refine ⟨b, b1, b2.snoc (f := fun a : (Int × Int) => L_X11_mostNeeded_47 s a.1 a.2) e, fun i hi => ?_⟩
      by_cases g : i = k
      · rw [g]; exact q
      · exact b3 i (by omega)
    have turn : (s 48 b < s 48 k ∨ (s 48 k = s 48 b ∧ s 47 k < s 47 b)) → L_X11_mostNeeded_47 s b k = some (.inl ((k : Int), ((k + 1 : Nat) : Int))) → ∃ b' : Nat, b' < K ∧ Rch (fun a : (Int × Int) => L_X11_mostNeeded_47 s a.1 a.2) (k + 1) (0, 0) ((b' : Int), ((k + 1 : Nat) : Int)) ∧ ∀ i : Nat, i < k + 1 → s 48 i < s 48 b' ∨ (s 48 i = s 48 b' ∧ s 47 b' ≤ s 47 i) := fun q e => by
      refine ⟨k, by omega, b2.snoc (f := fun a : (Int × Int) => L_X11_mostNeeded_47 s a.1 a.2) e, fun i hi => ?_⟩
      by_cases g : i = k
      · rw [g]; exact Or.inr ⟨rfl, Int.le_refl _⟩
      · rcases b3 i (by omega) with z | ⟨z, y⟩
        · rcases q with q | q
          · exact Or.inl (by omega)
          · exact Or.inl (by omega)
        · rcases q with q | q
          · exact Or.inl (by omega)
          · exact Or.inr ⟨by omega, by omega⟩
    by_cases c1 : s 48 b < s 48 k
    · rw [if_pos c1] at hu
      exact turn (Or.inl c1) hu
    · rw [if_neg c1] at hu
      by_cases c2 : s 48 k = s 48 b
      · rw [if_pos c2] at hu
        by_cases c3 : s 47 b ≤ s 47 k
        · rw [if_pos c3] at hu
          exact keep (Or.inr ⟨c2, c3⟩) hu
        · rw [if_neg c3] at hu
          exact turn (Or.inr ⟨c2, by omega⟩) hu
      · rw [if_neg c2] at hu
        exact keep (Or.inl (by omega)) hu
theorem mostNeeded_c {τ s : Sg} {pf : Nat → Pth} {N n : Nat} {x : XS} {x0 : Int} (hP : WFP τ) (hF : WFK (τ 1) (τ 2) (τ 3)) (hM : WFM τ) (hWW : WFW τ) (hN : NodeAt τ pf N n) (h : FrW τ s) (hx : Xo x s) (h0 : 0 < cnt τ (pf n) x0) : ∃ x' s', F_X11_mostNeeded s = some (best τ (pf n), s') ∧ FrW τ s' ∧ Xo x' s' ∧ x'.2 = x.2 := by
  have h8 := hM.2.1
  have h1 : FrW τ (up2 s 0 67 0) := ⟨fun r r1 r2 => by rw [← h.1 r r1 r2]; funext j; rw [up2_row (by omega)], fun r r1 r2 => by rw [← h.2.1 r r1 r2]; funext j; rw [up2_row (by omega)], by rw [← h.2.2.1]; funext j; rw [up2_row (by omega)], by rw [← h.2.2.2.1]; funext j; rw [up2_row (by omega)], fun i hi => by
    rw [← h.2.2.2.2 i hi, up2_idx (fun z => hi (by rw [z]; decide))]⟩
  have hx1 : Xo x (up2 s 0 67 0) := hx.fr (by funext j; rw [up2_row (by omega)]) (fun r r1 r2 => by funext j; rw [up2_row (by omega)]) (by rw [up2_idx (by omega)]) (by rw [up2_idx (by omega)])
  have hI : NI (up2 s 0 67 0) 0 (cntL τ (pf n) 0) (fun _ => False) := by
    refine ⟨0, by rw [up2_at rfl rfl]; rfl, fun i j _ hj => by omega, fun i hi => by omega, fun y => ⟨fun ⟨i, hi, _⟩ => by omega, fun z => ?_⟩, fun i hi => by omega⟩
    rcases z with z | z
    · have := cntL_le (τ := τ) (P := pf n) (c := 0) (x := y); omega
    · exact z.elim
  obtain ⟨x2, s2, a1, a2, a3, a4, K, k1, k2, k3, k4, k5⟩ := most_l hP hF hM hWW hN h1 hx1 hI (τ 0 23).toNat (by omega)
  have hK := NI.len k2 k3
  have hcnt : ∀ y, cntL τ (pf n) (τ 0 23).toNat y = cnt τ (pf n) y := fun y => rfl
  have hpos : 0 < K := by
    obtain ⟨i, i1, i2⟩ := (k4 x0).mpr (Or.inl h0)
    omega
  obtain ⟨b, b1, b2, b3⟩ := bestI_l k1 hK hpos K (Nat.le_refl _)
  have hbest : BestP τ (pf n) (s2 47 b) := by
    have hb := (k5 b b1).2 (fun z => z)
    have hpb : 0 < cnt τ (pf n) (s2 47 b) := by
      rcases (k4 (s2 47 b)).mp ⟨b, b1, rfl⟩ with z | z
      · exact z
      · exact z.elim
    refine ⟨hpb, fun y hy => ?_⟩
    obtain ⟨i, i1, i2⟩ := (k4 y).mpr (Or.inl hy)
    have hi := (k5 i i1).2 (fun z => z)
    have := b3 i i1
    rw [hb.1, hi.1, i2, hcnt, hcnt] at this
    omega
  refine ⟨x2, s2, ?_, a2, a3, a4⟩
  have f1 : L_X11_mostNeeded_7 ((τ 0 23).toNat : Int) s2 = some (.inr s2) := by
    unfold L_X11_mostNeeded_7
    rw [a2.2.2.2.2 23 (by decide), if_pos (by omega)]
  have r1 := a1.fin (m := 3000) f1 (by omega)
  have f2 : L_X11_mostNeeded_47 s2 b K = some (.inr (b : Int)) := by
    unfold L_X11_mostNeeded_47
    rw [k1, if_pos (by omega)]
  have r2 := b2.fin (m := 3000) (z := (b : Int)) f2 (by omega)
  unfold F_X11_mostNeeded
  rw [bnd_eq, r1, Option.bind_some, r2, Option.bind_some, rdn_ok (by omega) (by omega), Option.bind_some, show ((b : Nat) : Int).toNat = b by omega, best_eq hbest]
