/-! a run: its start, its trees, its end -/
theorem start_k {σ sg : Sg} {a b c : Int} (hM : 0 ≤ sg 0 21 ∧ sg 0 21 ≤ 3) (h19 : ∀ k : Nat, (k : Int) < sg 0 21 → 0 ≤ sg 19 k) (hp : ∀ k : Nat, (k : Int) < sg 0 21 → sg 35 k = F_X10_pick k a b c ∧ 0 ≤ sg 35 k) : CR (F_X1_start a b c σ) ((fun _ => -1), 0, []) (F_X1_start a b c σ) ∧ FC sg (F_X1_start a b c σ) ∧ ∀ r, r ∉ [27, 28, 29, 31] → F_X1_start a b c σ r = σ r := by
  have e : F_X1_start a b c σ = up2 (up2 (up2 (fillF (fillF (up2 (up2 σ 27 3 0) 27 4 0) 31 6 (-1)) 29 469 0) 28 1 a) 28 2 b) 28 3 c := by
    unfold F_X1_start F_X1_clear F_X1_unbind
    simp only [bnd_eq]
    rw [wrD_ok (by omega) (by omega), wrD_ok (by omega) (by omega), wrD_ok (by omega) (by omega)]
    rfl
  rw [e]
  refine ⟨⟨⟨fun _ _ => rfl, fun _ _ => rfl⟩, fun i hi => ?_, ?_, ?_, trivial, fun pl p1 p2 => ?_⟩, fun k hk => ?_, fun r hr => ?_⟩
  · rw [up2_row (by omega), up2_row (by omega), up2_row (by omega)]
    unfold fillF
    rw [if_neg (by omega), if_pos ⟨rfl, hi⟩]
  · rw [up2_row (by omega), up2_row (by omega), up2_row (by omega)]
    unfold fillF
    rw [if_neg (by omega), if_neg (by omega), up2_idx (by omega), up2_at rfl rfl]
  · rw [up2_row (by omega), up2_row (by omega), up2_row (by omega)]
    unfold fillF
    rw [if_neg (by omega), if_neg (by omega), up2_at rfl rfl]
    rfl
  · rw [up2_row (by omega), up2_row (by omega), up2_row (by omega)]
    have z : fillF (fillF (up2 (up2 σ 27 3 0) 27 4 0) 31 6 (-1)) 29 469 0 29 pl = 0 := by
      unfold fillF
      rw [if_pos ⟨rfl, by omega⟩]
    rw [z]
    refine ⟨by omega, fun v v1 v2 => ?_⟩
    have u : un9 (lkR [] v pl) = -1 := rfl
    rw [show lkR (((fun _ => -1), 0, []) : XS).2.2 v pl = lkR [] v pl from rfl, u]
    unfold nib
    rw [Int.zero_ediv]
    rfl
  · obtain ⟨q1, q2⟩ := hp k hk
    refine ⟨⟨by omega, by omega, ?_⟩, ?_⟩
    · rw [kd_col ⟨by omega, by omega⟩ (by omega), show ((k : Int) + 1 - 1).toNat = k by omega]
      exact h19 k hk
    · unfold Fk
      rw [va_col (by omega), show ((k : Int) + 1 - 1).toNat = k by omega, show ((k : Int) + 1).toNat = k + 1 by omega]
      unfold cvv
      rw [if_neg (by omega), q1]
      have hk3 : k = 0 ∨ k = 1 ∨ k = 2 := by omega
      rcases hk3 with rfl | rfl | rfl
      · rw [up2_idx (by omega), up2_idx (by omega), up2_at rfl rfl]; rfl
      · rw [up2_idx (by omega), up2_at rfl rfl]; rfl
      · rw [up2_at rfl rfl]; rfl
  · simp only [List.mem_cons, List.not_mem_nil, or_false, not_or] at hr
    funext i
    rw [up2_row (by omega), up2_row (by omega), up2_row (by omega)]
    unfold fillF
    rw [if_neg (by omega), if_neg (by omega), up2_row (by omega), up2_row (by omega)]
/-- what the reference keeps of the course, told as a list -/
def mkR (s : Sg) : Nat → List (Int × Int × Int)
  | 0 => []
  | n + 1 => (s 36 n, s 37 n, s 38 n) :: mkR s n
theorem mkR_len {s : Sg} : ∀ n : Nat, (mkR s n).length = n
  | 0 => rfl
  | n + 1 => by
    show (mkR s n).length + 1 = n + 1
    rw [mkR_len n]
theorem mkR_rnl {s : Sg} : ∀ n : Nat, rnl s (mkR s n)
  | 0 => trivial
  | n + 1 => by
    show s 36 (mkR s n).length = s 36 n ∧ s 37 (mkR s n).length = s 37 n ∧ s 38 (mkR s n).length = s 38 n ∧ rnl s (mkR s n)
    rw [mkR_len n]
    exact ⟨rfl, rfl, rfl, mkR_rnl n⟩
theorem rnl_at {s s' : Sg} : ∀ {R : List (Int × Int × Int)} {i : Nat}, rnl s R → rnl s' R → i < R.length → s' 36 i = s 36 i ∧ s' 37 i = s 37 i ∧ s' 38 i = s 38 i
  | [], i, _, _, h => absurd h (Nat.not_lt_zero i)
  | e :: R, i, h1, h2, h => by
    rw [List.length_cons] at h
    by_cases g : i = R.length
    · rw [g]
      exact ⟨h2.1.trans h1.1.symm, h2.2.1.trans h1.2.1.symm, h2.2.2.1.trans h1.2.2.1.symm⟩
    · exact rnl_at h1.2.2.2 h2.2.2.2 (by omega)
theorem xo_ex {s : Sg} (h48 : 0 ≤ s 0 48) (h47 : inR (s 0 47)) : ∃ x, Xo x s := ⟨(s 33, s 0 47, mkR s (s 0 48).toNat), fun _ _ => rfl, rfl, h47, by
  show s 0 48 = ((mkR s (s 0 48).toNat).length : Int)
  rw [mkR_len]
  omega, mkR_rnl _⟩
/-- a tree grows: the relation stays -/
theorem w_grow {σ τ : Sg} {t : Nat} {m : Bool} (h : RelW σ τ) (ht : (t = 43 ∧ m = false) ∨ (t = 49 ∧ m = true)) : ∃ σ', F_X7_grow t σ = some (decide (σ' t 3 = 0), σ') ∧ RelW σ' τ ∧ FrG t σ σ' ∧ 0 < σ' t 4 ∧ CTree τ σ' t m ∧ (σ' t 6 = -1 ∨ ∃ K : Nat, σ' t 6 = K ∧ ShOK τ m K) := by
  obtain ⟨hW, hF, hM, hV, hWW⟩ := h.wf
  obtain ⟨⟨k1, k2, k3, k4, k5, k6⟩, z, e1, e2, e3, e4⟩ := h
  have hec : EC τ σ t m := by
    rcases ht with ⟨rfl, rfl⟩ | ⟨rfl, rfl⟩
    · exact e1
    · exact e2
  have ht43 : 43 ≤ t := by omega
  obtain ⟨σ', g1, g2, g3, g4, g5, g6, g7⟩ := grow_c ⟨k1, k3, k4, k5⟩ ht43 z hec.1 (by
    rcases hec.2 with q | ⟨q, q2, -⟩
    · exact Or.inl q
    · exact Or.inr ⟨q, q2⟩)
  have hk6 : σ' t 6 = -1 ∨ ∃ K : Nat, σ' t 6 = K ∧ ShOK τ m K := by
    rcases g7 with rfl | g7
    · rcases hec.2 with q | ⟨-, -, q⟩
      · omega
      · exact q
    · exact Or.inl g7
  have hec' : EC τ σ' t m := ⟨g4, Or.inr ⟨g5, g6, hk6⟩⟩
  have hr : ∀ r, r ≤ 36 → σ' r = σ r := fun r hr => g2 r (by omega) (by omega)
  have hK : ExtK τ τ := ExtK.same (fun _ _ _ => rfl)
  have eq : EqP τ τ := EqP.same (fun _ _ _ => rfl) rfl rfl
  refine ⟨σ', g1, ⟨⟨k1.cong (fun r _ _ => hr r (by omega)) (fun _ _ _ => rfl), k2.cong hF hK (fun r _ _ => hr r (by omega)) (fun _ _ _ => rfl) rfl, k3.cong hF hK (fun r _ _ => hr r (by omega)) (fun _ _ _ => rfl) rfl, k4.cong (hr 23 (by omega)) rfl, k5.mono hW hK (ExtP.cong (fun _ _ _ => rfl) rfl) (fun r r1 r2 => hr r (by omega)) (fun _ _ _ => rfl) rfl rfl, k6.cong (hr 27 (by omega)) (hr 30 (by omega)) (hr 31 (by omega)) (fun _ _ _ => rfl) rfl rfl rfl⟩, g3, ?_, ?_, ?_, e4⟩, g2, g5, g6, hk6⟩
  · rcases ht with ⟨rfl, rfl⟩ | ⟨rfl, rfl⟩
    · exact hec'
    · exact e1.keep eq hW hM (fun r r1 r2 => g2 r (by omega) (by omega))
  · rcases ht with ⟨rfl, rfl⟩ | ⟨rfl, rfl⟩
    · exact e2.keep eq hW hM (fun r r1 r2 => g2 r (by omega) (by omega))
    · exact hec'
  · rcases e3 with e3 | e3
    · exact Or.inl (by rw [hr 33 (by omega)]; exact e3)
    · exact Or.inr (e3.keep eq hW hF hM (by rw [hr 33 (by omega)]) (hr 34 (by omega)) (hr 35 (by omega)))
/-- the reference builds: the relation stays -/
theorem w_build {σ τ : Sg} {e : Int} {m : Bool} (h : RelW σ τ) (ht : inRt τ) (he : e = if m = true then 3 else 2) : ∃ s', F_X11_build e τ = some s' ∧ RelW σ s' ∧ RTree s' m ∧ (∀ r, 1 ≤ r → r ≤ 25 → s' r = τ r) ∧ s' 35 = τ 35 ∧ ∀ i, i ∉ [34, 38, 40, 41, 42, 43, 44, 47, 48, 54, 55, 56, 67] → s' 0 i = τ 0 i := by
  obtain ⟨hW, hF, hM, hV, hWW⟩ := h.wf
  by_cases g : τ 0 54 = e
  · refine ⟨τ, ?_, h, ?_, fun _ _ _ => rfl, rfl, fun _ _ => rfl⟩
    · unfold F_X11_build
      rw [if_pos g]
    · obtain ⟨-, -, -, -, -, e4⟩ := h
      cases m with
      | false =>
        rcases e4 with q | ⟨q, q2⟩ | ⟨q, q2⟩
        · rw [if_neg (by decide)] at he; omega
        · exact q2
        · rw [if_neg (by decide)] at he; omega
      | true =>
        rcases e4 with q | ⟨q, q2⟩ | ⟨q, q2⟩
        · rw [if_pos rfl] at he; omega
        · rw [if_pos rfl] at he; omega
        · exact q2
  · obtain ⟨⟨k1, k2, k3, k4, k5, k6⟩, z, e1, e2, e3, e4⟩ := h
    obtain ⟨x, hx⟩ := xo_ex (s := τ) k6.2.2.1.1 ht.1
    obtain ⟨s', x', b1, b2, b3, b4, b5, b6⟩ := build_c hW hF hM hWW he hx g
    have hr : ∀ r, 1 ≤ r → r ≤ 25 → s' r = τ r := b2.1
    have h0 : ∀ i, i ∉ [34, 38, 40, 41, 42, 43, 44, 47, 48, 54, 55, 56, 67] → s' 0 i = τ 0 i := b2.2.2.2.2
    have hK : ExtK τ s' := ExtK.same (fun r _ _ => hr r (by omega) (by omega))
    have eq : EqP τ s' := EqP.same (fun r _ _ => hr r (by omega) (by omega)) (h0 21 (by decide)) (h0 23 (by decide))
    have h47 : s' 0 47 = τ 0 47 := by rw [b3.2.1, b4, hx.2.1]
    have h48 : s' 0 48 = τ 0 48 := by rw [b3.2.2.2.1, b4, hx.2.2.2.1]
    have h52 : s' 0 52 = τ 0 52 := h0 52 (by decide)
    have hrn : ∀ i : Nat, (i : Int) < τ 0 48 → s' 36 i = τ 36 i ∧ s' 37 i = τ 37 i ∧ s' 38 i = τ 38 i := fun i hi => rnl_at hx.2.2.2.2 (by rw [← b4]; exact b3.2.2.2.2) (by
      have := hx.2.2.2.1
      omega)
    refine ⟨s', b1, ⟨⟨k1.cong (fun _ _ _ => rfl) (fun r _ _ => hr r (by omega) (by omega)), k2.cong hF hK (fun _ _ _ => rfl) (fun r _ _ => hr r (by omega) (by omega)) (h0 4 (by decide)), k3.cong hF hK (fun _ _ _ => rfl) (fun r _ _ => hr r (by omega) (by omega)) (h0 9 (by decide)), k4.cong rfl (hr 18 (by omega) (by omega)), k5.mono hW hK (ExtP.cong (fun r _ _ => hr r (by omega) (by omega)) (h0 9 (by decide))) (fun _ _ _ => rfl) (fun r r1 r2 => hr r (by omega) (by omega)) (h0 21 (by decide)) (h0 23 (by decide)), ?_⟩, z, e1.keep eq hW hM (fun _ _ _ => rfl), e2.keep eq hW hM (fun _ _ _ => rfl), ?_, ?_⟩, b6, hr, b2.2.2.1, h0⟩
    · obtain ⟨c1, c2, c3, c4, c5⟩ := k6
      unfold RC
      rw [h47, h48, h52, b2.2.2.2.1]
      refine ⟨c1, c2, c3, fun i hi => ?_, c5⟩
      obtain ⟨r1, r2, r3⟩ := hrn i hi
      rw [r1, r2, r3]
      exact c4 i hi
    · rcases e3 with e3 | e3
      · exact Or.inl e3
      · exact Or.inr (e3.keep eq hW hF hM rfl rfl rfl)
    · cases m with
      | false => exact Or.inr (Or.inl ⟨by rw [b5, he, if_neg (by decide)], b6⟩)
      | true => exact Or.inr (Or.inr ⟨by rw [b5, he, if_pos rfl], b6⟩)
/-- both trees are too large, or none is -/
theorem trees_l {σ τ s : Sg} {t : Nat} {m : Bool} (hW : WFP τ) (hM : WFM τ) (hWs : WFP s) (hMs : WFM s) (eq : EqP τ s) (hc : CTree τ σ t m) (hr : RTree s m) : (σ t 3 = 0 ∧ s 0 55 = 0 ∧ (∃ pf S N B, B + 1 ≤ 500 ∧ GD s σ t m pf S N B) ∧ ∃ pf N, BI s s m pf N N) ∨ (σ t 3 = 1 ∧ s 0 55 = 1 ∧ Large s m ∧ 0 ≤ s 0 56 ∧ s 0 56 ≤ 500) := by
  rcases hc with ⟨c1, pf, S, N, B, c2, c3⟩ | ⟨c1, c2⟩
  · have c4 := c3.eqp eq hW hM
    rcases hr with ⟨r1, pf', N', r2⟩ | ⟨r1, r2⟩
    · exact Or.inl ⟨c1, r1, ⟨pf, S, N, B, c2, c4⟩, pf', N', r2⟩
    · exact absurd r2.1 (c4.tree.small (c4.1.n500))
  · have c3 := eq.large hW hM c2
    rcases hr with ⟨r1, pf', N', r2⟩ | ⟨r1, r2⟩
    · exact absurd c3 (r2.tree.small r2.n500)
    · exact Or.inr ⟨c1, r1, r2⟩
