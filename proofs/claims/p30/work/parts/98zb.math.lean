/-! laying a node of the reference's tree -/
theorem BI.rts {τ s : Sg} {m : Bool} {pf : Nat → Pth} {N k : Nat} (h : BI τ s m pf N k) : RTs s pf N := by
  have h5 := h.n500
  refine ⟨by omega, h.p0, fun n n0 hn => ?_⟩
  obtain ⟨a, i, a1, a2, a3, a4, a5, a6⟩ := h.par n n0 hn
  obtain ⟨f1, f2, f, f3, f4, f5⟩ := h.fin a a2
  exact ⟨a, i, a1, a4, a5, by omega, by rw [f1]; exact a6⟩
theorem rAsk_g {s : Sg} {n : Nat} {c : Int} (h : s 41 n = 3) (h2 : s 42 n = c) : rAsk s n = (5, c, 0) := by
  unfold rAsk; rw [if_neg (by omega), if_neg (by omega), if_pos h, h2]
theorem rAsk_v {s : Sg} {n : Nat} {v p : Int} (h : s 41 n = 4) (h2 : s 42 n = v) (h3 : s 43 n = p) : rAsk s n = (4, p, v) := by
  unfold rAsk; rw [if_neg (by omega), if_pos h, h2, h3]
theorem rAsk_h {s : Sg} {n : Nat} {v p : Int} (h : s 41 n = 5) (h2 : s 42 n = v) (h3 : s 43 n = p) : rAsk s n = (3, p, v) := by
  unfold rAsk; rw [if_pos h, h2, h3]
theorem rAsk_m {s : Sg} {n : Nat} (h : s 41 n = 2) : rAsk s n = (2, 0, 0) := by
  unfold rAsk; rw [if_neg (by omega), if_neg (by omega), if_neg (by omega), if_pos h]
theorem rAsk_l {s : Sg} {n : Nat} {x c : Int} (h : s 41 n = x) (hx : x = 0 ∨ x = 1) (h2 : s 42 n = c) : rAsk s n = (x, c, 0) := by
  unfold rAsk; rw [if_neg (by omega), if_neg (by omega), if_neg (by omega), if_neg (by omega), h, h2]
theorem lay_node {τ s t : Sg} {m : Bool} {pf : Nat → Pth} {N k many : Nat} {A : Ask} {c x7 : Int} (hB : BI τ s m pf N k) (hk : k < N) (hA : A = qry τ m (pf k)) (hm : many = wid τ A) (hw : wid τ A ≤ 10) (hc : 0 ≤ c ∧ c < 8) (h56 : t 0 56 = s 0 56) (hr : ∀ r n, 40 ≤ r → r ≤ 45 → ¬ n = k → t r n = s r n) (h40 : t 40 k = s 40 k) (h22 : t 22 = τ 22) (hx7 : (x7 = 3 ∧ A = (5, c, 0) ∧ t 42 k = c) ∨ (x7 = 4 ∧ A = (4, t 43 k, t 42 k)) ∨ (x7 = 5 ∧ A = (3, t 43 k, t 42 k))) : ∃ r s', B_X11_lay_267 k c many x7 t = some (r, s') ∧ (∀ r i, ¬ (r = 0 ∧ i = 56) → ¬ (40 ≤ r ∧ r ≤ 45) → s' r i = t r i) ∧ ((r = true ∧ ∃ pf' N', BI τ s' m pf' N' (k + 1)) ∨ (r = false ∧ Large τ m ∧ 0 ≤ s' 0 56 ∧ s' 0 56 ≤ 500)) := by
  have h5 := hB.n500
  have htn : t 0 56 = N := by rw [h56]; exact hB.n56
  rcases lay267_c (k := k) (many := many) (c := c) (x7 := x7) htn h5 hk (by omega) hc with ⟨g, s', a1, b1, b2, b3⟩ | ⟨g, a1⟩
  · refine ⟨true, s', a1, fun r i h0 h4 => ?_, Or.inl ⟨rfl, _, _, BI.node (A := A) (many := many) hB hk hA hm g b1 (fun r n r1 r2 hn hnk => ?_) ?_ ?_ ?_ ?_ ?_⟩⟩
    · rw [b3 r i (by omega) h0, up2_row (by omega), up2_row (by omega), up2_row (by omega)]
    · rw [b3 r n (by omega) (by omega), ← hr r n r1 r2 hnk]
      unfold up2
      rw [if_neg (by omega), if_neg (by omega), if_neg (by omega)]
    · rw [b3 40 k (by omega) (by omega), up2_row (by omega), up2_row (by omega), up2_row (by omega)]; exact h40
    · rw [b3 44 k (by omega) (by omega), up2_row (by omega), up2_at rfl rfl]
    · rw [b3 45 k (by omega) (by omega), up2_at rfl rfl]
    · have e41 : s' 41 k = x7 := by rw [b3 41 k (by omega) (by omega), up2_row (by omega), up2_row (by omega), up2_at rfl rfl]
      have e42 : s' 42 k = t 42 k := by rw [b3 42 k (by omega) (by omega), up2_row (by omega), up2_row (by omega), up2_row (by omega)]
      have e43 : s' 43 k = t 43 k := by rw [b3 43 k (by omega) (by omega), up2_row (by omega), up2_row (by omega), up2_row (by omega)]
      rcases hx7 with ⟨z, y, w⟩ | ⟨z, y⟩ | ⟨z, y⟩
      · rw [rAsk_g (c := c) (by rw [e41]; exact z) (by rw [e42]; exact w), y]
      · rw [rAsk_v (by rw [e41]; exact z) e42 e43, y]
      · rw [rAsk_h (by rw [e41]; exact z) e42 e43, y]
    · intro i hi
      obtain ⟨c0, c1, c2, c3, c4, c5⟩ := b2 i hi
      have e22 : up2 (up2 (up2 t 41 k x7) 44 k N) 45 k many 22 c.toNat = τ 22 c.toNat := by rw [up2_row (by omega), up2_row (by omega), up2_row (by omega), h22]
      rw [e22] at c1
      refine ⟨c0, c5, by omega, ?_⟩
      rw [qry_c]
      show (s' 41 (N + i) = -9 ∧ (if A.1 = 5 ∧ i = 0 then ((0, A.2.1, 0) : Ask) else if A.1 = 5 ∧ τ 22 A.2.1.toNat = 3 then (1, A.2.1, 0) else seekM τ m ((A, i) :: pf k)) = seekM τ m ((A, i) :: pf k)) ∨ ((s' 41 (N + i) = 0 ∨ s' 41 (N + i) = 1) ∧ rAsk s' (N + i) = if A.1 = 5 ∧ i = 0 then (0, A.2.1, 0) else if A.1 = 5 ∧ τ 22 A.2.1.toNat = 3 then (1, A.2.1, 0) else seekM τ m ((A, i) :: pf k))
      unfold chA at c1
      rcases hx7 with ⟨z, y, w⟩ | ⟨z, y⟩ | ⟨z, y⟩
      · have y1 : A.1 = 5 := by rw [y]
        have y2 : A.2.1 = c := by rw [y]
        rw [if_pos z] at c1
        by_cases i0 : i = 0
        · rw [if_pos i0] at c1
          refine Or.inr ⟨Or.inl c1, ?_⟩
          rw [if_pos ⟨y1, i0⟩, rAsk_l c1 (Or.inl rfl) c2, y2]
        · rw [if_neg i0] at c1
          rw [if_neg (fun q => i0 q.2), y2]
          by_cases g3 : τ 22 c.toNat = 3
          · rw [if_pos g3] at c1
            refine Or.inr ⟨Or.inr c1, ?_⟩
            rw [if_pos ⟨y1, g3⟩, rAsk_l c1 (Or.inr rfl) c2]
          · rw [if_neg g3] at c1
            refine Or.inl ⟨c1, ?_⟩
            rw [if_neg (fun q => g3 q.2)]
      · have y1 : A.1 = 4 := by rw [y]
        rw [if_neg (by omega)] at c1
        refine Or.inl ⟨c1, ?_⟩
        rw [if_neg (by omega), if_neg (by omega)]
      · have y1 : A.1 = 3 := by rw [y]
        rw [if_neg (by omega)] at c1
        refine Or.inl ⟨c1, ?_⟩
        rw [if_neg (by omega), if_neg (by omega)]
  · refine ⟨false, _, a1, fun r i h0 h4 => ?_, Or.inr ⟨rfl, hB.large hk (by rw [← hA, ← hm]; exact g), by rw [up2_row (by omega), htn]; omega, by rw [up2_row (by omega), htn]; omega⟩⟩
    rw [up2_row (by omega)]
/-- the plain order asks for a place: one is needed -/
theorem seek_pos {τ : Sg} {P : Pth} (hW : WFP τ) (hF : WFK (τ 1) (τ 2) (τ 3)) (hM : WFM τ) (hH : HOK τ (hk P)) (hV : VOK P) (g : (seekS τ P (τ 0 23).toNat 0).1 = 3) : ∃ x0, 0 < cnt τ P x0 := by
  have h8 := hM.2.1
  rcases seek_or (τ := τ) (P := P) (m := (τ 0 23).toNat) (τ 0 23).toNat 0 (by omega) with h | ⟨c, c1, c2, c3, c4⟩ | ⟨c, c1, c2, c3⟩
  · rw [h] at g; exact absurd g (by decide)
  · rw [c4] at g
    split at g
    · exact absurd g (by show ¬ (0 : Int) = 3; decide)
    · exact absurd g (by show ¬ (5 : Int) = 3; decide)
  · generalize seekS τ P (τ 0 23).toNat 0 = a at *
    obtain ⟨a1, pl, k⟩ := a
    have ha : a1 = 3 := g
    subst ha
    refine ⟨pl, cnt_pos.mpr ⟨c, by omega, ?_, ?_⟩⟩
    · unfold cted; rw [c2, c3]; rfl
    · refine seq_nd (τ := τ) (P := P) (fun q hq x hx => ?_) c3
      have hok := cols_ok (H := hk P) hM (by omega) q hq
      have := hW.ge hok.1
      exact mt_nd hW hF hH hV 60 q.1 q.2 x hok (by omega) hx
/-- what building a tree leaves as it is -/
def FrB (τ s : Sg) : Prop := (∀ r, 1 ≤ r → r ≤ 25 → s r = τ r) ∧ s 27 = τ 27 ∧ s 35 = τ 35 ∧ s 39 = τ 39 ∧ ∀ i, i ∉ [34, 38, 40, 41, 42, 43, 44, 47, 48, 54, 55, 56, 67] → s 0 i = τ 0 i
theorem FrB.sm {τ s : Sg} (h : FrB τ s) : SmR τ s := ⟨h.1, h.2.2.2.2 9 (by decide), h.2.2.2.2 21 (by decide), h.2.2.2.2 23 (by decide)⟩
theorem FrB.rx {τ s s' : Sg} {x : XS} (h : FrB τ s) (hx : RX s x s') : FrB τ s' := by
  refine ⟨fun r r1 r2 => by rw [hx.1.row (by omega) (by omega)]; exact h.1 r r1 r2, by rw [hx.1.row (by omega) (by omega)]; exact h.2.1, by rw [hx.1.row (by omega) (by omega)]; exact h.2.2.1, by rw [hx.1.row (by omega) (by omega)]; exact h.2.2.2.1, fun i hi => ?_⟩
  rw [hx.1.2 i (by simp only [List.mem_cons, List.not_mem_nil, or_false, not_or] at hi ⊢; omega)]
  exact h.2.2.2.2 i hi
theorem FrB.w {τ s s' : Sg} (h : FrB τ s) (hx : FrW s s') : FrB τ s' := by
  refine ⟨fun r r1 r2 => by rw [hx.1 r r1 r2]; exact h.1 r r1 r2, by rw [hx.2.2.2.1]; exact h.2.1, by rw [hx.2.2.1]; exact h.2.2.1, by rw [hx.2.1 39 (by omega) (by omega)]; exact h.2.2.2.1, fun i hi => ?_⟩
  rw [hx.2.2.2.2 i (by simp only [List.mem_cons, List.not_mem_nil, or_false, not_or] at hi ⊢; omega)]
  exact h.2.2.2.2 i hi
theorem FrB.up {τ s : Sg} {r i : Nat} {v : Int} (h : FrB τ s) (hr : (40 ≤ r ∧ r ≤ 50) ∨ r = 26 ∨ r = 34 ∨ (r = 0 ∧ i ∈ [34, 38, 40, 41, 42, 43, 44, 47, 48, 54, 55, 56, 67])) : FrB τ (up2 s r i v) := by
  refine ⟨fun k k1 k2 => by rw [← h.1 k k1 k2]; funext j; rw [up2_row (by omega)], by rw [← h.2.1]; funext j; rw [up2_row (by omega)], by rw [← h.2.2.1]; funext j; rw [up2_row (by omega)], by rw [← h.2.2.2.1]; funext j; rw [up2_row (by omega)], fun k hk => ?_⟩
  rw [← h.2.2.2.2 k hk]
  unfold up2
  by_cases c : 0 = r ∧ k = i
  · exfalso
    rcases hr with g | g | g | ⟨g, g2⟩
    · omega
    · omega
    · omega
    · rw [c.2] at hk; exact hk g2
  · rw [if_neg c]
theorem FrB.pt {τ s s' : Sg} (h : FrB τ s) (hs : ∀ r i, ¬ (r = 0 ∧ i = 56) → ¬ (40 ≤ r ∧ r ≤ 45) → s' r i = s r i) : FrB τ s' := by
  refine ⟨fun r r1 r2 => by rw [← h.1 r r1 r2]; funext i; rw [hs r i (by omega) (by omega)], by rw [← h.2.1]; funext i; rw [hs 27 i (by omega) (by omega)], by rw [← h.2.2.1]; funext i; rw [hs 35 i (by omega) (by omega)], by rw [← h.2.2.2.1]; funext i; rw [hs 39 i (by omega) (by omega)], fun i hi => ?_⟩
  rw [hs 0 i (fun z => hi (by rw [z.2]; decide)) (by omega)]
  exact h.2.2.2.2 i hi
theorem Xo.pt {x : XS} {s s' : Sg} (h : Xo x s) (hs : ∀ r i, ¬ (r = 0 ∧ i = 56) → ¬ (40 ≤ r ∧ r ≤ 45) → s' r i = s r i) : Xo x s' :=
  h.fr (funext fun i => hs 33 i (by omega) (by omega)) (fun r r1 r2 => funext fun i => hs r i (by omega) (by omega)) (hs 0 47 (by omega) (by omega)) (hs 0 48 (by omega) (by omega))
theorem Xo.up {x : XS} {s : Sg} {r i : Nat} {v : Int} (h : Xo x s) (hr : (40 ≤ r ∧ r ≤ 50) ∨ r = 26 ∨ r = 34 ∨ (r = 0 ∧ ¬ i = 47 ∧ ¬ i = 48)) : Xo x (up2 s r i v) :=
  h.fr (funext fun j => by rw [up2_row (by omega)]) (fun k k1 k2 => funext fun j => by rw [up2_row (by omega)]) (by unfold up2; rw [if_neg (by omega)]) (by unfold up2; rw [if_neg (by omega)])
