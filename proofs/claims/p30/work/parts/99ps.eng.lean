/-! the runs that agree, one by one -/
def OB (X : Int × Nat × XS) (T : Int) (p : Sg) : Prop := p 27 3 = T ∧ p 27 4 = X.2.2.2.2.length ∧ rnc p X.2.2.2.2 ∧ ∀ i : Nat, i < 6 → p 31 i = if X.1 = 2 then -1 else X.2.2.1 i
theorem ob_of {σ p : Sg} {X : Int × Nat × XS} {T v : Int} (h : Seen σ X.1 X.2.1 (X.2.2.1, T, X.2.2.2.2) v p) : OB X T p := ⟨h.1, h.2.1, h.2.2.1, h.2.2.2.1⟩
theorem vie_ex {a : Int} {p : Sg} : ∃ k, wrq [0] (F_X10_viewAt a p) = some (k, p) := by
  unfold F_X10_viewAt
  split
  · exact ⟨_, rfl⟩
  · exact ⟨_, rfl⟩
theorem bou_ex {a : Int} {p : Sg} : ∃ k, wrq [0] (F_X10_bound a p) = some (k, p) := by
  unfold F_X10_bound
  split
  · exact ⟨_, rfl⟩
  · exact ⟨_, rfl⟩
theorem ob_vie {X : Int × Nat × XS} {T T' a k : Int} {p q : Sg} (hp : OB X T p) (hq : OB X T' q) (hl : X.2.2.2.2.length ≤ 360) (h : wrq [0] (F_X10_viewAt a p) = some (k, p)) : wrq [0] (F_X10_viewAt a q) = some (k, q) := by
  unfold F_X10_viewAt F_X1_viewCount at *
  rw [hp.2.1] at h
  rw [hq.2.1]
  by_cases c : F_X10_isIn a 0 (wrap ((X.2.2.2.2.length : Int) - 1)) = true
  · rw [if_pos c] at h ⊢
    have c2 := isIn_iff.mp c
    rw [wrap_id (by omega) (by omega)] at c2
    have e : F_X1_ranAt a q = F_X1_ranAt a p := by
      unfold F_X1_ranAt rdD
      split
      · exact rnc_at hq.2.2.1 hp.2.2.1 _ (by omega)
      · rfl
    rw [e]
    obtain ⟨z, h1, h2, -⟩ := wrq_inv h
    cases h1
    unfold wrq
    rw [Option.bind_some]
    dsimp only at h2 ⊢
    rw [h2]
    rfl
  · rw [if_neg c] at h ⊢
    obtain ⟨z, h1, h2, -⟩ := wrq_inv h
    cases h1
    unfold wrq
    rw [Option.bind_some]
    dsimp only at h2 ⊢
    rw [h2]
    rfl
theorem ob_bou {X : Int × Nat × XS} {T T' a k : Int} {p q : Sg} (hp : OB X T p) (hq : OB X T' q) (h : wrq [0] (F_X10_bound a p) = some (k, p)) : wrq [0] (F_X10_bound a q) = some (k, q) := by
  unfold F_X10_bound at *
  by_cases c : F_X10_isName a = true
  · rw [if_pos c] at h ⊢
    have e : F_X1_placeOf a q = F_X1_placeOf a p := by
      unfold F_X1_placeOf rdD
      split
      · rw [hp.2.2.2 _ (by omega), hq.2.2.2 _ (by omega)]
      · rfl
    rw [e]
    obtain ⟨z, h1, h2, -⟩ := wrq_inv h
    cases h1
    unfold wrq
    rw [Option.bind_some]
    dsimp only at h2 ⊢
    rw [h2]
    rfl
  · rw [if_neg c] at h ⊢
    obtain ⟨z, h1, h2, -⟩ := wrq_inv h
    cases h1
    unfold wrq
    rw [Option.bind_some]
    dsimp only at h2 ⊢
    rw [h2]
    rfl
theorem tak_v {σ τ : Sg} (h : RelW σ τ) : ∀ j, 0 ≤ j → j < τ 0 23 → wrq [0] (F_X10_taken j σ) = some (σ 26 (8 * j.toNat + 7), σ) := fun j h1 h2 => by
  have hm := h.1.2.2.2.2.1
  have h8 := hm.2.2.2.1.2.1
  unfold F_X10_taken
  rw [if_pos ((has4 hm).mpr ⟨h1, h2⟩), get4 hm ⟨h1, h2⟩ (by omega)]
  rfl
/-- what the plain run comes to -/
def XW (τ0 : Sg) (a b c : Int) (X : Int × Nat × XS) : Prop := ∃ τ1 w0, Bs τ0 τ1 ∧ WOK τ1 a b c w0 ∧ CtxT w0 ∧ X = plS w0 (w0 0 23).toNat 0 xI ∧ (X.1 = 0 ∨ X.1 = 1 ∨ X.1 = 2) ∧ (X.1 = 2 ∨ (X.2.1 : Int) < τ0 0 23)
section STEP
variable {τ0 σ τ : Sg} {e a b c : Int} {X : Int × Nat × XS}
theorem xw_good (hX : XW τ0 a b c X) (bs : Bs τ0 τ) {w : Sg} (h : WOK τ a b c w) (hT : CtxT w) (he : 0 ≤ e ∧ e ≤ 3) (hl : 2 ≤ e → ∀ P, AP w (decide (e = 3)) P → P.length < 500) : Good X e (outR w e) := by
  obtain ⟨τ1, w0, b1, k1, k2, k3, -⟩ := hX
  have hw := wok_we b1 bs k1 h
  have e23 : w 0 23 = w0 0 23 := by
    rw [h.2.1 23 (by omega), k1.2.1 23 (by omega)]
    have := b1.2.1.2.2.1
    have := bs.2.1.2.2.1
    omega
  have hg := good_of (e := e) hT he hl
  rw [we_plS hw, e23, ← k3] at hg
  exact hg
theorem get_x (h : RelW σ τ) (rt : inRt τ) (bs : Bs τ0 τ) (hv : FitV τ0 a b c) (hk : FitK τ0 a b c) (h0 : ¬ τ0 0 21 ≤ 0) : ∃ X, XW τ0 a b c X := by
  have s21 := bs.2.1.2.2.2
  have s23 := bs.2.1.2.2.1
  obtain ⟨v, p, τ', g1, g2, g3, g4⟩ := run_lo2 (e := 0) h rt (by omega) (bs.fitV hv) (bs.fitK hk) (by omega)
  obtain ⟨w, k1, k2, k3, k4, k5, k6⟩ := seen_of h.1.2.2.2.2.1 g4
  unfold outR at k4 k5
  rw [if_pos (by omega)] at k4 k5
  exact ⟨_, τ, w, bs, k1, k2, rfl, k4, by rw [← s23]; exact k5⟩
theorem step_lo (hX : XW τ0 a b c X) (h : RelW σ τ) (rt : inRt τ) (bs : Bs τ0 τ) (q : Qr σ) (he : 0 ≤ e ∧ e < 2) (hv : FitV τ0 a b c) (hk : FitK τ0 a b c) (h0 : ¬ τ0 0 21 ≤ 0) : ∃ v p τ', F_X10_run e a b c σ = some (.inl v, p) ∧ B_X11_run_221 e a b c 0 τ = some (v, τ') ∧ RelW p (nrm τ') ∧ inRt (nrm τ') ∧ Bs τ0 (nrm τ') ∧ Qr p ∧ Seen σ X.1 X.2.1 (X.2.2.1, X.2.2.2.1, X.2.2.2.2) v p := by
  have s21 := bs.2.1.2.2.2
  obtain ⟨v, p, τ', g1, g2, g3, g4⟩ := run_lo2 h rt he (bs.fitV hv) (bs.fitK hk) (by omega)
  obtain ⟨w, k1, k2, k3, k4, k5, k6⟩ := seen_of h.1.2.2.2.2.1 g4
  have hg := xw_good hX bs k1 k2 ⟨he.1, by omega⟩ k6
  obtain ⟨-, -, -, -, -, -, x5, -⟩ := id hX
  have hs := seen_x k3 hg x5
  have hq := k3.qr outR_T q
  obtain ⟨n1, n2⟩ := nrm_ok g3.1 hq
  have hsm := sm_rel h g3.1 g4.fr
  refine ⟨v, p, τ', g1, g2, n1, n2, Bs.nrm (fun r r1 r2 => by rw [g3.2 r r1 r2, bs.1 r r1 r2]) ?_, hq, by rw [← hg.2.2.2.1 (by omega)]; exact hs⟩
  obtain ⟨-, ⟨y1, y2, y3, y4⟩, -⟩ := bs
  obtain ⟨z1, z2, z3, z4⟩ := hsm
  exact ⟨by rw [z1, y1], by rw [z2, y2], by rw [z3, y3], by rw [z4, y4]⟩
theorem grow_st {t : Nat} (h : 0 < σ t 4) : F_X7_grow t σ = some (decide (σ t 3 = 0), σ) := by
  unfold F_X7_grow
  rw [if_neg (by omega)]
  by_cases z : σ t 3 = 0
  · rw [if_pos z, decide_eq_true z]
  · rw [if_neg z, decide_eq_false z]
theorem size_ok {t : Nat} {m : Bool} (h : RelW σ τ) (htm : (e = 2 ∧ t = 43 ∧ m = false) ∨ (e = 3 ∧ t = 49 ∧ m = true)) (h0 : ¬ τ 0 21 ≤ 0) : ∃ z σm, wrq [0, 2] (F_X10_size e true σ) = some (z, σm) ∧ RelW σm τ ∧ 0 < σm t 4 ∧ (∀ r, r ≤ 31 → σm r = σ r) ∧ ((z = -3 ∧ ¬ σm t 3 = 0) ∨ (¬ z = -3 ∧ σm t 3 = 0)) := by
  have hgo : ∃ q, ((F_X7_grow t σ).bind fun q1 => if q1.1 = true then (F_X7_sharedCount t q1.2).bind fun q3 => some ((.inl q3.1 : Int ⊕ Nat), q3.2) else some (.inl (-3), q1.2)) = some q ∧ ∃ z, q.1 = .inl z ∧ RelW q.2 τ ∧ 0 < q.2 t 4 ∧ (∀ r, r ≤ 31 → q.2 r = σ r) ∧ ((z = -3 ∧ ¬ q.2 t 3 = 0) ∨ (¬ z = -3 ∧ q.2 t 3 = 0)) := by
    obtain ⟨σg, u1, u2, u3, u4, u5⟩ := sz_tree h (htm.imp And.right And.right)
    rw [u1, Option.bind_some]
    by_cases z : σg t 3 = 0
    · obtain ⟨K, σ', a1, a2, a3⟩ := u5 z
      rw [if_pos (decide_eq_true z), a1, Option.bind_some]
      have c : ∀ i, ¬ i = 6 → σ' t i = σg t i := fun i hi => a3 t i (by omega) (by omega)
      exact ⟨_, rfl, K, rfl, a2, by show 0 < σ' t 4; rw [c 4 (by omega)]; exact u4, fun r hr => by
        show σ' r = σ r
        rw [← u3 r (by omega) (by omega)]
        funext i
        exact a3 r i (by omega) (by omega), Or.inr ⟨by omega, by show σ' t 3 = 0; rw [c 3 (by omega)]; exact z⟩⟩
    · rw [if_neg (fun q => z (of_decide_eq_true q))]
      exact ⟨_, rfl, -3, rfl, u2, u4, fun r hr => u3 r (by omega) (by omega), Or.inl ⟨rfl, z⟩⟩
  obtain ⟨⟨x, p⟩, q1, z, q2, q3, q4, q5, q6⟩ := hgo
  dsimp only at q2 q3 q4 q5 q6
  subst q2
  refine ⟨z, p, ?_, q3, q4, q5, q6⟩
  unfold F_X10_size wrq
  rw [if_pos (isIn_iff.mpr (by omega)), if_pos ((isThere4 h.1.2.2.2.2.1).mpr h0)]
  rcases htm with ⟨r1, r2, -⟩ | ⟨r1, r2, -⟩
  · subst r2
    rw [if_neg (by omega)]
    simp only [if_true]
    rw [q1]
    rfl
  · subst r2
    rw [if_pos r1]
    simp only [if_true]
    rw [q1]
    rfl
/-- how the account goes on behind a run over a tree -/
def DT (e a b c : Int) (τ τ' : Sg) : Prop := ∃ s, F_X11_build e τ = some s ∧ ((¬ s 0 55 = 0 ∧ τ' = τ) ∨ (s 0 55 = 0 ∧ ∃ v τ2, B_X11_run_221 e a b c 0 s = some (v, τ2) ∧ τ' = nrm τ2))
theorem DT.det {τ' τ2 : Sg} (h : DT e a b c τ τ') (h2 : DT e a b c τ τ2) : τ' = τ2 := by
  obtain ⟨s, a1, a2⟩ := h
  obtain ⟨s2, b1, b2⟩ := h2
  rw [a1] at b1
  cases b1
  rcases a2 with ⟨c1, c2⟩ | ⟨c1, v, t, c2, c3⟩
  · rcases b2 with ⟨d1, d2⟩ | ⟨d1, -⟩
    · rw [c2, d2]
    · exact absurd d1 c1
  · rcases b2 with ⟨d1, -⟩ | ⟨d1, v2, t2, d2, d3⟩
    · exact absurd c1 d1
    · rw [c2] at d2
      cases d2
      rw [c3, d3]
end STEP
