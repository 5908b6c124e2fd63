/-! a run over a tree, beside the plain one -/
section STEPT
variable {τ0 σ τ p0 : Sg} {e a b : Int} {X : Int × Nat × XS}
theorem xw_b (hX : XW τ0 a b (-1) X) {w : Sg} (bs : Bs τ0 τ) (h : WOK τ a b (-1) w) (hT : CtxT w) (h2 : 2 ≤ e) (hl : 2 ≤ e → ∀ P, AP w (decide (e = 3)) P → P.length < 500) : X.2.2.2.1 ≤ 960 := by
  obtain ⟨τ1, w0, b1, k1, k2, k3, -⟩ := hX
  have hw := wok_we b1 bs k1 h
  have e23 : w 0 23 = w0 0 23 := by
    rw [h.2.1 23 (by omega), k1.2.1 23 (by omega)]
    have := b1.2.1.2.2.1
    have := bs.2.1.2.2.1
    omega
  have hg := (wk_run2 hT (hl h2)).2
  rw [we_plS hw, e23, ← k3] at hg
  exact hg
set_option maxHeartbeats 1000000 in
theorem step_tr {t : Nat} {m : Bool} (htm : (e = 2 ∧ t = 43 ∧ m = false) ∨ (e = 3 ∧ t = 49 ∧ m = true)) (hX : XW τ0 a b (-1) X) (h : RelW σ τ) (rt : inRt τ) (bs : Bs τ0 τ) (q : Qr σ) (hv : FitV τ0 a b (-1)) (hk : FitK τ0 a b (-1)) (h0 : ¬ τ0 0 21 ≤ 0)
    {x v0 pl gv lst : Int} (hlen : X.2.2.2.2.length ≤ 360) (hT0 : inR X.2.2.2.1) (ho : OB X X.2.2.2.1 p0) (hpl : wrq [0] (F_X10_bound (jrem x 3) p0) = some (pl, p0)) (hgv : wrq [0] (F_X10_viewAt 0 p0) = some (gv, p0)) (hls : wrq [0] (F_X10_viewAt (wrap ((X.2.2.2.2.length : Int) - 1)) p0) = some (lst, p0))
    (hv0 : v0 = if X.1 = 2 then -1 else if X.1 = 1 then -2 else τ0 21 X.2.1) (hx0 : X.1 = 0 → 0 ≤ τ0 21 X.2.1) :
    ∃ (σ' τ' : Sg) (r : Int), (∀ R, EngF x a b v0 X.2.2.2.1 (X.2.2.2.2.length : Int) pl gv lst e σ σ' R (wrap (R + r))) ∧ RelW σ' τ' ∧ inRt τ' ∧ Bs τ0 τ' ∧ Qr σ' ∧ DT e a b (-1) τ τ' ∧
      ((r = 0 ∧ ∀ d : Nat, d < 8 → σ' 26 (8 * d + 7) = σ 26 (8 * d + 7)) ∨ (r = 1 ∧ X.1 = 0 ∧ ∀ d : Nat, d < 8 → σ' 26 (8 * d + 7) = if d = X.2.1 then wrap (σ 26 (8 * d + 7) + 1) else σ 26 (8 * d + 7))) := by
  have s21 := bs.2.1.2.2.2
  have s23 := bs.2.1.2.2.1
  obtain ⟨z, σm, z1, z2, z3, z4, z5⟩ := size_ok h htm (by omega)
  obtain ⟨σg, s', g1, g2, g3, g4, g5⟩ := run_tr2 z2 rt htm (bs.fitV hv) (bs.fitK hk) (by omega)
  rw [grow_st z3] at g1
  have e1 : σm = σg := congrArg Prod.snd (Option.some.inj g1)
  subst e1
  have q26 : σm 26 = σ 26 := z4 26 (by omega)
  have qm : Qr σm := by
    unfold Qr at *
    rw [z4 27 (by omega), q26]
    exact q
  rcases g5 with ⟨c1, c2, c3⟩ | ⟨c1, c2, v, σ', τ', c3, c4, c5, c6, c7, c8, c9⟩
  · have hz : z = -3 := by
      rcases z5 with y | y
      · exact y.1
      · exact absurd y.2 c2
    refine ⟨σm, τ, 0, fun R => ⟨z, σm, z1, Or.inl ⟨hz, ?_, rfl⟩⟩, z2, rt, bs, qm, ⟨s', g4, Or.inl ⟨c1, rfl⟩⟩, Or.inl ⟨rfl, fun d _ => by rw [q26]⟩⟩
    unfold wrq
    rw [c3]
    rfl
  · have hz : ¬ z = -3 := by
      rcases z5 with y | y
      · exact absurd c2 y.2
      · exact y.1
    have bs' : Bs τ0 s' := ⟨fun r r1 r2 => by rw [c7 r r1 (by omega), bs.1 r r1 r2], ⟨by rw [c9 4 (by omega)]; exact bs.2.1.1, by rw [c9 9 (by omega)]; exact bs.2.1.2.1, by rw [c9 23 (by omega)]; exact s23, by rw [c9 21 (by omega)]; exact s21⟩, by rw [c8]; exact bs.2.2⟩
    have hMs : RM σm s' := by
      obtain ⟨m1, m2, m3, m4, m5⟩ := z2.1.2.2.2.2.1
      obtain ⟨hW, hF, hM, hV, hWW⟩ := z2.wf
      have hK : ExtK τ s' := ExtK.same (fun r r1 r2 => c7 r (by omega) (by omega))
      have hP : ExtP τ s' := ExtP.cong (fun r r1 r2 => c7 r (by omega) (by omega)) (c9 9 (by omega))
      exact z2.1.2.2.2.2.1.mono hW hK hP (fun _ _ _ => rfl) (fun r r1 r2 => c7 r (by omega) (by omega)) (c9 21 (by omega)) (c9 23 (by omega))
    obtain ⟨w, k1, k2, k3, k4, k5, k6⟩ := seen_of hMs c6
    have he : 0 ≤ e ∧ e ≤ 3 := by omega
    have he2 : 2 ≤ e := by omega
    have hg := xw_good hX bs' k1 k2 he k6
    have hbd := xw_b hX bs' k1 k2 he2 k6
    obtain ⟨-, -, -, -, -, -, x5, x6⟩ := id hX
    have hs := seen_x k3 hg x5
    have hq := k3.qr outR_T qm
    have hob := ob_of hs
    obtain ⟨n1, n2⟩ := nrm_ok c5.1 hq
    have hsm := sm_rel z2 c5.1 c6.fr
    have hin := hT0
    have hvv : v = v0 := by
      rw [hs.2.2.2.2.2, hv0]
      rcases x5 with x5 | x5 | x5
      · rw [if_neg (by omega), if_neg (by omega), if_neg (by omega), if_neg (by omega)]
        have hm := (z2.1.2.2.2.2.1.2.2.2.2 X.2.1 (by omega)).2.1
        rw [hm, bs.1 21 (by omega) (by omega)]
      · rw [if_neg (by omega), if_pos x5, if_neg (by omega), if_pos x5]
      · rw [if_pos x5, if_pos x5]
    obtain ⟨-, -, -, -, t5, t6⟩ := hg
    have t5' := t5 he2
    have htest : F_X10_tests σ' = (outR w e).2.2.2.1 := hob.1
    have hview : F_X10_views σ' = (X.2.2.2.2.length : Int) := hob.2.1
    refine ⟨σ', nrm τ', if 0 ≤ v0 then 1 else 0, fun R => ⟨z, σm, z1, Or.inr ⟨hz, ?_, hview, ob_vie ho hob hlen hgv, ob_vie ho hob hlen hls, ob_bou ho hob hpl, by rw [htest]; omega, fun q2 => ?_, rfl⟩⟩, n1, n2, Bs.nrm (fun r r1 r2 => by rw [c5.2 r r1 r2, bs'.1 r r1 r2]) ?_, hq, ⟨s', g4, Or.inr ⟨c1, v, τ', c4, rfl⟩⟩, ?_⟩
    · unfold wrq
      rw [c3, ← hvv]
      rfl
    · have t6' := t6 q2
      rw [htest]
      unfold inR at hin
      rw [wrap_id (by omega) (by omega)]
      omega
    · obtain ⟨-, ⟨y1, y2, y3, y4⟩, -⟩ := bs
      obtain ⟨w1, w2, w3, w4⟩ := hsm
      exact ⟨by rw [w1, y1], by rw [w2, y2], by rw [w3, y3], by rw [w4, y4]⟩
    · have h5 := hs.2.2.2.2.1
      rcases x5 with x5 | x5 | x5
      · have := hx0 x5
        have hp : 0 ≤ v0 := by rw [hv0, if_neg (by omega), if_neg (by omega)]; exact this
        refine Or.inr ⟨if_pos hp, x5, fun d hd => ?_⟩
        rw [h5 d hd, q26]
        by_cases y : d = X.2.1
        · rw [if_pos ⟨x5, y⟩, if_pos y]
        · rw [if_neg (fun g => y g.2), if_neg y]
      · have hp : ¬ 0 ≤ v0 := by rw [hv0, if_neg (by omega), if_pos x5]; omega
        refine Or.inl ⟨if_neg hp, fun d hd => ?_⟩
        rw [h5 d hd, if_neg (by omega), q26]
      · have hp : ¬ 0 ≤ v0 := by rw [hv0, if_pos x5]; omega
        refine Or.inl ⟨if_neg hp, fun d hd => ?_⟩
        rw [h5 d hd, if_neg (by omega), q26]
end STEPT
