/-! the reference's run by a tree: what stays -/
def FrT (τ s : Sg) : Prop := (∀ r, r ∉ [0, 28, 29, 30, 31, 32, 33, 34, 36, 37, 38] → s r = τ r) ∧ ∀ i, i ∉ [34, 38, 40, 41, 42, 43, 44, 47, 48] → s 0 i = τ 0 i
theorem FrT.rfl' {τ : Sg} : FrT τ τ := ⟨fun _ _ => rfl, fun _ _ => rfl⟩
theorem FrT.r {τ s : Sg} (h : FrT τ s) {r : Nat} (h1 : 1 ≤ r) (h2 : r ≤ 27 ∨ 39 ≤ r ∨ r = 35) : s r = τ r := h.1 r (by
  simp only [List.mem_cons, List.not_mem_nil, or_false]
  omega)
theorem FrT.up {τ s : Sg} {i : Nat} {v : Int} (h : FrT τ s) (hi : i = 40 ∨ i = 41 ∨ i = 47) : FrT τ (up2 s 0 i v) := by
  refine ⟨fun r hr => ?_, fun j hj => ?_⟩
  · rw [← h.1 r hr]; funext k
    rw [up2_row (fun z => hr (by rw [z]; decide))]
  · rw [← h.2 j hj, up2_idx (fun z => hj (by rw [z]; rcases hi with q | q | q <;> rw [q] <;> decide))]
theorem FrT.fr {τ s s' : Sg} (h : FrT τ s) (h' : FrR s s') : FrT τ s' := by
  refine ⟨fun r hr => by rw [h'.1 r hr, h.1 r hr], fun i hi => ?_⟩
  rw [h'.2 i (fun z => hi (by
    simp only [List.mem_cons, List.not_mem_nil, or_false] at z ⊢
    omega)), h.2 i hi]
theorem FrT.o34 {τ s s' : Sg} (h : FrT τ s) (hs : ∀ r, ¬ r = 34 → s' r = s r) : FrT τ s' :=
  ⟨fun r hr => by rw [hs r (fun z => hr (by rw [z]; decide)), h.1 r hr], fun i hi => by rw [hs 0 (by omega), h.2 i hi]⟩
theorem FrT.try_ {τ s s' : Sg} (h : FrT τ s) (h1 : FrW s s') (h2 : ∀ r, 26 ≤ r → r ≤ 27 ∨ 39 ≤ r → s' r = s r) (h3 : s' 0 67 = s 0 67) : FrT τ s' := by
  obtain ⟨a, b, c, d, e⟩ := h1
  refine ⟨fun r hr => ?_, fun i hi => ?_⟩
  · rw [← h.1 r hr]
    simp only [List.mem_cons, List.not_mem_nil, or_false] at hr
    by_cases g : r ≤ 25
    · exact a r (by omega) g
    · by_cases g2 : r = 35
      · rw [g2]; exact c
      · exact h2 r (by omega) (by omega)
  · rw [← h.2 i hi]
    by_cases g : i = 67
    · rw [g]; exact h3
    · exact e i (fun z => by
        simp only [List.mem_cons, List.not_mem_nil, or_false] at z hi
        omega)
theorem FrT.sm {τ s : Sg} (h : FrT τ s) : SmR τ s := ⟨fun r h1 h2 => h.r h1 (by omega), h.2 9 (by decide), h.2 21 (by decide), h.2 23 (by decide)⟩
theorem vaF_eq {τ s : Sg} (h4 : s 4 = τ 4) (h6 : s 6 = τ 6) (h35 : s 35 = τ 35) : ∀ (n : Nat) (pl : Int), vaF s n pl = vaF τ n pl
  | 0, _ => rfl
  | n + 1, pl => by
    unfold vaF
    rw [h4, h6, h35, vaF_eq h4 h6 h35 n]
theorem FrT.va {τ s : Sg} (h : FrT τ s) : va s = va τ := by
  funext pl
  exact vaF_eq (h.r (by omega) (by omega)) (h.r (by omega) (by omega)) (h.r (by omega) (by omega)) _ pl
theorem FrT.hd {τ s : Sg} (h : FrT τ s) : hdR s = hdR τ := by
  funext pl
  unfold hdR
  rw [h.va, h.r (r := 5) (by omega) (by omega)]
theorem FrT.gv {τ s : Sg} (h : FrT τ s) : gvR s = gvR τ := by
  have hn : nvR s = nvR τ := by
    funext v pl n
    unfold nvR msR
    rw [h.va, h.r (r := 7) (by omega) (by omega), h.r (r := 18) (by omega) (by omega)]
  funext v pl x
  unfold gvR
  rw [hn]
theorem FrT.gd {τ s : Sg} (h : FrT τ s) {H : Int → Int} {c : Nat} {x : XS} : grd s H c x = grd τ H c x := by
  unfold grd
  rw [h.r (r := 22) (by omega) (by omega), h.r (r := 23) (by omega) (by omega), h.r (r := 24) (by omega) (by omega)]
theorem FrT.ctx {τ s : Sg} (h : FrT τ s) (hT : CtxT τ) : CtxT s := by
  obtain ⟨hF, hV, hP, hM, hW, hG⟩ := hT
  refine ⟨h.sm.wfk hF, ?_, h.sm.wfp hP, h.sm.wfm hP hM, h.sm.wfw hW, ?_⟩
  · unfold WFV at *
    rw [h.2 4 (by decide), h.r (r := 1) (by omega) (by omega), h.r (r := 2) (by omega) (by omega), h.r (r := 3) (by omega) (by omega), h.r (r := 4) (by omega) (by omega), h.r (r := 5) (by omega) (by omega), h.r (r := 6) (by omega) (by omega), h.r (r := 7) (by omega) (by omega)]
    exact hV
  · unfold GV at *
    rw [h.2 4 (by decide), h.2 21 (by decide), h.r (r := 4) (by omega) (by omega), h.r (r := 19) (by omega) (by omega), h.r (r := 35) (by omega) (by omega)]
    exact hG
theorem RX.xo {τ s : Sg} {x : XS} (h : RX τ x s) : Xo x s := h.2
theorem Xo.o34 {x : XS} {s s' : Sg} (h : Xo x s) (hs : ∀ r, ¬ r = 34 → s' r = s r) : Xo x s' := h.fr (hs 33 (by omega)) (fun r r1 r2 => hs r (by omega)) (by rw [hs 0 (by omega)]) (by rw [hs 0 (by omega)])
theorem Xo.cnt {x : XS} {s : Sg} (h : Xo x s) : Xo (cntX x) (up2 s 0 47 (wrap (s 0 47 + 1))) := by
  obtain ⟨a, b, c, d, e⟩ := h
  refine ⟨fun i hi => by rw [up2_row (by omega)]; exact a i hi, ?_, ?_, by rw [up2_idx (by omega)]; exact d, rnl_congr (fun r r1 r2 => by funext i; rw [up2_row (by omega)]) e⟩
  · rw [up2_at rfl rfl, b]; rfl
  · exact wrap_in _
set_option maxHeartbeats 4000000 in
theorem bindBy_m {τ s : Sg} {m : Bool} {pf : Nat → Pth} {N n c : Nat} {x : XS} (hT : CtxT τ) (hB : BI τ τ m pf N N) (hn : n < N) (h : FrT τ s) (hx : Xo x s) (hc : (c : Int) < τ 0 23) : ∃ s', F_X11_bindBy c n s = some s' ∧ FrT τ s' ∧ Xo ((tryK τ (pf n) c).2.1, x.2) s' := by
  obtain ⟨hF, hV, hP, hM, hW, hG⟩ := id hT
  have h3 : FrT τ (up2 (up2 s 0 40 0) 0 41 n) := (h.up (Or.inl rfl)).up (Or.inr (Or.inl rfl))
  obtain ⟨sF, sV, sP, sM, sW, sG⟩ := h3.ctx hT
  have hKP := AP.kp hP hF hM hW (hB.ap n hn)
  have hx3 : Xo x (up2 (up2 s 0 40 0) 0 41 n) := (hx.up (Or.inr (Or.inr (Or.inr ⟨rfl, by omega, by omega⟩)))).up (Or.inr (Or.inr (Or.inr ⟨rfl, by omega, by omega⟩)))
  have hN : NodeAt (up2 (up2 s 0 40 0) 0 41 n) pf N n := by
    refine ⟨hB.rts.fr (fun r r1 r2 => h3.r (by omega) (by omega)), hn, h3.sm.eqp.kpE.mpr hKP, ?_, up2_at rfl rfl⟩
    rw [up2_idx (by omega), up2_at rfl rfl]
  obtain ⟨s4, e1, e2, e3, e4, e5, e6⟩ := tryN_c (c := c) sP sF sM sW hN FrW.rfl' hx3 (by rw [h3.2 23 (by decide)]; exact hc)
  rw [h3.sm.eqp.tryKE hP hM hc] at e1 e3
  refine ⟨s4, ?_, h3.try_ e2 e4 e5, e3⟩
  unfold F_X11_bindBy
  rw [bnd_eq, bnd_eq, e1, Option.bind_some]
