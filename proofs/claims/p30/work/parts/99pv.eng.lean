/-! the law's agreement of the engines -/
section AGR
variable {σ τ τ0 : Sg} {a b : Int} {X : Int × Nat × XS}
theorem v_eq {p : Sg} {T v : Int} (h : RelW σ τ) (bs : Bs τ0 τ) (hs : Seen σ X.1 X.2.1 (X.2.2.1, T, X.2.2.2.2) v p) (x5 : X.1 = 0 ∨ X.1 = 1 ∨ X.1 = 2) (x6 : X.1 = 2 ∨ (X.2.1 : Int) < τ0 0 23) : v = if X.1 = 2 then -1 else if X.1 = 1 then -2 else τ0 21 X.2.1 := by
  have s23 := bs.2.1.2.2.1
  rw [hs.2.2.2.2.2]
  rcases x5 with x5 | x5 | x5
  · rw [if_neg (by omega), if_neg (by omega), if_neg (by omega), if_neg (by omega)]
    have hm := (h.1.2.2.2.2.1.2.2.2.2 X.2.1 (by omega)).2.1
    rw [hm, bs.1 21 (by omega) (by omega)]
  · rw [if_neg (by omega), if_pos x5, if_neg (by omega), if_pos x5]
  · rw [if_pos x5, if_pos x5]
def AT (a b : Int) (τ τ' : Sg) : Prop := ∃ v t1 v2 t2 t3, B_X11_run_221 0 a b (-1) 0 (nrm τ) = some (v, t1) ∧ B_X11_run_221 1 a b (-1) 0 (nrm t1) = some (v2, t2) ∧ DT 2 a b (-1) (nrm t2) t3 ∧ DT 3 a b (-1) t3 τ'
theorem AT.det {τ' τ2 : Sg} (h : AT a b τ τ') (h2 : AT a b τ τ2) : τ' = τ2 := by
  obtain ⟨v, t1, v2, t2, t3, a1, a2, a3, a4⟩ := h
  obtain ⟨w, s1, w2, s2, s3, b1, b2, b3, b4⟩ := h2
  rw [a1] at b1
  cases b1
  rw [a2] at b2
  cases b2
  have e := a3.det b3
  subst e
  exact a4.det b4
def Fits (τ : Sg) (a b : Int) : Prop := FitV τ a b (-1) ∧ FitK τ a b (-1) ∧ ¬ τ 0 21 ≤ 0
/-- a run refused is refused by all -/
theorem run_ref (h : RelW σ τ) (hf : ¬ Fits τ a b) : ∃ E : Nat, E ≤ 2 ∧ ∀ e, 0 ≤ e ∧ e ≤ 3 → wrq [0, 1, 2] (F_X10_run e a b (-1) σ) = some (cdE E, σ) := by
  by_cases hv : FitV τ a b (-1)
  · by_cases hk : FitK τ a b (-1)
    · have h0 : τ 0 21 ≤ 0 := by
        by_cases z : τ 0 21 ≤ 0
        · exact z
        · exact absurd ⟨hv, hk, z⟩ hf
      exact ⟨2, by omega, fun e he => by unfold wrq; rw [run_nil h he hv hk h0]; rfl⟩
    · exact ⟨1, by omega, fun e he => by unfold wrq; rw [run_ill h he hv hk]; rfl⟩
  · exact ⟨0, by omega, fun e he => by unfold wrq; rw [run_no h he hv]; rfl⟩
theorem cdE_lo {E : Nat} : cdE E ≤ -2000000001 := by unfold cdE; split <;> (try split) <;> omega
theorem tk_step {f g : Sg} {D : Nat} {r : Int} {c : Nat} (hD : D ≤ 8) (h : (r = 0 ∧ ∀ d : Nat, d < 8 → g 26 (8 * d + 7) = f 26 (8 * d + 7)) ∨ (r = 1 ∧ c < D ∧ ∀ d : Nat, d < 8 → g 26 (8 * d + 7) = if d = c then wrap (f 26 (8 * d + 7) + 1) else f 26 (8 * d + 7))) : sumW (fun j => g 26 (8 * j.toNat + 7)) D 0 0 = wrap (sumW (fun j => f 26 (8 * j.toNat + 7)) D 0 0 + r) := by
  refine sum_step ?_
  rcases h with ⟨r0, h⟩ | ⟨r1, hc, h⟩
  · exact Or.inl ⟨r0, fun j j1 j2 => h j.toNat (by omega)⟩
  · refine Or.inr ⟨r1, c, by omega, by omega, ?_, fun j j1 j2 j3 => ?_⟩
    · show g 26 (8 * (c : Int).toNat + 7) = _
      rw [Int.toNat_natCast, h c (by omega), if_pos rfl]
    · show g 26 (8 * j.toNat + 7) = _
      rw [h j.toNat (by omega), if_neg (by omega)]
set_option maxHeartbeats 2000000 in
theorem agr1 {l : Launch} (hl : l.stackTraces = false) {ν : Sg} {x : Int} (h : RelW σ τ) (q : Qr σ) (hc : Cn ν τ) : ∃ (p τ' : Sg), RelW p τ' ∧ Sm τ τ' ∧ ((¬ Fits τ (agF x (ν 0 0)) (agS x (ν 0 0) (ν 0 3)) ∧ τ' = τ) ∨ (Fits τ (agF x (ν 0 0)) (agS x (ν 0 0) (ν 0 3)) ∧ AT (agF x (ν 0 0)) (agS x (ν 0 0) (ν 0 3)) τ τ')) ∧
    ∀ (d : Nat) (ax : List Nat) (an a0 : Nat), 161 ≤ d → ax[0]? = some a0 → LC l d 64 m_L_agrees.2.1 (wsM m_L_agrees.2.1 m_L_agrees.2.2.1 m_L_agrees.2.2.2.1 m_L_agrees.2.2.2.2) [.inr 0, .inr 1, .inl x] [a0, an] [(ax, LAYC), FN an] [σ, ν] (some 1) [p, ν] := by
  have hb := rel_b h
  have hn2 : ν 0 2 = τ 0 23 := hc.2.2.1
  generalize hA : agF x (ν 0 0) = A
  generalize hB : agS x (ν 0 0) (ν 0 3) = B
  by_cases hf : Fits τ A B
  · obtain ⟨hv, hk, h0⟩ := id hf
    obtain ⟨n1, n2⟩ := nrm_ok h q
    have bs : Bs τ (nrm τ) := Bs.nrm (fun _ _ _ => rfl) Sm.rfl'
    obtain ⟨X, hX⟩ := get_x (a := A) (b := B) (c := -1) n1 n2 bs hv hk h0
    obtain ⟨-, -, -, -, -, -, x5, x6⟩ := id hX
    obtain ⟨v, p0, t1, g1, g2, g3, g4, g5, g6, g7⟩ := step_lo (e := 0) hX n1 n2 bs q (by omega) hv hk h0
    obtain ⟨v2, p1, t2, i1, i2, i3, i4, i5, i6, i7⟩ := step_lo (e := 1) hX g3 g4 g5 g6 (by omega) hv hk h0
    have ev := v_eq n1 bs g7 x5 x6
    have ev2 := v_eq g3 g5 i7 x5 x6
    have o0 := ob_of g7
    have o1 := ob_of i7
    have hc3 := g3.1.2.2.2.2.2
    have hlen : X.2.2.2.2.length ≤ 360 := by
      have z1 := hc3.2.1
      have z2 := hc3.2.2.1
      rw [o0.2.1] at z1
      omega
    have hT0 : inR X.2.2.2.1 := by rw [← o0.1]; exact g6.1
    have hx0 : X.1 = 0 → 0 ≤ τ 21 X.2.1 := fun z => ((h.wf.2.2.1.2.2.2.2 X.2.1 (by omega)).2.1).1
    obtain ⟨pl, b1⟩ := bou_ex (a := jrem x 3) (p := p0)
    obtain ⟨gv, b2⟩ := vie_ex (a := 0) (p := p0)
    obtain ⟨lst, b3⟩ := vie_ex (a := wrap ((X.2.2.2.2.length : Int) - 1)) (p := p0)
    obtain ⟨q2, u2, r2, j1, j2, j3, j4, j5, j6, j7⟩ := step_tr (t := 43) (m := false) (Or.inl ⟨rfl, rfl, rfl⟩) hX i3 i4 i5 i6 hv hk h0 hlen hT0 o0 b1 b2 b3 ev hx0
    obtain ⟨q3, u3, r3, k1, k2, k3, k4, k5, k6, k7⟩ := step_tr (t := 49) (m := true) (Or.inr ⟨rfl, rfl, rfl⟩) hX j2 j3 j4 j5 hv hk h0 hlen hT0 o0 b1 b2 b3 ev hx0
    have hvt : (-2 : Int) ≤ v := by
      rw [ev]
      rcases x5 with z | z | z
      · have := hx0 z
        rw [if_neg (by omega), if_neg (by omega)]; omega
      · rw [if_neg (by omega), if_pos z]; omega
      · rw [if_pos z]; omega
    have hv0 : 0 ≤ v ↔ X.1 = 0 := by
      rw [ev]
      rcases x5 with z | z | z
      · have := hx0 z
        rw [if_neg (by omega), if_neg (by omega)]; omega
      · rw [if_neg (by omega), if_pos z]; omega
      · rw [if_pos z]; omega
    have hr0 : wrq [0, 1, 2] (F_X10_run 0 A B (-1) σ) = some (v, p0) := by unfold wrq; rw [g1]; rfl
    have hr1 : wrq [0, 1, 2] (F_X10_run 1 A B (-1) p0) = some (v, p1) := by unfold wrq; rw [i1, ev2, ← ev]; rfl
    have hD8 : (ν 0 2).toNat ≤ 8 := by omega
    have hcX : X.1 = 0 → X.2.1 < (ν 0 2).toNat := fun z => by omega
    have m1 : sumW (fun j => p1 26 (8 * j.toNat + 7)) (ν 0 2).toNat 0 0 = wrap (sumW (fun j => p0 26 (8 * j.toNat + 7)) (ν 0 2).toNat 0 0 + (if 0 ≤ v then 1 else 0 : Int)) := by
      have hs := i7.2.2.2.2.1
      refine tk_step (c := X.2.1) hD8 ?_
      by_cases z : X.1 = 0
      · rw [if_pos (hv0.mpr z)]
        refine Or.inr ⟨rfl, hcX z, fun d hd => ?_⟩
        rw [hs d hd]
        by_cases y : d = X.2.1
        · rw [if_pos ⟨z, y⟩, if_pos y]
        · rw [if_neg (fun g => y g.2), if_neg y]
      · rw [if_neg (fun g => z (hv0.mp g))]
        exact Or.inl ⟨rfl, fun d hd => by rw [hs d hd, if_neg (fun g => z g.1)]⟩
    have m2 := tk_step (f := p1) (g := q2) (r := r2) (c := X.2.1) hD8 (j7.imp id (fun g => ⟨g.1, hcX g.2.1, g.2.2⟩))
    have m3 := tk_step (f := q2) (g := q3) (r := r3) (c := X.2.1) hD8 (k7.imp id (fun g => ⟨g.1, hcX g.2.1, g.2.2⟩))
    refine ⟨q3, u3, k2, k4.2.1, Or.inr ⟨hf, v, t1, v2, t2, u2, g2, i2, j6, k6⟩, fun d ax an a0 hd hax => ?_⟩
    subst hA hB
    have s23 := g5.2.1.2.2.1
    have s23' := k4.2.1.2.2.1
    refine lc_agreesB l hl d hd ax an a0 hax ν x v X.2.2.2.1 (X.2.2.2.2.length : Int) pl gv lst (wrap (0 + (if 0 ≤ v then 1 else 0 : Int))) (wrap (wrap (0 + (if 0 ≤ v then 1 else 0 : Int)) + r2)) (wrap (wrap (wrap (0 + (if 0 ≤ v then 1 else 0 : Int)) + r2) + r3)) σ p0 p1 q2 q3 (by omega) hr0 hvt o0.1 o0.2.1 (fun j => p0 26 (8 * j.toNat + 7)) (fun j => q3 26 (8 * j.toNat + 7)) (fun j y1 y2 => tak_v g3 j y1 (by omega)) b1 b2 b3 hr1 ⟨o1.2.1, ob_vie o0 o1 hlen b2, ob_vie o0 o1 hlen b3, ob_bou o0 o1 b1, o1.1⟩ rfl (j1 _) (k1 _) (fun j y1 y2 => tak_v k2 j y1 (by omega)) (ν 0 2).toNat (by omega) hD8 ?_
    rw [m3, m2, m1]
    generalize sumW (fun j => p0 26 (8 * j.toNat + 7)) (ν 0 2).toNat 0 0 = S
    generalize (if 0 ≤ v then 1 else 0 : Int) = r1
    rw [wrap_wl, wrap_wr, wrap_wr, Int.zero_add]
    unfold wrap
    omega
  · obtain ⟨E, hE, hrun⟩ := run_ref h hf
    refine ⟨σ, τ, h, Sm.rfl', Or.inl ⟨hf, rfl⟩, fun d ax an a0 hd hax => ?_⟩
    subst hA hB
    have hlo := cdE_lo (E := E)
    exact lc_agreesA l hl d hd ax an a0 hax ν x (cdE E) (cdE E) σ σ σ σ (hrun 0 (by omega)) (by omega) (hrun 1 (by omega)) (hrun 2 (by omega)) (by omega)
theorem qr_of (h : inRs σ) : Qr σ := ⟨h 27 3, fun d _ => h 26 (8 * d + 7)⟩
theorem inv_agrees {l : Launch} (hl : l.stackTraces = false) {σ1 σ2 ν : Sg} (x : Int) (h : Inv2 σ1 σ2 ν) (hr : RBs [σ1, σ2, ν]) : ∃ p1 p2 : Sg, Inv2 p1 p2 ν ∧ (∀ (d : Nat) (ax : List Nat) (an a0 : Nat), 161 ≤ d → ax[0]? = some a0 → LC l d 64 m_L_agrees.2.1 (wsM m_L_agrees.2.1 m_L_agrees.2.2.1 m_L_agrees.2.2.2.1 m_L_agrees.2.2.2.2) [.inr 0, .inr 1, .inl x] [a0, an] [(ax, LAYC), FN an] [σ1, ν] (some 1) [p1, ν]) ∧ ∀ (d : Nat) (ax : List Nat) (an a0 : Nat), 161 ≤ d → ax[0]? = some a0 → LC l d 64 m_L_agrees.2.1 (wsM m_L_agrees.2.1 m_L_agrees.2.2.1 m_L_agrees.2.2.2.1 m_L_agrees.2.2.2.2) [.inr 0, .inr 1, .inl x] [a0, an] [(ax, LAYC), FN an] [σ2, ν] (some 1) [p2, ν] := by
  obtain ⟨τ, h1, h2, hc⟩ := h
  obtain ⟨p1, t1, a1, a2, a3, a4⟩ := agr1 hl (x := x) h1 (qr_of (rbs_1 hr)) hc
  obtain ⟨p2, t2, b1, b2, b3, b4⟩ := agr1 hl (x := x) h2 (qr_of (rbs_2 hr)) hc
  have e : t1 = t2 := by
    rcases a3 with ⟨c1, c2⟩ | ⟨c1, c2⟩
    · rcases b3 with ⟨d1, d2⟩ | ⟨d1, d2⟩
      · rw [c2, d2]
      · exact absurd d1 c1
    · rcases b3 with ⟨d1, d2⟩ | ⟨d1, d2⟩
      · exact absurd c1 d1
      · exact c2.det d2
  subst e
  refine ⟨p1, p2, ⟨t1, a1, b1, ?_⟩, a4, b4⟩
  unfold Cn Sm at *
  omega
end AGR
theorem law_h {l : Launch} (hl : l.stackTraces = false) : LawH l Inv2 :=
  ⟨fun {σ1 σ2 ν} x h hr h0 h1 => inv_act x h hr h0 h1, fun {σ1 σ2 ν} x h hr hx d ax an a0 hd hax => by
    obtain ⟨τ, h1, h2, hc⟩ := h
    exact ref_ok hl h2 hc hx d ax an a0 hd hax, fun {σ1 σ2 ν} x h hr h0 h1 => inv_alike hl x h hr, fun {σ1 σ2 ν} x h hr h0 h1 => inv_agrees hl x h hr⟩
