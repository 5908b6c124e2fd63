/-! the given program decides by a tree: from the root -/
theorem clear_c {σ : Sg} : KNo (F_X3_clear σ) [] ∧ FrJ σ (F_X3_clear σ) := by
  have e : F_X3_clear σ = fillF (fillF (up2 σ 37 4 0) 38 469 (-1)) 39 469 0 := by
    unfold F_X3_clear
    rw [bnd_eq, bnd_eq, bnd_eq]
  rw [e]
  refine ⟨⟨fun pl p1 p2 => ?_, fun pl p1 p2 => ?_, ?_, fun c hc => ?_⟩, fun r r1 r2 r3 => ?_⟩
  · rw [fillF_row (by omega), fillF_at (by omega)]; rfl
  · rw [fillF_at (by omega)]
    refine ⟨by omega, fun v v1 v2 => ?_⟩
    show nib 0 v = un9 (-9) + 1
    unfold nib un9
    simp
  · rw [fillF_row (by omega), fillF_row (by omega), up2_at rfl rfl]; omega
  · rw [fillF_row (by omega), fillF_row (by omega), up2_at rfl rfl]
    show (0 : Int).toNat.testBit c = false
    simp
  · funext i
    rw [fillF_row (by omega), fillF_row (by omega), up2_row (by omega)]
theorem PF.nil {τ σ : Sg} (h : FC τ σ) : PF τ [] σ := by
  intro q q1 q2 hk0
  by_cases z : q ≤ 3
  · have hc : q ≤ τ 0 21 := by
      unfold kd kdF at hk0
      rw [if_pos z] at hk0
      by_cases w : 1 ≤ q ∧ q ≤ τ 0 21
      · exact w.2
      · rw [if_neg w] at hk0; omega
    have := (h (q - 1).toNat (by omega)).2
    rw [show (((q - 1).toNat : Nat) : Int) + 1 = q by omega] at this
    exact this
  · obtain ⟨b, j, b1, b2, e, b3⟩ := kd_par z hk0
    exfalso
    rw [e, kd_in b1 b2] at hk0
    have hb : hk [] b = -9 := rfl
    unfold kdG at hk0
    rw [hb] at hk0
    split at hk0
    · rw [if_neg (by omega)] at hk0; omega
    · split at hk0
      · rw [if_neg (by omega)] at hk0; omega
      · omega
theorem WI.nil {τ : Sg} {m : Bool} {x : XS} (hl : x.2.2 = []) : WI τ m [] x := by
  refine ⟨trivial, fun pl h => absurd rfl h, fun v pl => by rw [hl]; rfl, ?_⟩
  rw [hl]
  exact ⟨trivial, fun e he => by cases he⟩
set_option maxHeartbeats 4000000 in
theorem decide_t {σ0 τ σ : Sg} {t : Nat} {m : Bool} {pf : Nat → Pth} {S : Nat → Nat} {N B : Nat} {x : XS} (hC : CtxC σ0 τ) (ht : 43 ≤ t) (hD : GD τ σ0 t m pf S N B) (hB : B + 1 ≤ 500) (hx : CR σ0 x σ) (hl : x.2.2 = []) (hfc : FC τ σ) : ∃ σ', F_X7_decide t σ = some (endC (wk τ m 500 [] x).1 (wk τ m 500 [] x).2.1 σ') ∧ CR σ0 (wk τ m 500 [] x).2.2 σ' ∧ JR (wk τ m 500 [] x).2.2.2.2 ∧ ((wk τ m 500 [] x).1 = 0 ∨ (wk τ m 500 [] x).1 = 1 ∨ (wk τ m 500 [] x).1 = 2) ∧ ((wk τ m 500 [] x).1 = 2 ∨ ((wk τ m 500 [] x).2.1 : Int) < τ 0 23) := by
  obtain ⟨k1, k2⟩ := clear_c (σ := σ)
  have h0 := tdec_l hC ht hD hB 500 0 0 501 x (F_X3_clear σ) (by omega) (by rw [hD.1.p0]; rfl) hD.1.pos (by omega) (by rw [hD.1.p0]; exact WI.nil hl) (hx.j k2) (by rw [hD.1.p0]; exact k1) (by
    rw [hD.1.p0]
    intro q q1 q2 hk0
    unfold Fk
    rw [k2 28 (by omega) (by omega) (by omega)]
    exact PF.nil hfc q q1 q2 hk0)
  rw [hD.1.p0] at h0
  obtain ⟨σ', e1, e2, e3, e4, e5⟩ := h0
  refine ⟨σ', ?_, e2, e3, e4, e5⟩
  have e1' : iter (fun a : (Int × Int × Sg) => L_X7_decide_11 t a.1 a.2.1 a.2.2) 501 (0, 0, F_X3_clear σ) = some (.inr (endC (wk τ m 500 [] x).1 (wk τ m 500 [] x).2.1 σ')) := e1
  unfold F_X7_decide
  rw [bnd_eq, e1', Option.bind_some, Sum.elim_inr]
