/-! a run by a tree, in the given program -/
def bnK (σ : Sg) (k : Nat) : Sg := fun r i => if r = 31 ∧ i < k then σ 40 i else σ r i
theorem bnK_s {σ : Sg} {k : Nat} : up2 (bnK σ k) 31 k (σ 40 k) = bnK σ (k + 1) := by
  funext r i
  unfold up2 bnK
  by_cases c : r = 31 ∧ i = k
  · rw [if_pos c, if_pos ⟨c.1, by omega⟩, c.2]
  · rw [if_neg c]
    by_cases c2 : r = 31 ∧ i < k
    · rw [if_pos c2, if_pos ⟨c2.1, by omega⟩]
    · rw [if_neg c2, if_neg (fun z => by
        by_cases q : i = k
        · exact c ⟨z.1, q⟩
        · exact c2 ⟨z.1, by omega⟩)]
theorem bnK_o {σ : Sg} {k r : Nat} (h : ¬ r = 31) : bnK σ k r = σ r := by
  funext i; unfold bnK; rw [if_neg (fun z => h z.1)]
theorem bnd_l {t : Nat} {σ : Sg} : ∀ (d k n : Nat), k + d = 6 → d < n → iter (fun a : (Int × Sg) => L_X7_bindNames_11 t a.1 a.2) n ((k : Int), bnK σ k) = some (bnK σ 6)
  | 0, k, n, hk, hn => by
    obtain ⟨n, rfl⟩ : ∃ z, n = z + 1 := ⟨n - 1, by omega⟩
    have : k = 6 := by omega
    rw [iter_r (b := bnK σ 6) (by
      show L_X7_bindNames_11 t k (bnK σ k) = _
      unfold L_X7_bindNames_11
      rw [if_pos (by omega), this])]
  | d + 1, k, n, hk, hn => by
    obtain ⟨n, rfl⟩ : ∃ z, n = z + 1 := ⟨n - 1, by omega⟩
    rw [iter_l (f := fun a : (Int × Sg) => L_X7_bindNames_11 t a.1 a.2) (a := ((k : Int), bnK σ k)) (a' := (((k + 1 : Nat) : Int), bnK σ (k + 1))) (by
      show L_X7_bindNames_11 t k (bnK σ k) = _
      unfold L_X7_bindNames_11 F_X1_bind F_X3_placeOf
      rw [if_neg (by omega), rdD_ok (by omega) (by omega), wrD_ok (by omega) (by omega), bnd_eq, bnd_eq, bnK_o (by omega), show ((k : Int)).toNat = k by omega, bnK_s, wrap_id (by omega) (by omega)]
      rfl)]
    exact bnd_l d (k + 1) n (by omega) (by omega)
set_option maxHeartbeats 4000000 in
theorem bindNames_c {σ0 σ τ : Sg} {t c : Nat} {P : Pth} {x : XS} (hC : CtxC σ0 τ) (hx : CR σ0 x σ) (hK : KNo σ P) (hKP : KP τ P) (hc : (c : Int) < τ 0 23) : ∃ σ', F_X7_bindNames t c σ = some σ' ∧ CR σ0 ((tryK τ P c).2.1, x.2) σ' ∧ KNo σ' P ∧ σ' 28 = σ 28 := by
  have hCK : CtxK σ τ P := ⟨hC.rp hx.1, hC.rm hx.1, hC.1.2.2.2, WFW_of hC.2.2.2.1, hKP, hK⟩
  obtain ⟨σ1, e1, k1, k2, k3⟩ := tryCase_cl hCK hc FrK.rfl'
  have hl := bnd_l (t := t) (σ := σ1) 6 0 7 (by omega) (by omega)
  have hb0 : bnK σ1 0 = σ1 := by
    funext r i; unfold bnK; rw [if_neg (by omega)]
  rw [hb0] at hl
  have hl' : iter (fun a : (Int × Sg) => L_X7_bindNames_11 t a.1 a.2) 7 (0, σ1) = some (bnK σ1 6) := hl
  have hrow : ∀ r, ¬ r = 31 → ¬ r = 37 → ¬ r = 40 → bnK σ1 6 r = σ r := fun r r1 r2 r3 => by rw [bnK_o r1, k1.1 r r2 r3]
  obtain ⟨c1, c2, c3, c4, c5, c6⟩ := hx
  refine ⟨bnK σ1 6, ?_, ⟨⟨fun r hr => ?_, fun i hi => ?_⟩, fun i hi => ?_, ?_, ?_, rnc_congr (hrow 30 (by omega) (by omega) (by omega)) c5, c6.congr (hrow 29 (by omega) (by omega) (by omega))⟩, ?_, hrow 28 (by omega) (by omega) (by omega)⟩
  · unfold F_X7_bindNames
    rw [e1, Option.bind_some]
    dsimp only
    rw [hl', Option.bind_some]
  · have h31 : ¬ r = 31 := fun z => hr (by rw [z]; decide)
    have h37 : ¬ r = 37 := fun z => hr (by rw [z]; decide)
    have h40 : ¬ r = 40 := fun z => hr (by rw [z]; decide)
    rw [hrow r h31 h37 h40]; exact c1.1 r hr
  · rw [hrow 33 (by omega) (by omega) (by omega)]; exact c1.2 i hi
  · unfold bnK; rw [if_pos ⟨rfl, hi⟩]; exact k2 i hi
  · rw [hrow 27 (by omega) (by omega) (by omega)]; exact c3
  · rw [hrow 27 (by omega) (by omega) (by omega)]; exact c4
  · obtain ⟨a, b, d, e⟩ := hK
    refine ⟨fun pl p1 p2 => by rw [hrow 38 (by omega) (by omega) (by omega)]; exact a pl p1 p2, b.congr (hrow 39 (by omega) (by omega) (by omega)), ?_, ?_⟩
    · rw [bnK_o (by omega), k1.2 4 (by omega) (by omega) (by omega)]; exact d
    · rw [bnK_o (by omega), k1.2 4 (by omega) (by omega) (by omega)]; exact e
/-- the values at the places whose kind is known are found -/
def PF (τ : Sg) (P : Pth) (σ : Sg) : Prop := ∀ q, 1 ≤ q → q ≤ 468 → 0 ≤ kd τ (hk P) q → Fk τ σ q
theorem CR.j {σ0 σ σ' : Sg} {x : XS} (h : CR σ0 x σ) (hj : FrJ σ σ') : CR σ0 x σ' := by
  obtain ⟨c1, c2, c3, c4, c5, c6⟩ := h
  refine ⟨c1.same (fun r hr => hj r (fun z => hr (by rw [z]; decide)) (fun z => hr (by rw [z]; decide)) (fun z => hr (by rw [z]; decide))) (fun i hi => by rw [hj 33 (by omega) (by omega) (by omega)]), fun i hi => ?_, ?_, ?_, rnc_congr (hj 30 (by omega) (by omega) (by omega)) c5, c6.congr (hj 29 (by omega) (by omega) (by omega))⟩
  · rw [hj 31 (by omega) (by omega) (by omega)]; exact c2 i hi
  · rw [hj 27 (by omega) (by omega) (by omega)]; exact c3
  · rw [hj 27 (by omega) (by omega) (by omega)]; exact c4
/-- what a branch of a head opens -/
theorem PF.head {τ σ σ' : Sg} {P : Pth} {a : Ask} {i : Nat} (hF : WFK (τ 1) (τ 2) (τ 3)) (hM : WFM τ) (hKP : KP τ P) (hKP' : KP τ ((a, i) :: P)) (hvr : ∀ q, 1 ≤ q → q ≤ 468 → 0 ≤ kd τ (hk ((a, i) :: P)) q → vR τ q) (h : PF τ P σ) (hm : Fmono τ σ σ') (ho : ∀ j : Int, 0 ≤ j → j ≤ 2 → vR τ (5 * a.2.1 + j + 1) → Fk τ σ' (5 * a.2.1 + j + 1)) : PF τ ((a, i) :: P) σ' := by
  intro q q1 q2 hk0
  have hv := hvr q q1 q2 hk0
  by_cases z : q ≤ 3
  · have hcol : 0 ≤ kd τ (hk P) q := by
      unfold kd kdF at hk0 ⊢
      rw [if_pos z] at hk0 ⊢
      exact hk0
    exact hm q hv (h q q1 q2 hcol)
  · obtain ⟨b, j, b1, b2, e, b3⟩ := kd_par z hk0
    have hkd := hk0
    rw [e, kd_in b1 b2] at hkd
    have hH' := hKP'.hok hF hM
    -- the head of what it is in is known
    have hkn : ¬ hk ((a, i) :: P) b = -9 := fun w => by
      unfold kdG at hkd
      rw [w] at hkd
      split at hkd
      · rw [if_neg (by omega)] at hkd; omega
      · split at hkd
        · rw [if_neg (by omega)] at hkd; omega
        · omega
    have hbb := KP.ent hF hM hKP' b hkn
    have hj2 : j ≤ 2 := by
      unfold kdG at hkd
      split at hkd
      · rename_i k5
        have := hbb.2.2.2.2.1 k5
        by_cases w : j < hk ((a, i) :: P) b
        · omega
        · rw [if_neg w] at hkd; omega
      · split at hkd
        · rename_i k03
          by_cases w : 0 ≤ hk ((a, i) :: P) b ∧ hk ((a, i) :: P) b < τ 1 (kd τ (hk ((a, i) :: P)) b).toNat ∧ j < τ 2 (4 * kd τ (hk ((a, i) :: P)) b + hk ((a, i) :: P) b).toNat
          · have hf := hF.2 (kd τ (hk ((a, i) :: P)) b).toNat (hk ((a, i) :: P) b).toNat (by omega) (by omega)
            rw [show 4 * (kd τ (hk ((a, i) :: P)) b).toNat + (hk ((a, i) :: P) b).toNat = (4 * kd τ (hk ((a, i) :: P)) b + hk ((a, i) :: P) b).toNat by omega] at hf
            omega
          · rw [if_neg w] at hkd; omega
        · omega
    by_cases g : a.1 = 3 ∧ a.2.1 = b
    · rw [e, ← g.2] at hv ⊢
      exact ho j b2.1 hj2 hv
    · have hpb : hk ((a, i) :: P) b = hk P b := by
        show (if a.1 = 3 ∧ a.2.1 = b then (i : Int) else hk P b) = hk P b
        rw [if_neg g]
      rw [hpb] at hkn
      have hb0 := (KP.ent hF hM hKP b hkn).2.1
      have hkb : kd τ (hk ((a, i) :: P)) b = kd τ (hk P) b := hKP'.kdE hb0
      refine hm q hv (h q q1 q2 ?_)
      rw [e, kd_in b1 b2]
      rw [hkb] at hkd
      unfold kdG at hkd ⊢
      rw [hpb] at hkd
      exact hkd
