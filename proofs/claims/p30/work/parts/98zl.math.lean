/-! what is asked, in bits; what a branch tells, taken as known -/
def enA (a : Ask) : Int := a.1 + 8 * a.2.2 + 64 * a.2.1
def okAs (a : Ask) : Prop := (0 ≤ a.1 ∧ a.1 ≤ 5) ∧ (0 ≤ a.2.1 ∧ a.2.1 ≤ 468) ∧ (0 ≤ a.2.2 ∧ a.2.2 ≤ 5)
theorem enA_n {x y z : Nat} (h1 : x ≤ 5) (h2 : y ≤ 468) (h3 : z ≤ 5) : jor (jor (x : Int) (jshl (z : Int) 3)) (jshl (y : Int) 6) = ((x + 8 * z + 64 * y : Nat) : Int) ∧ jand ((x + 8 * z + 64 * y : Nat) : Int) 7 = (x : Int) ∧ jand (jshr ((x + 8 * z + 64 * y : Nat) : Int) 3) 7 = (z : Int) ∧ jshr ((x + 8 * z + 64 * y : Nat) : Int) 6 = (y : Int) := by
  have e1 : jshl (z : Int) 3 = ((z * 2 ^ 3 : Nat) : Int) := jshl_n (x := z) (k := 3) (by omega) (by omega)
  have e2 : jshl (y : Int) 6 = ((y * 2 ^ 6 : Nat) : Int) := jshl_n (x := y) (k := 6) (by omega) (by omega)
  have e3 : jshr ((x + 8 * z + 64 * y : Nat) : Int) 3 = (((x + 8 * z + 64 * y) / 2 ^ 3 : Nat) : Int) := jshr_n (k := 3) (by omega) (by omega)
  have e4 : jshr ((x + 8 * z + 64 * y : Nat) : Int) 6 = (((x + 8 * z + 64 * y) / 2 ^ 6 : Nat) : Int) := jshr_n (k := 6) (by omega) (by omega)
  have e5 : jand ((x + 8 * z + 64 * y : Nat) : Int) 7 = (((x + 8 * z + 64 * y) % 2 ^ 3 : Nat) : Int) := jand_m (x := x + 8 * z + 64 * y) (k := 3) (by omega) (by omega)
  have e6 : jand (((x + 8 * z + 64 * y) / 2 ^ 3 : Nat) : Int) 7 = (((x + 8 * z + 64 * y) / 2 ^ 3 % 2 ^ 3 : Nat) : Int) := jand_m (x := (x + 8 * z + 64 * y) / 2 ^ 3) (k := 3) (by omega) (by omega)
  refine ⟨?_, ?_, ?_, ?_⟩
  · rw [e1, e2, jor_add (k := 3) (by omega) (by omega), jor_add (k := 6) (by omega) (by omega)]
    omega
  · rw [e5]; omega
  · rw [e3, e6]; omega
  · rw [e4]; omega
theorem enA_c {a : Ask} (h : okAs a) : jor (jor a.1 (jshl a.2.2 3)) (jshl a.2.1 6) = enA a ∧ jand (enA a) 7 = a.1 ∧ jand (jshr (enA a) 3) 7 = a.2.2 ∧ jshr (enA a) 6 = a.2.1 := by
  obtain ⟨⟨h1, h2⟩, ⟨h3, h4⟩, h5, h6⟩ := h
  have e := enA_n (x := a.1.toNat) (y := a.2.1.toNat) (z := a.2.2.toNat) (by omega) (by omega) (by omega)
  rw [show ((a.1.toNat : Nat) : Int) = a.1 by omega, show ((a.2.1.toNat : Nat) : Int) = a.2.1 by omega, show ((a.2.2.toNat : Nat) : Int) = a.2.2 by omega, show ((a.1.toNat + 8 * a.2.2.toNat + 64 * a.2.1.toNat : Nat) : Int) = enA a by unfold enA; omega] at e
  exact e
theorem enA_inj {a b : Ask} (ha : okAs a) (hb : okAs b) (h : enA a = enA b) : a = b := by
  obtain ⟨-, a1, a2, a3⟩ := enA_c ha
  obtain ⟨-, b1, b2, b3⟩ := enA_c hb
  rw [h] at a1 a2 a3
  exact Prod.ext (a1.symm.trans b1) (Prod.ext (a3.symm.trans b3) (a2.symm.trans b2))
theorem sortOf_t {σ : Sg} {t n : Nat} {a : Ask} (h : σ (t + 1) n = enA a) (ha : okAs a) (hn : n < 500) : F_X7_sortOf t n σ = a.1 ∧ F_X7_whatOf t n σ = a.2.1 ∧ F_X7_whichOf t n σ = a.2.2 := by
  obtain ⟨-, a1, a2, a3⟩ := enA_c ha
  unfold F_X7_sortOf F_X7_whatOf F_X7_whichOf
  rw [rdD_ok (by omega) (by omega), show ((n : Int)).toNat = n by omega, h]
  exact ⟨a1, a3, a2⟩
/-- two ways of knowing that differ in one ask at most -/
def Ex (a : Ask) (Q Q' : Pth) : Prop := (∀ pl, ¬ (a.1 = 3 ∧ a.2.1 = pl) → hk Q' pl = hk Q pl) ∧ (∀ v pl, ¬ (a.1 = 4 ∧ a.2.1 = pl ∧ a.2.2 = v) → vk Q' v pl = vk Q v pl) ∧ (∀ c : Nat, ¬ (a.1 = 5 ∧ a.2.1 = (c : Int)) → fk Q' c = fk Q c)
theorem Ex.symm {a : Ask} {Q Q' : Pth} (h : Ex a Q Q') : Ex a Q' Q := ⟨fun pl q => (h.1 pl q).symm, fun v pl q => (h.2.1 v pl q).symm, fun c q => (h.2.2 c q).symm⟩
theorem Ex.trans {a : Ask} {Q Q' Q'' : Pth} (h : Ex a Q Q') (h' : Ex a Q' Q'') : Ex a Q Q'' := ⟨fun pl q => (h'.1 pl q).trans (h.1 pl q), fun v pl q => (h'.2.1 v pl q).trans (h.2.1 v pl q), fun c q => (h'.2.2 c q).trans (h.2.2 c q)⟩
theorem Ex.rfl' {a : Ask} {Q : Pth} : Ex a Q Q := ⟨fun _ _ => rfl, fun _ _ _ => rfl, fun _ _ => rfl⟩
theorem Ex.cons {a : Ask} {i : Nat} {P : Pth} : Ex a P ((a, i) :: P) := by
  refine ⟨fun pl q => ?_, fun v pl q => ?_, fun c q => ?_⟩
  · show (if a.1 = 3 ∧ a.2.1 = pl then (i : Int) else hk P pl) = _
    rw [if_neg q]
  · show (if a.1 = 4 ∧ a.2.1 = pl ∧ a.2.2 = v then (i : Int) else vk P v pl) = _
    rw [if_neg q]
  · show (decide (a.1 = 5 ∧ a.2.1 = (c : Int) ∧ 0 < i) || fk P c) = _
    rw [decide_eq_false (fun z => q ⟨z.1, z.2.1⟩), Bool.false_or]
theorem bit_s : ∀ (c : Fin 8) (M : Fin 256), jor ((M.val : Nat) : Int) (jshl 1 ((c.val : Nat) : Int)) = ((M.val ||| 2 ^ c.val : Nat) : Int) := by decide +kernel
theorem bit_u : ∀ (c : Fin 8) (M : Fin 256), jand ((M.val : Nat) : Int) (jxor (jshl 1 ((c.val : Nat) : Int)) (-1)) = ((M.val &&& (255 - 2 ^ c.val) : Nat) : Int) ∧ (M.val &&& (255 - 2 ^ c.val)) < 256 ∧ ∀ j : Fin 8, (M.val &&& (255 - 2 ^ c.val)).testBit j.val = (M.val.testBit j.val && !decide (j = c)) := by decide +kernel
def FrJ (σ σ' : Sg) : Prop := ∀ r, ¬ r = 37 → ¬ r = 38 → ¬ r = 39 → σ' r = σ r
set_option maxHeartbeats 4000000 in
theorem learn_k {σ : Sg} {t n : Nat} {a : Ask} {d : Int} {Q Q' : Pth} (h1 : σ (t + 1) n = enA a) (hn : n < 500) (ha : okAs a) (hK : KNo σ Q) (hE : Ex a Q Q') (h3 : a.1 = 3 → 1 ≤ a.2.1 ∧ un9 (hk Q' a.2.1) = d) (h4 : a.1 = 4 → 1 ≤ a.2.1 ∧ a.2.2 ≤ 2 ∧ un9 (vk Q' a.2.2 a.2.1) = d ∧ -1 ≤ d ∧ d ≤ 9) (h5 : a.1 = 5 → a.2.1 < 8 ∧ fk Q' a.2.1.toNat = decide (d = 1)) (h012 : a.1 < 3 → Q' = Q) : KNo (F_X7_learn t n d σ) Q' ∧ FrJ σ (F_X7_learn t n d σ) := by
  obtain ⟨s1, s2, s3⟩ := sortOf_t h1 ha hn
  obtain ⟨k1, k2, k3, k4⟩ := hK
  obtain ⟨x1, x2, x3⟩ := hE
  unfold F_X7_learn
  rw [s1, s2, s3, bnd_eq]
  by_cases c3 : a.1 = 3
  · obtain ⟨b1, b2⟩ := h3 c3
    unfold F_X3_learnHead
    rw [if_pos c3, wrD_ok (by have := ha.2.1; omega) (by have := ha.2.1; omega), bnd_eq, bnd_eq]
    refine ⟨⟨fun pl p1 p2 => ?_, ?_, ?_, fun c hc => ?_⟩, fun r r1 r2 r3 => by funext j; rw [up2_row r2]⟩
    · by_cases q : pl = a.2.1.toNat
      · rw [up2_at rfl q, show ((pl : Nat) : Int) = a.2.1 by omega, b2]
      · rw [up2_idx q, k1 pl p1 p2, x1 pl (fun z => q (by omega))]
    · refine GN.congr (σ := σ) ?_ (by funext j; rw [up2_row (by omega)])
      intro q q1 q2
      obtain ⟨e1, e2⟩ := k2 q q1 q2
      exact ⟨e1, fun v v1 v2 => by rw [e2 v v1 v2, x2 v q (fun z => by have := z.1; omega)]⟩
    · rw [up2_row (by omega)]; exact k3
    · rw [up2_row (by omega), k4 c hc, x3 c (fun z => by have := z.1; omega)]
  rw [if_neg c3]
  by_cases c4 : a.1 = 4
  · obtain ⟨b1, b2, b3, b4⟩ := h4 c4
    have ha2 := ha.2
    obtain ⟨p1, p2⟩ := k2.put (v := a.2.2) (pl := a.2.1) (d := d) (F' := vk Q') ⟨ha2.2.1, b2⟩ ⟨b1, ha2.1.2⟩ b4 b3 (fun u q z => x2 u q (fun y => z ⟨y.2.2.symm, y.2.1.symm⟩))
    unfold F_X3_learnGiven
    rw [if_pos c4, bnd_eq, bnd_eq]
    have hrow : ∀ r, ¬ r = 39 → F_X10_putGiven 39 a.2.2 a.2.1 d σ r = σ r := fun r hr => by rw [p1]; funext j; rw [up2_row hr]
    refine ⟨⟨fun pl q1 q2 => ?_, p2, ?_, fun c hc => ?_⟩, fun r r1 r2 r3 => hrow r r3⟩
    · rw [hrow 38 (by omega), k1 pl q1 q2, x1 pl (fun z => c3 z.1)]
    · rw [hrow 37 (by omega)]; exact k3
    · rw [hrow 37 (by omega), k4 c hc, x3 c (fun z => by have := z.1; omega)]
  rw [if_neg c4]
  by_cases c5 : a.1 = 5
  · obtain ⟨b1, b2⟩ := h5 c5
    have ha1 := ha.2.1
    rw [if_pos c5]
    have hGN : ∀ v : Int, GN (up2 σ 37 4 v) 39 (vk Q') := fun v => by
      refine GN.congr (σ := σ) ?_ (by funext j; rw [up2_row (by omega)])
      intro q q1 q2
      obtain ⟨e1, e2⟩ := k2 q q1 q2
      exact ⟨e1, fun v v1 v2 => by rw [e2 v v1 v2, x2 v q (fun z => by have := z.1; omega)]⟩
    have hgen : ∀ M : Nat, M < 256 → (∀ c : Nat, c < 8 → M.testBit c = fk Q' c) → KNo (up2 σ 37 4 (M : Int)) Q' ∧ FrJ σ (up2 σ 37 4 (M : Int)) := fun M hM hb => by
      refine ⟨⟨fun pl q1 q2 => ?_, hGN _, ?_, fun c hc => ?_⟩, fun r r1 r2 r3 => by funext j; rw [up2_row r1]⟩
      · rw [up2_row (by omega), k1 pl q1 q2, x1 pl (fun z => c3 z.1)]
      · rw [up2_at rfl rfl]; omega
      · rw [up2_at rfl rfl, Int.toNat_natCast]; exact hb c hc
    have hM : (((σ 37 4).toNat : Nat) : Int) = σ 37 4 := by omega
    have hcc : ((a.2.1.toNat : Nat) : Int) = a.2.1 := by omega
    by_cases cd : d = 1
    · have e := bit_s ⟨a.2.1.toNat, by omega⟩ ⟨(σ 37 4).toNat, by omega⟩
      obtain ⟨e1, e2⟩ := bit_m2 ⟨a.2.1.toNat, by omega⟩ ⟨(σ 37 4).toNat, by omega⟩
      simp only at e e1 e2
      rw [hM, hcc] at e
      unfold B_X7_learn_80 F_X3_learnFailed B_X3_learnFailed_26
      rw [if_pos cd, if_pos rfl, e, bnd_eq, bnd_eq]
      refine hgen _ e1 (fun c hc => ?_)
      have e3 := e2 ⟨c, hc⟩
      simp only [Fin.mk.injEq] at e3
      rw [e3, k4 c hc]
      by_cases q : c = a.2.1.toNat
      · rw [q, b2, decide_eq_true rfl, Bool.or_true, decide_eq_true cd]
      · rw [decide_eq_false q, Bool.or_false, x3 c (fun z => q (by omega))]
    · obtain ⟨e, e1, e2⟩ := bit_u ⟨a.2.1.toNat, by omega⟩ ⟨(σ 37 4).toNat, by omega⟩
      simp only at e e1 e2
      rw [hM, hcc] at e
      unfold B_X7_learn_80 F_X3_learnFailed B_X3_learnFailed_26
      rw [if_neg cd, if_neg (by decide), e, bnd_eq, bnd_eq]
      refine hgen _ e1 (fun c hc => ?_)
      have e3 := e2 ⟨c, hc⟩
      simp only [Fin.mk.injEq] at e3
      rw [e3, k4 c hc]
      by_cases q : c = a.2.1.toNat
      · rw [q, b2, decide_eq_true rfl, Bool.not_true, Bool.and_false, decide_eq_false cd]
      · rw [decide_eq_false q, Bool.not_false, Bool.and_true, x3 c (fun z => q (by omega))]
  · rw [if_neg c5, h012 (by have := ha.1; omega)]
    exact ⟨⟨k1, k2, k3, k4⟩, fun r _ _ _ => rfl⟩
