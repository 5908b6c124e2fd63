/-! the class: views in a run, patterns for numbers -/
theorem floorMod_c {x m : Int} (hx : -100000 ≤ x ∧ x ≤ 100000) (hm : 1 ≤ m ∧ m ≤ 10) : F_J9_floorMod_7cf53 x m = some (x % m) := by
  have h0 : x.tmod m = jrem x m := rfl
  have hmod : x % m = if x.tmod m < 0 then x.tmod m + m else x.tmod m := by
    have h := Int.mul_tdiv_add_tmod x m
    have h1 : -m < x.tmod m := by
      have h2 := Int.natAbs_tmod x m
      have h3 : x.natAbs % m.natAbs < m.natAbs := Nat.mod_lt _ (by omega)
      omega
    have h2 : x.tmod m < m := Int.tmod_lt_of_pos x (by omega)
    have e : x % m = (x.tmod m) % m := by
      have e : x % m = (x.tmod m + m * x.tdiv m) % m := by rw [Int.add_comm, h]
      rw [e, Int.add_mul_emod_self_left]
    rw [e]
    split
    · rw [← Int.add_emod_right, Int.emod_eq_of_lt (by omega) (by omega)]
    · rw [Int.emod_eq_of_lt (by omega) (by omega)]
  have hsgn : x.tmod m < 0 → x < 0 := fun q => Classical.byContradiction fun z => by
    have := Int.tmod_nonneg m (a := x) (by omega); omega
  have hsgn2 : x < 0 → x.tmod m ≤ 0 := fun q => by
    have := Int.tmod_nonneg m (a := -x) (by omega)
    rw [Int.neg_tmod] at this; omega
  have hxor : 0 ≤ jxor x m ↔ 0 ≤ x := by
    have hx1 : inR x := by unfold inR; omega
    have hm1 : inR m := by unfold inR; omega
    unfold jxor
    have key : ∀ a b : Int32, b.toBitVec.msb = false → ((0 : Int) ≤ (a ^^^ b).toInt ↔ (0 : Int) ≤ a.toInt) := by
      intro a b hb
      have e1 : (a ^^^ b).toInt = (a ^^^ b).toBitVec.toInt := rfl
      have e2 : a.toInt = a.toBitVec.toInt := rfl
      rw [e1, e2, Int32.toBitVec_xor]
      have l1 := BitVec.toInt_neg_iff (x := a.toBitVec ^^^ b.toBitVec)
      have l2 := BitVec.toInt_neg_iff (x := a.toBitVec)
      have l3 := BitVec.msb_eq_decide (a.toBitVec ^^^ b.toBitVec)
      have l4 := BitVec.msb_eq_decide a.toBitVec
      have l5 : (a.toBitVec ^^^ b.toBitVec).msb = (a.toBitVec.msb ^^ b.toBitVec.msb) := BitVec.msb_xor
      rw [hb] at l5
      simp only [Bool.xor_false] at l5
      rw [l3, l4] at l5
      have l6 : (2 ^ (32 - 1) ≤ (a.toBitVec ^^^ b.toBitVec).toNat) ↔ (2 ^ (32 - 1) ≤ a.toBitVec.toNat) := by
        constructor
        · intro q
          exact of_decide_eq_true (by rw [← l5]; exact decide_eq_true q)
        · intro q
          exact of_decide_eq_true (by rw [l5]; exact decide_eq_true q)
      omega
    have hmb : (Int32.ofInt m).toBitVec.msb = false := by
      have : m = 1 ∨ m = 2 ∨ m = 3 ∨ m = 4 ∨ m = 5 ∨ m = 6 ∨ m = 7 ∨ m = 8 ∨ m = 9 ∨ m = 10 := by omega
      rcases this with rfl | rfl | rfl | rfl | rfl | rfl | rfl | rfl | rfl | rfl <;> decide
    rw [key _ _ hmb, i32_ofInt_toInt hx1]
  unfold F_J9_floorMod_7cf53 jremO
  rw [if_neg (by omega), Option.bind_some]
  by_cases c : 0 ≤ x
  · rw [if_pos (hxor.mpr c), hmod, if_neg (fun q => by have := hsgn q; omega)]; rfl
  · rw [if_neg (fun q => c (hxor.mp q)), ← h0]
    by_cases c0 : x.tmod m = 0
    · rw [if_pos c0, hmod, if_neg (by omega)]
    · have := hsgn2 (by omega)
      have h1 : -m < x.tmod m := by
        have h2 := Int.natAbs_tmod x m
        have h3 : x.natAbs % m.natAbs < m.natAbs := Nat.mod_lt _ (by omega)
        omega
      rw [if_neg c0, hmod, if_pos (by omega), wrap_id (by omega) (by omega)]
theorem WFW_of {σ τ : Sg} (h : RW σ τ) : WFW τ := h.2
theorem rnc_up {σ : Sg} {i : Nat} {v : Int} : ∀ {R : List (Int × Int × Int)}, rnc σ R → R.length ≤ i → rnc (up2 σ 30 i v) R
  | [], _, _ => trivial
  | e :: R, h, hi => by
    rw [List.length_cons] at hi
    exact ⟨by rw [up2_idx (by omega)]; exact h.1, rnc_up h.2 (by omega)⟩
set_option maxHeartbeats 4000000 in
theorem look_cl {σ0 σ τ : Sg} {x : XS} {v pl : Int} (hF : WFK (τ 1) (τ 2) (τ 3)) (hV : RV σ τ) (hM : WFM τ) (hG : GV τ) (hW : RW σ τ) (hH : HOK τ (hdR τ)) (hx : CR σ0 x σ) (hJ : JR x.2.2) (hvv : 0 ≤ v ∧ v ≤ 2) (hv : vR τ pl) (hf : Fk τ σ pl) : ∃ σ', F_X1_look v pl σ = some ((gvR τ v pl x).1, σ') ∧ CR σ0 (gvR τ v pl x).2 σ' ∧ JR (gvR τ v pl x).2.2.2 ∧ (∀ r, r ∉ [27, 29, 30] → σ' r = σ r) ∧ 0 ≤ (gvR τ v pl x).1 ∧ (gvR τ v pl x).1 ≤ 9 := by
  obtain ⟨h1, h2, h3, h4, h5, h6⟩ := hx
  have hp := kd_pr hF hH 3 pl hv.1 hv.2.1 hv.2.1 hv.2.2
  have hJ' := JR_gv (τ := τ) (x := x) (WFW_of hW) hvv hp hJ
  have hlen := JR_len hJ
  have hp1 := hv.1
  have hp2 := hv.2.1
  have hget := h6.get hvv ⟨hp1, hp2⟩
  have hlb := lk_b (v := v) (pl := pl) hJ.2
  unfold F_X1_look
  rw [hget, bnd_eq]
  by_cases c : lkR x.2.2 v pl = -9
  · have hgv : gvR τ v pl x = (nvR τ v pl x.2.2.length, (x.1, x.2.1, (v, pl, nvR τ v pl x.2.2.length) :: x.2.2)) := by unfold gvR; rw [if_pos c]
    have hnb := nvR_b (τ := τ) (v := v) (pl := pl) (n := x.2.2.length) (WFW_of hW) hvv
    have hms : 0 ≤ msR τ pl ∧ msR τ pl < 97 := by
      obtain ⟨b1, b2⟩ := va_ok hF hV.2.1 hM hG pl.toNat pl (Nat.le_refl _) hv.1 hv.2.2
      unfold msR
      by_cases c : va τ pl < 0
      · have := (b1 c).2
        rw [if_pos c]; omega
      · have hlt := (b2 (by omega)).1
        have := hV.2.1.2.2 (va τ pl).toNat (by omega)
        rw [if_neg c]
        exact ⟨this.2.2.1, this.2.2.2.1⟩
    have hun : un9 (lkR x.2.2 v pl) = -1 := by unfold un9; rw [if_pos c]
    have hgive : F_X9_give v (F_X8_measureOf (rdD (-1) σ 28 469 pl) σ) (σ 27 4) σ = some (nvR τ v pl x.2.2.length) := by
      obtain ⟨z1, z2, z3⟩ := hW.2 v.toNat (by omega)
      have y0 := z3 0 (by omega)
      have y1 := z3 1 (by omega)
      have y2 := z3 2 (by omega)
      have m0 := mul_b (n := 100) y0 ⟨hms.1, by omega⟩
      have m1 := mul_b (n := 400) y1 (b := (x.2.2.length : Int)) ⟨by omega, by omega⟩
      have gt : ∀ j : Nat, j < 4 → F_X9_get v j σ = τ 18 (4 * v.toNat + j) := fun j hj => by
        unfold F_X9_get
        rw [wrap_id (z := v * 4) (by omega) (by omega), wrap_id (by omega) (by omega), rdD_ok (by omega) (by omega), show (v * 4 + (j : Int)).toNat = 4 * v.toNat + j by omega, hW.1 _ (by omega)]
      have gt0 : F_X9_get v 0 σ = τ 18 (4 * v.toNat + 0) := gt 0 (by omega)
      have gt1 : F_X9_get v 1 σ = τ 18 (4 * v.toNat + 1) := gt 1 (by omega)
      have gt2 : F_X9_get v 2 σ = τ 18 (4 * v.toNat + 2) := gt 2 (by omega)
      have gt3 : F_X9_get v 3 σ = τ 18 (4 * v.toNat + 3) := gt 3 (by omega)
      unfold F_X9_give
      rw [measure_k hF hV hM hG hv hf, gt0, gt1, gt2, gt3, bnd_eq, h4, wrap_id (z := τ 18 (4 * v.toNat + 0) * msR τ pl) (by omega) (by omega), wrap_id (z := τ 18 (4 * v.toNat + 1) * (x.2.2.length : Int)) (by omega) (by omega), wrap_id (z := τ 18 (4 * v.toNat + 0) * msR τ pl + τ 18 (4 * v.toNat + 1) * (x.2.2.length : Int)) (by omega) (by omega), wrap_id (by omega) (by omega), bnd_eq, if_neg (by omega), floorMod_c ⟨by omega, by omega⟩ ⟨z1, z2⟩, Option.bind_some]
      unfold nvR
      rw [show (4 * v).toNat = 4 * v.toNat + 0 by omega, show (4 * v + 1).toNat = 4 * v.toNat + 1 by omega, show (4 * v + 2).toNat = 4 * v.toNat + 2 by omega, show (4 * v + 3).toNat = 4 * v.toNat + 3 by omega]
    rw [hgv] at hJ' ⊢
    rw [if_pos hun, hgive, Option.bind_some]
    generalize nvR τ v pl x.2.2.length = d at *
    obtain ⟨hpu, hgn⟩ := h6.put (F' := lkR ((v, pl, d) :: x.2.2)) (d := d) hvv ⟨hp1, hp2⟩ (by omega) (by have e : lkR ((v, pl, d) :: x.2.2) v pl = d := (by unfold lkR; rw [if_pos ⟨rfl, rfl⟩]); unfold un9; rw [e, if_neg (by omega)]) (fun u q z => by
      rw [lkR, if_neg (fun w => z ⟨w.1.symm, w.2.symm⟩)])
    have hpg27 : ∀ i, F_X10_putGiven 29 v pl d σ 27 i = σ 27 i := fun i => by rw [hpu, up2_row (by omega)]
    have hlin : ((x.2.2.length : Nat) : Int).toNat = x.2.2.length := by omega
    have hlen' := JR_len hJ'
    rw [List.length_cons] at hlen'
    rw [bnd_eq, hpg27, h4, wrD_ok (by omega) (by omega), hlin, bnd_eq, up2_row (by omega), hpg27, h4, wrap_id (z := 100000 * v) (by omega) (by omega), wrap_id (z := 10 * pl) (by omega) (by omega), wrap_id (z := 100000 * v + 10 * pl) (by omega) (by omega), wrap_id (z := 100000 * v + 10 * pl + d) (by omega) (by omega), wrap_id (z := (x.2.2.length : Int) + 1) (by omega) (by omega), bnd_eq]
    refine ⟨_, rfl, ⟨?_, ?_, ?_, ?_, ?_, ?_⟩, hJ', ?_, hnb⟩
    · rw [hpu]
      exact ((h1.up (Or.inl (by decide))).up (Or.inl (by decide))).up (Or.inl (by decide))
    · intro i hi; rw [up2_row (by omega), up2_row (by omega), hpu, up2_row (by omega)]; exact h2 i hi
    · rw [up2_idx (by omega), up2_row (by omega), hpg27]; exact h3
    · rw [up2_at rfl rfl, List.length_cons]; omega
    · refine ⟨?_, ?_⟩
      · rw [up2_row (by omega), up2_at rfl rfl]
      · refine rnc_congr (s := up2 (F_X10_putGiven 29 v pl d σ) 30 x.2.2.length (100000 * v + 10 * pl + d)) (by funext j; rw [up2_row (by omega)]) (rnc_up (rnc_congr (s := σ) (by rw [hpu]; funext j; rw [up2_row (by omega)]) h5) (Nat.le_refl _))
    · exact hgn.congr (by funext j; rw [up2_row (by omega), up2_row (by omega)])
    · intro r hr
      simp only [List.mem_cons, List.not_mem_nil, or_false, not_or] at hr
      funext j
      rw [up2_row (by omega), up2_row (by omega), hpu, up2_row (by omega)]
  · have hgv : gvR τ v pl x = (lkR x.2.2 v pl, x) := by unfold gvR; rw [if_neg c]
    have hun : un9 (lkR x.2.2 v pl) = lkR x.2.2 v pl := by unfold un9; rw [if_neg c]
    rw [hgv] at hJ' ⊢
    rw [hun, if_neg (by omega)]
    exact ⟨σ, rfl, ⟨h1, h2, h3, h4, h5, h6⟩, hJ', fun _ _ => rfl, by omega, by omega⟩
theorem count_cl {σ0 σ τ : Sg} {x : XS} (hx : CR σ0 x σ) : CR σ0 ((envR τ).2.2 x) (F_X1_countTest σ) ∧ ∀ r, ¬ r = 27 → F_X1_countTest σ r = σ r := by
  obtain ⟨h1, h2, h3, h4, h5, h6⟩ := hx
  unfold F_X1_countTest
  rw [bnd_eq, h3]
  refine ⟨⟨h1.up (Or.inl (by decide)), fun i hi => by rw [up2_row (by omega)]; exact h2 i hi, by rw [up2_at rfl rfl]; rfl, by rw [up2_idx (by omega)]; exact h4, rnc_congr (s := σ) (by funext j; rw [up2_row (by omega)]) h5, h6.congr (by funext j; rw [up2_row (by omega)])⟩, fun r hr => by funext j; rw [up2_row hr]⟩
/-- whether a pattern is content with a head -/
theorem accepts_c {σ τ : Sg} {p : Nat} {f : Int} (h : RP σ τ) (hp : (p : Int) < τ 0 9) (hf : 0 ≤ f) (h3 : τ 8 p = 6 → f ≤ 3) (hd : τ 8 p = 2 ∨ τ 8 p = 3 ∨ τ 8 p = 6) : F_X5_accepts p f σ = isR τ p f := by
  obtain ⟨r1, hW, r3, r4⟩ := id h
  have w2 := hW.2.1
  obtain ⟨q1, q2, q3, q4, -⟩ := r3 p hp
  have hpp : ((p : Int)).toNat = p := by omega
  unfold F_X5_accepts isR
  rw [rdD_ok (by omega) (by omega), rdD_ok (by omega) (by omega), hpp, q3, q4]
  rcases hd with c | c | c
  · have e1 : lowOf τ p = τ 9 p := by unfold lowOf; rw [if_neg (by omega)]
    have e2 : highOf τ p = τ 10 p := by unfold highOf; rw [if_pos c]
    rw [e1, e2, if_pos c]
    by_cases c1 : f < τ 9 p
    · rw [if_pos c1, decide_eq_false (by omega)]
    · rw [if_neg c1]
      by_cases c2 : τ 10 p < f
      · rw [if_pos c2, decide_eq_false (by omega)]
      · rw [if_neg c2, decide_eq_true (by omega)]
  · have e1 : lowOf τ p = jrem (τ 9 p) 4 := by unfold lowOf; rw [if_pos c]
    have e2 : highOf τ p = jrem (τ 9 p) 4 := by unfold highOf; rw [if_neg (by omega), if_pos c]
    rw [e1, e2, if_neg (show ¬ τ 8 p = 2 by omega), if_pos c]
    by_cases c1 : f < jrem (τ 9 p) 4
    · rw [if_pos c1, decide_eq_false (by omega)]
    · rw [if_neg c1]
      by_cases c2 : jrem (τ 9 p) 4 < f
      · rw [if_pos c2, decide_eq_false (by omega)]
      · rw [if_neg c2, decide_eq_true (by omega)]
  · have hg := hW.g6 hp c
    have := h3 c
    have e1 : lowOf τ p = τ 9 p := by unfold lowOf; rw [if_neg (by omega)]
    rw [e1, if_neg (show ¬ τ 8 p = 2 by omega), if_neg (show ¬ τ 8 p = 3 by omega)]
    by_cases c0 : τ 10 p = 0
    · have e2 : highOf τ p = τ 9 p := by unfold highOf; rw [if_neg (by omega), if_neg (by omega), if_pos c, if_pos c0]
      rw [e2, if_pos c0]
      by_cases c1 : f < τ 9 p
      · rw [if_pos c1, decide_eq_false (by omega)]
      · rw [if_neg c1]
        by_cases c2 : τ 9 p < f
        · rw [if_pos c2, decide_eq_false (by omega)]
        · rw [if_neg c2, decide_eq_true (by omega)]
    · have e2 : highOf τ p = 3 := by unfold highOf; rw [if_neg (by omega), if_neg (by omega), if_pos c, if_neg c0]
      rw [e2, if_neg c0]
      by_cases c1 : f < τ 9 p
      · rw [if_pos c1, decide_eq_false (by omega)]
      · rw [if_neg c1, if_neg (by omega), decide_eq_true (by omega)]
theorem offset_c {σ τ : Sg} {p : Nat} {f : Int} (h : RP σ τ) (hp : (p : Int) < τ 0 9) (hf : 0 ≤ f ∧ f ≤ 9) : F_X5_offset p f σ = skipE τ p f := by
  obtain ⟨r1, hW, r3, r4⟩ := id h
  have w2 := hW.2.1
  obtain ⟨q1, q2, q3, q4, -⟩ := r3 p hp
  have hpp : ((p : Int)).toNat = p := by omega
  unfold F_X5_offset skipE
  rw [rdD_ok (by omega) (by omega), hpp, q1]
  unfold sortOf
  by_cases c : τ 8 p = 6 ∧ τ 10 p = 2
  · have hg := hW.g6 hp c.1
    rw [if_pos c, if_pos rfl, if_pos c, rdD_ok (by omega) (by omega), hpp, q3]
    unfold lowOf
    rw [if_neg (by omega), wrap_id (by omega) (by omega)]
  · have := hW.form hp
    rw [if_neg c, if_neg (by omega), if_neg c]
