/-! constructor -/
def okf (n i x : Int) : Prop := (i < n ∧ 0 ≤ x ∧ x ≤ 5) ∨ (n ≤ i ∧ x = 0)
theorem ctC_s {a2 a3 a4 a5 i : Int} {σ : Sg} (hi : 0 ≤ i ∧ i < 3) (h : okf a2 i (F_X10_pick i a3 a4 a5)) : L_X10_constructor_19 a2 a3 a4 a5 σ i = some (.inl (i + 1)) := by
  unfold okf at h
  unfold L_X10_constructor_19
  rcases h with ⟨h1, h2⟩ | ⟨h1, h2⟩
  · simp (disch := omega) only [bnd_eq, bind_some', wrap_id, rdn_ok, wrn_ok, wbn_ok, rdD_ok, rdD_out, wrD_ok, wrD_out, up2_at, up2_row, up2_idx, iter_s, itp, itn, isIn_iff, in_iff, ↓reduceIte, reduceCtorEq, B_X10_constructor_61, isKind_iff]
  · simp (disch := omega) only [bnd_eq, bind_some', wrap_id, rdn_ok, wrn_ok, wbn_ok, rdD_ok, rdD_out, wrD_ok, wrD_out, up2_at, up2_row, up2_idx, iter_s, itp, itn, isIn_iff, in_iff, ↓reduceIte, reduceCtorEq, B_X10_constructor_61, isKind_iff]
theorem ctC_f {a2 a3 a4 a5 i : Int} {σ : Sg} (hi : 0 ≤ i ∧ i < 3) (h : ¬ okf a2 i (F_X10_pick i a3 a4 a5)) : L_X10_constructor_19 a2 a3 a4 a5 σ i = some (.inr (.inr (.inr 1, σ))) := by
  unfold okf at h
  unfold L_X10_constructor_19
  by_cases h1 : i < a2
  · have h2 : ¬ F_X2_isKind (F_X10_pick i a3 a4 a5) = true := fun q => h (Or.inl ⟨h1, isKind_iff.mp q⟩)
    simp (disch := omega) only [bnd_eq, bind_some', wrap_id, rdn_ok, wrn_ok, wbn_ok, rdD_ok, rdD_out, wrD_ok, wrD_out, up2_at, up2_row, up2_idx, iter_s, itp, itn, isIn_iff, in_iff, ↓reduceIte, reduceCtorEq, B_X10_constructor_61, if_neg h2]
  · simp (disch := omega) only [bnd_eq, bind_some', wrap_id, rdn_ok, wrn_ok, wbn_ok, rdD_ok, rdD_out, wrD_ok, wrD_out, up2_at, up2_row, up2_idx, iter_s, itp, itn, isIn_iff, in_iff, ↓reduceIte, reduceCtorEq, B_X10_constructor_61]
theorem ctM_s {a2 a3 a4 a5 i : Int} {σ : Sg} {x : Bool} (hi : 0 ≤ i ∧ i < 3) : ∃ y, L_X11_constructor_11 a2 a3 a4 a5 σ x i = some (.inl (y, i + 1)) ∧ (y = true ↔ x = true ∧ okf a2 i (F_X10_pick i a3 a4 a5)) := by
  unfold okf L_X11_constructor_11
  cases x with
  | false => simp (disch := omega) only [bnd_eq, bind_some', wrap_id, rdn_ok, wrn_ok, wbn_ok, rdD_ok, rdD_out, wrD_ok, wrD_out, up2_at, up2_row, up2_idx, iter_s, itp, itn, isIn_iff, in_iff, ↓reduceIte, reduceCtorEq, B_X11_constructor_60, B_X11_constructor_61]; exact ⟨_, rfl, by simp⟩
  | true =>
    by_cases h1 : i < a2
    · by_cases h2 : 0 ≤ F_X10_pick i a3 a4 a5 ∧ F_X10_pick i a3 a4 a5 ≤ 5
      · simp (disch := omega) only [bnd_eq, bind_some', wrap_id, rdn_ok, wrn_ok, wbn_ok, rdD_ok, rdD_out, wrD_ok, wrD_out, up2_at, up2_row, up2_idx, iter_s, itp, itn, isIn_iff, in_iff, ↓reduceIte, reduceCtorEq, B_X11_constructor_56, B_X11_constructor_60, B_X11_constructor_61, isKind11_iff, qick]; exact ⟨_, rfl, by simp; omega⟩
      · simp (disch := omega) only [bnd_eq, bind_some', wrap_id, rdn_ok, wrn_ok, wbn_ok, rdD_ok, rdD_out, wrD_ok, wrD_out, up2_at, up2_row, up2_idx, iter_s, itp, itn, isIn_iff, in_iff, ↓reduceIte, reduceCtorEq, B_X11_constructor_56, B_X11_constructor_60, B_X11_constructor_61, isKind11_iff, qick]; exact ⟨_, rfl, by simp; omega⟩
    · by_cases h2 : F_X10_pick i a3 a4 a5 = 0
      · simp (disch := omega) only [bnd_eq, bind_some', wrap_id, rdn_ok, wrn_ok, wbn_ok, rdD_ok, rdD_out, wrD_ok, wrD_out, up2_at, up2_row, up2_idx, iter_s, itp, itn, isIn_iff, in_iff, ↓reduceIte, reduceCtorEq, B_X11_constructor_56, B_X11_constructor_60, B_X11_constructor_61, isKind11_iff, qick]; exact ⟨_, rfl, by simp; omega⟩
      · simp (disch := omega) only [bnd_eq, bind_some', wrap_id, rdn_ok, wrn_ok, wbn_ok, rdD_ok, rdD_out, wrD_ok, wrD_out, up2_at, up2_row, up2_idx, iter_s, itp, itn, isIn_iff, in_iff, ↓reduceIte, reduceCtorEq, B_X11_constructor_56, B_X11_constructor_60, B_X11_constructor_61, isKind11_iff, qick]; exact ⟨_, rfl, by simp; omega⟩
theorem ext_c {σ : Sg} {a1 a2 a3 a4 a5 : Int} (h1 : 0 ≤ a1 ∧ a1 ≤ 3) (h2 : 0 ≤ σ 2 a1.toNat ∧ σ 2 a1.toNat < 4) : F_X2_extend a1 a2 a3 a4 a5 σ = some (σ 2 a1.toNat, up2 (up2 (up2 (up2 (up2 σ 2 a1.toNat (σ 2 a1.toNat + 1)) 3 (a1 * 4 + σ 2 a1.toNat).toNat a2) 4 ((a1 * 4 + σ 2 a1.toNat) * 3 + 0).toNat a3) 4 ((a1 * 4 + σ 2 a1.toNat) * 3 + (0 + 1)).toNat a4) 4 ((a1 * 4 + σ 2 a1.toNat) * 3 + (0 + 1 + 1)).toNat a5) := by
  unfold F_X2_extend
  simp (disch := omega) only [bnd_eq, bind_some', wrap_id, rdn_ok, wrn_ok, wbn_ok, rdD_ok, rdD_out, wrD_ok, wrD_out, up2_at, up2_row, up2_idx, iter_s, itp, itn, isIn_iff, in_iff, ↓reduceIte, reduceCtorEq, F_X2_countOf, L_X2_extend_40, F_X10_pick]
theorem rk_ext {σ τ : Sg} {a1 a2 a3 a4 a5 : Int} (h : RK σ τ) (h1 : 0 ≤ a1 ∧ a1 ≤ 3) (h2 : τ 1 a1.toNat < 4) (h3 : 0 ≤ a2 ∧ a2 ≤ 3) (g3 : 0 < a2 → 0 ≤ a3 ∧ a3 ≤ 5) (g4 : 1 < a2 → 0 ≤ a4 ∧ a4 ≤ 5) (g5 : 2 < a2 → 0 ≤ a5 ∧ a5 ≤ 5) : 
   RK (up2 (up2 (up2 (up2 (up2 σ 2 a1.toNat (σ 2 a1.toNat + 1)) 3 (a1 * 4 + σ 2 a1.toNat).toNat a2) 4 ((a1 * 4 + σ 2 a1.toNat) * 3 + 0).toNat a3) 4 ((a1 * 4 + σ 2 a1.toNat) * 3 + (0 + 1)).toNat a4) 4 ((a1 * 4 + σ 2 a1.toNat) * 3 + (0 + 1 + 1)).toNat a5)
   (up2 (up2 (up2 (up2 (up2 (up2 (up2 τ 0 0 0) 2 (a1 * 4 + τ 1 a1.toNat).toNat a2) 3 ((a1 * 4 + τ 1 a1.toNat) * 3 + 0).toNat a3) 3 ((a1 * 4 + τ 1 a1.toNat) * 3 + (0 + 1)).toNat a4) 3 ((a1 * 4 + τ 1 a1.toNat) * 3 + (0 + 1 + 1)).toNat a5) 1 a1.toNat (τ 1 a1.toNat + 1)) 0 54 (-1)) := by
  obtain ⟨hc, hf, hk, hw1, hw2⟩ := id h
  have e1 := hw1 a1.toNat (by omega)
  have e2 := hc a1.toNat (by omega)
  refine ⟨fun i hi => ?_, fun i hi => ?_, fun i hi => ?_, fun t ht => ?_, fun t c ht hc9 => ?_⟩
  · have := hc i hi
    grind [up2]
  · have := hf i hi
    grind [up2]
  · have := hk i hi
    grind [up2]
  · have := hw1 t ht
    grind [up2]
  · have e3 := hw2 t c ht
    have e4 := hw1 t ht
    have n1 : (a1 * 4 + τ 1 a1.toNat).toNat = 4 * a1.toNat + (τ 1 a1.toNat).toNat := by omega
    have n2 : ((a1 * 4 + τ 1 a1.toNat) * 3 + 0).toNat = 3 * (4 * a1.toNat + (τ 1 a1.toNat).toNat) := by omega
    have n3 : ((a1 * 4 + τ 1 a1.toNat) * 3 + (0 + 1)).toNat = 3 * (4 * a1.toNat + (τ 1 a1.toNat).toNat) + 1 := by omega
    have n4 : ((a1 * 4 + τ 1 a1.toNat) * 3 + (0 + 1 + 1)).toNat = 3 * (4 * a1.toNat + (τ 1 a1.toNat).toNat) + 2 := by omega
    rw [n1, n2, n3, n4] at *
    by_cases e : t = a1.toNat ∧ (c : Int) = τ 1 a1.toNat
    · obtain ⟨rfl, ec⟩ := e
      have e5 : (τ 1 a1.toNat).toNat = c := by omega
      rw [e5] at *
      refine ⟨by grind [up2], by grind [up2], fun k hk => ?_⟩
      have : k < 3 := by grind [up2]
      have : k = 0 ∨ k = 1 ∨ k = 2 := by omega
      rcases this with rfl | rfl | rfl <;> grind [up2]
    · have hc8 : (c : Int) < τ 1 t := by grind [up2]
      obtain ⟨f1, f2, f3⟩ := e3 hc8
      have hne : ¬ 4 * t + c = 4 * a1.toNat + (τ 1 a1.toNat).toNat := by omega
      simp (disch := omega) only [bnd_eq, bind_some', wrap_id, rdn_ok, wrn_ok, wbn_ok, rdD_ok, rdD_out, wrD_ok, wrD_out, up2_at, up2_row, up2_idx, iter_s, itp, itn, isIn_iff, in_iff, ↓reduceIte, reduceCtorEq]
      exact ⟨f1, f2, fun k hk => by
        have k3 : k < 3 := by omega
        simp (disch := omega) only [bnd_eq, bind_some', wrap_id, rdn_ok, wrn_ok, wbn_ok, rdD_ok, rdD_out, wrD_ok, wrD_out, up2_at, up2_row, up2_idx, iter_s, itp, itn, isIn_iff, in_iff, ↓reduceIte, reduceCtorEq]
        exact f3 k hk⟩
theorem forget_eq {σ : Sg} : F_X10_forgetEngines σ = up2 (up2 (up2 σ 33 3 0) 43 4 0) 49 4 0 := rfl
theorem ext_m {τ : Sg} {a1 a2 a3 a4 a5 : Int} (h1 : 0 ≤ a1 ∧ a1 ≤ 3) (h2 : 0 ≤ τ 1 a1.toNat ∧ τ 1 a1.toNat < 4) : B_X11_constructor_107 a1 a2 a3 a4 a5 0 τ = some (τ 1 a1.toNat, up2 (up2 (up2 (up2 (up2 (up2 (up2 τ 0 0 0) 2 (a1 * 4 + τ 1 a1.toNat).toNat a2) 3 ((a1 * 4 + τ 1 a1.toNat) * 3 + 0).toNat a3) 3 ((a1 * 4 + τ 1 a1.toNat) * 3 + (0 + 1)).toNat a4) 3 ((a1 * 4 + τ 1 a1.toNat) * 3 + (0 + 1 + 1)).toNat a5) 1 a1.toNat (τ 1 a1.toNat + 1)) 0 54 (-1)) := by
  have e1 : 4 * a1 + τ 1 a1.toNat = a1 * 4 + τ 1 a1.toNat := by omega
  have e2 : ∀ x : Int, 3 * (a1 * 4 + τ 1 a1.toNat) + x = (a1 * 4 + τ 1 a1.toNat) * 3 + x := by intro x; omega
  unfold B_X11_constructor_107
  simp (disch := omega) only [bnd_eq, bind_some', wrap_id, rdn_ok, wrn_ok, wbn_ok, rdD_ok, rdD_out, wrD_ok, wrD_out, up2_at, up2_row, up2_idx, iter_s, itp, itn, isIn_iff, in_iff, ↓reduceIte, reduceCtorEq, refused_0, Bool.false_eq_true, L_X11_constructor_138, F_X11_pick, e1, e2]
  congr 2
  omega
theorem extk_m {τ : Sg} {a1 a2 a3 a4 a5 : Int} (h1 : 0 ≤ a1 ∧ a1 ≤ 3) (h2 : 0 ≤ τ 1 a1.toNat ∧ τ 1 a1.toNat < 4) (h3 : ∀ t : Nat, t < 4 → τ 1 t ≤ 4) : ExtK τ (up2 (up2 (up2 (up2 (up2 (up2 (up2 τ 0 0 0) 2 (a1 * 4 + τ 1 a1.toNat).toNat a2) 3 ((a1 * 4 + τ 1 a1.toNat) * 3 + 0).toNat a3) 3 ((a1 * 4 + τ 1 a1.toNat) * 3 + (0 + 1)).toNat a4) 3 ((a1 * 4 + τ 1 a1.toNat) * 3 + (0 + 1 + 1)).toNat a5) 1 a1.toNat (τ 1 a1.toNat + 1)) 0 54 (-1)) := by
  intro t ht
  have h4 := h3 t ht
  refine ⟨?_, fun c hc => ?_⟩
  · rw [up2_row (by omega)]
    by_cases g : t = a1.toNat
    · rw [up2_at rfl g, g]; omega
    · rw [up2_idx g, up2_row (by omega), up2_row (by omega), up2_row (by omega), up2_row (by omega), up2_row (by omega)]; exact Int.le_refl _
  · have hne : ¬ 4 * t + c = (a1 * 4 + τ 1 a1.toNat).toNat := fun q => by
      have e : t = a1.toNat := by omega
      rw [e] at hc
      omega
    refine ⟨?_, fun k hk => ?_⟩
    · rw [up2_row (by omega), up2_row (by omega), up2_row (by omega), up2_row (by omega), up2_row (by omega), up2_idx hne, up2_row (by omega)]
    · rw [up2_row (by omega), up2_row (by omega), up2_idx (by omega), up2_idx (by omega), up2_idx (by omega), up2_row (by omega), up2_row (by omega)]
theorem op_constructor {σ τ : Sg} (a1 a2 a3 a4 a5 : Int) (h : RK σ τ) (h1 : inR a1) (h2 : inR a2) (h3 : inR a3) (h4 : inR a4) (h5 : inR a5) : Thr [(0, 1), (1, 2), (2, 3)] (F_X10_constructor a1 a2 a3 a4 a5 σ) (F_X11_constructor a1 a2 a3 a4 a5 τ) σ τ ∨ ∃ v σ' τ', Okk (F_X10_constructor a1 a2 a3 a4 a5 σ) (F_X11_constructor a1 a2 a3 a4 a5 τ) v σ' τ' ∧ (∀ k, k ∉ [2, 3, 4, 33, 43, 49] → σ' k = σ k) ∧ (∀ k, k ∉ [0, 1, 2, 3] → τ' k = τ k) ∧ (∀ i, i ∉ [0, 54] → τ' 0 i = τ 0 i) ∧ RK σ' τ' ∧ ExtK τ τ' ∧ NoEng σ σ' τ' := by
  obtain ⟨hc, hf, hk, hw1, hw2⟩ := id h
  unfold F_X10_constructor F_X11_constructor
  obtain ⟨b, hb1, hb2⟩ := for_fl (f := fun a : Bool × Int => L_X11_constructor_11 a2 a3 a4 a5 τ a.1 a.2) (n := 3) (P := fun i => okf a2 i (F_X10_pick i a3 a4 a5)) (fun x => rfl) 4 0 (F_X11_in a2 0 3) (by omega) (by omega) (fun x j g1 g2 => ctM_s ⟨g1, g2⟩)
  rw [in_iff] at hb2
  have hC1 := for_ok (f := fun a : Int => L_X10_constructor_19 a2 a3 a4 a5 σ a) (n := 3) rfl 4 0 (by omega) (by omega)
  have hC2 := for_no (f := fun a : Int => L_X10_constructor_19 a2 a3 a4 a5 σ a) (n := 3) (r := .inr (.inr 1, σ)) (P := fun i => okf a2 i (F_X10_pick i a3 a4 a5)) 4 0 (by omega) (by omega) (fun j g1 g2 g3 => ctC_s ⟨g1, g2⟩ g3) (fun j g1 g2 g3 => ctC_f ⟨g1, g2⟩ g3)
  rw [bnd_eq, hb1]
  have hthrow : ∀ t : Int, ¬ t = 0 → B_X11_constructor_107 a1 a2 a3 a4 a5 t τ = some (0, up2 τ 0 0 t) := fun t ht => by
    unfold B_X11_constructor_107; rw [bnd_eq, refused_n ht]; rfl
  by_cases c1 : 0 ≤ a1 ∧ a1 ≤ 3
  · have g1 := hw1 a1.toNat (by omega)
    have g2 := hc a1.toNat (by omega)
    by_cases c2 : 0 ≤ a2 ∧ a2 ≤ 3
    · by_cases c3 : ∀ i : Int, 0 ≤ i → i < 3 → okf a2 i (F_X10_pick i a3 a4 a5)
      · have hbt : b = true := hb2.mpr ⟨c2, c3⟩
        subst hbt
        rw [hC1 (fun j g1 g2 => ctC_s ⟨g1, g2⟩ (c3 j g1 g2))]
        by_cases c6 : τ 1 a1.toNat = 4
        · simp (disch := omega) only [bnd_eq, bind_some', wrap_id, rdn_ok, wrn_ok, wbn_ok, rdD_ok, rdD_out, wrD_ok, wrD_out, up2_at, up2_row, up2_idx, iter_s, itp, itn, isIn_iff, in_iff, ↓reduceIte, reduceCtorEq, F_X2_isType, F_X2_countOf, B_X10_constructor_87, hthrow, Sum.elim_inl, Bool.false_eq_true]
          exact Or.inl ⟨2, 3, rfl, rfl, rfl, by decide, by decide⟩
        · have h0 : RK (F_X10_forgetEngines σ) τ := h
          have g3 : 0 ≤ F_X10_forgetEngines σ 2 a1.toNat ∧ F_X10_forgetEngines σ 2 a1.toNat < 4 := by
            show 0 ≤ σ 2 a1.toNat ∧ σ 2 a1.toNat < 4; omega
          rw [Option.bind_some, Option.bind_some, Sum.elim_inl, if_pos (isType_iff.mpr c1), if_pos (isIn_iff.mpr c2), if_pos (in_iff.mpr c1), if_pos rfl, rdn_ok c1.1 (by omega), Option.bind_some, if_neg c6, ext_m c1 (by omega), if_neg (by unfold F_X2_countOf; rw [rdD_ok c1.1 (by omega)]; omega)]
          unfold B_X10_constructor_87
          rw [if_pos rfl, bnd_eq, ext_c c1 g3]
          have e2 : (F_X10_forgetEngines σ) 2 a1.toNat = τ 1 a1.toNat := by show σ 2 a1.toNat = _; omega
          refine Or.inr ⟨(F_X10_forgetEngines σ) 2 a1.toNat, (up2 (up2 (up2 (up2 (up2 (F_X10_forgetEngines σ) 2 a1.toNat (F_X10_forgetEngines σ 2 a1.toNat + 1)) 3 (a1 * 4 + F_X10_forgetEngines σ 2 a1.toNat).toNat a2) 4 ((a1 * 4 + F_X10_forgetEngines σ 2 a1.toNat) * 3 + 0).toNat a3) 4 ((a1 * 4 + F_X10_forgetEngines σ 2 a1.toNat) * 3 + (0 + 1)).toNat a4) 4 ((a1 * 4 + F_X10_forgetEngines σ 2 a1.toNat) * 3 + (0 + 1 + 1)).toNat a5), (up2 (up2 (up2 (up2 (up2 (up2 (up2 τ 0 0 0) 2 (a1 * 4 + τ 1 a1.toNat).toNat a2) 3 ((a1 * 4 + τ 1 a1.toNat) * 3 + 0).toNat a3) 3 ((a1 * 4 + τ 1 a1.toNat) * 3 + (0 + 1)).toNat a4) 3 ((a1 * 4 + τ 1 a1.toNat) * 3 + (0 + 1 + 1)).toNat a5) 1 a1.toNat (τ 1 a1.toNat + 1)) 0 54 (-1)), ⟨rfl, ?_, ?_⟩, ?_, ?_, ?_, ?_, ?_, ?_⟩
          · rw [e2]
          · simp (disch := omega) only [bnd_eq, bind_some', wrap_id, rdn_ok, wrn_ok, wbn_ok, rdD_ok, rdD_out, wrD_ok, wrD_out, up2_at, up2_row, up2_idx, iter_s, itp, itn, isIn_iff, in_iff, ↓reduceIte, reduceCtorEq]
          · intro k hk
            simp only [List.mem_cons, List.not_mem_nil, or_false, not_or] at hk
            rw [forget_eq]; funext i
            simp (disch := omega) only [bnd_eq, bind_some', wrap_id, rdn_ok, wrn_ok, wbn_ok, rdD_ok, rdD_out, wrD_ok, wrD_out, up2_at, up2_row, up2_idx, iter_s, itp, itn, isIn_iff, in_iff, ↓reduceIte, reduceCtorEq]
          · intro k hk
            simp only [List.mem_cons, List.not_mem_nil, or_false, not_or] at hk
            funext i
            simp (disch := omega) only [bnd_eq, bind_some', wrap_id, rdn_ok, wrn_ok, wbn_ok, rdD_ok, rdD_out, wrD_ok, wrD_out, up2_at, up2_row, up2_idx, iter_s, itp, itn, isIn_iff, in_iff, ↓reduceIte, reduceCtorEq]
          · intro i hi
            simp only [List.mem_cons, List.not_mem_nil, or_false, not_or] at hi
            simp (disch := omega) only [bnd_eq, bind_some', wrap_id, rdn_ok, wrn_ok, wbn_ok, rdD_ok, rdD_out, wrD_ok, wrD_out, up2_at, up2_row, up2_idx, iter_s, itp, itn, isIn_iff, in_iff, ↓reduceIte, reduceCtorEq]
          · obtain ⟨d0, d1, d2⟩ := all3.mp c3
            rw [pick0] at d0; rw [pick1] at d1; rw [pick2] at d2
            unfold okf at d0 d1 d2
            exact rk_ext (a2 := a2) (a3 := a3) (a4 := a4) (a5 := a5) h0 c1 (by omega) c2 (fun _ => by omega) (fun _ => by omega) (fun _ => by omega)
          · exact extk_m c1 (by omega) (fun t ht => (hw1 t ht).2)
          · refine ⟨?_, ?_, ?_, ?_, ?_, ?_⟩ <;> simp (disch := omega) only [bnd_eq, bind_some', wrap_id, rdn_ok, wrn_ok, wbn_ok, rdD_ok, rdD_out, wrD_ok, wrD_out, up2_at, up2_row, up2_idx, iter_s, itp, itn, isIn_iff, in_iff, ↓reduceIte, reduceCtorEq, forget_eq]
      · have hbf : ¬ b = true := fun q => c3 (hb2.mp q).2
        rw [hC2 c3]
        simp (disch := omega) only [bnd_eq, bind_some', wrap_id, rdn_ok, wrn_ok, wbn_ok, rdD_ok, rdD_out, wrD_ok, wrD_out, up2_at, up2_row, up2_idx, iter_s, itp, itn, isIn_iff, in_iff, ↓reduceIte, reduceCtorEq, F_X2_isType, if_neg hbf, hthrow, Sum.elim_inr]
        exact Or.inl ⟨1, 2, rfl, rfl, rfl, by decide, by decide⟩
    · have hbf : ¬ b = true := fun q => c2 (hb2.mp q).1
      simp (disch := omega) only [bnd_eq, bind_some', wrap_id, rdn_ok, wrn_ok, wbn_ok, rdD_ok, rdD_out, wrD_ok, wrD_out, up2_at, up2_row, up2_idx, iter_s, itp, itn, isIn_iff, in_iff, ↓reduceIte, reduceCtorEq, F_X2_isType, if_neg hbf, hthrow]
      exact Or.inl ⟨1, 2, rfl, rfl, rfl, by decide, by decide⟩
  · simp (disch := omega) only [bnd_eq, bind_some', wrap_id, rdn_ok, wrn_ok, wbn_ok, rdD_ok, rdD_out, wrD_ok, wrD_out, up2_at, up2_row, up2_idx, iter_s, itp, itn, isIn_iff, in_iff, ↓reduceIte, reduceCtorEq, F_X2_isType, hthrow]
    exact Or.inl ⟨0, 1, rfl, rfl, rfl, by decide, by decide⟩
