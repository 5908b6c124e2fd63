/-! setView; what the calls tell -/
theorem op_viewAt {σ τ : Sg} (a : Int) (h : RC σ τ) : Thr [(0, 1)] (F_X10_viewAt a σ) (F_X11_viewAt a τ) σ τ ∨ ∃ v, Okk (F_X10_viewAt a σ) (F_X11_viewAt a τ) v σ (up2 τ 0 0 0) := by
  obtain ⟨h1, h2, h3, h4, h5⟩ := h
  unfold F_X10_viewAt F_X11_viewAt F_X1_viewCount
  rw [h2, wrap_id (by omega) (by omega)]
  by_cases c : 0 ≤ a ∧ a ≤ τ 0 48 - 1
  · obtain ⟨g1, g2, g3, g4⟩ := h4 a.toNat (by omega)
    rw [if_pos (isIn_iff.mpr c), if_pos (in_iff.mpr c)]
    refine Or.inr ⟨σ 30 a.toNat, ?_, ?_, rfl⟩
    · unfold F_X1_ranAt; rw [rdD_ok c.1 (by omega)]
    · unfold B_X11_viewAt_20
      rw [bnd_eq, show b2i false = 0 from rfl, refused_0, if_neg (by simp), rdn_ok c.1 (by omega), Option.bind_some, rdn_ok c.1 (by omega), Option.bind_some, rdn_ok c.1 (by omega), Option.bind_some]
      show some (wrap (wrap (wrap (100000 * τ 36 a.toNat) + wrap (10 * τ 37 a.toNat)) + τ 38 a.toNat), _) = _
      rw [wrap_id (z := 100000 * τ 36 a.toNat) (by omega) (by omega), wrap_id (z := 10 * τ 37 a.toNat) (by omega) (by omega), wrap_id (z := 100000 * τ 36 a.toNat + 10 * τ 37 a.toNat) (by omega) (by omega), wrap_id (by omega) (by omega), g1]
  · rw [if_neg (fun q => c (isIn_iff.mp q)), if_neg (fun q => c (in_iff.mp q))]
    refine Or.inl ⟨0, 1, rfl, ?_, rfl, by decide, by decide⟩
    unfold B_X11_viewAt_20
    rw [bnd_eq, show b2i true = 1 from rfl, refused_n (by omega)]; rfl
theorem op_bound {σ τ : Sg} (a : Int) (h : RC σ τ) : Thr [(0, 1)] (F_X10_bound a σ) (F_X11_bound a τ) σ τ ∨ ∃ v, Okk (F_X10_bound a σ) (F_X11_bound a τ) v σ (up2 τ 0 0 0) := by
  obtain ⟨h1, h2, h3, h4, h5⟩ := h
  unfold F_X10_bound F_X11_bound F_X10_isName
  by_cases c : 0 ≤ a ∧ a ≤ 5
  · have g := h5 a.toNat (by omega)
    rw [if_pos (isIn_iff.mpr c), if_pos (in_iff.mpr c)]
    refine Or.inr ⟨σ 31 a.toNat, ?_, ?_, rfl⟩
    · unfold F_X1_placeOf; rw [rdD_ok c.1 (by omega)]
    · unfold B_X11_bound_15
      rw [bnd_eq, show b2i false = 0 from rfl, refused_0, if_neg (by simp), g]
      show (if τ 0 52 = -1 then _ else _) = _
      by_cases e : τ 0 52 = -1
      · rw [if_pos e, if_pos e]
      · rw [if_neg e, if_neg e, rdn_ok c.1 (by omega)]; rfl
  · rw [if_neg (fun q => c (isIn_iff.mp q)), if_neg (fun q => c (in_iff.mp q))]
    refine Or.inl ⟨0, 1, rfl, ?_, rfl, by decide, by decide⟩
    unfold B_X11_bound_15
    rw [bnd_eq, show b2i true = 1 from rfl, refused_n (by omega)]; rfl
theorem has4 {σ τ : Sg} {a : Int} (h : RM σ τ) : F_X4_has a σ = true ↔ 0 ≤ a ∧ a < τ 0 23 := by
  obtain ⟨h1, h2, h3, h4, h5⟩ := h
  unfold F_X4_has
  split
  · simp; omega
  · split
    · simp; omega
    · simp; omega
theorem isCase_iff {τ : Sg} {a : Int} (h : WFM τ) : F_X11_isCase a τ = true ↔ 0 ≤ a ∧ a < τ 0 23 := by
  obtain ⟨h1, h2, -⟩ := h
  unfold F_X11_isCase
  rw [in_iff, wrap_id (by omega) (by omega)]; omega
theorem get4 {σ τ : Sg} {a k : Int} (h : RM σ τ) (ha : 0 ≤ a ∧ a < τ 0 23) (hk : 0 ≤ k ∧ k ≤ 7) : F_X4_get a k σ = σ 26 (8 * a.toNat + k.toNat) := by
  have h8 := h.2.2.2.1.2.1
  unfold F_X4_get
  rw [if_pos ((has4 h).mpr ha), if_pos (isIn_iff.mpr hk), wrap_id (z := a * 8) (by omega) (by omega), wrap_id (by omega) (by omega), rdD_ok (by omega) (by omega), show (a * 8 + k).toNat = 8 * a.toNat + k.toNat by omega]
theorem op_taken {σ τ : Sg} (a : Int) (h : RM σ τ) : Thr [(0, 1)] (F_X10_taken a σ) (F_X11_taken a τ) σ τ ∨ ∃ v, Okk (F_X10_taken a σ) (F_X11_taken a τ) v σ (up2 τ 0 0 0) := by
  obtain ⟨h1, h2, h3, h4, h5⟩ := id h
  unfold F_X10_taken F_X11_taken
  by_cases c : 0 ≤ a ∧ a < τ 0 23
  · have g := h5 a.toNat (by omega)
    have h8 := h4.2.1
    rw [if_pos ((has4 h).mpr c), if_pos ((isCase_iff h4).mpr c)]
    refine Or.inr ⟨τ 25 a.toNat, ?_, ?_, rfl⟩
    · rw [get4 h c (by omega), show (7 : Int).toNat = 7 from rfl, g.2.2.2.2]
    · unfold B_X11_taken_14
      rw [bnd_eq, show b2i false = 0 from rfl, refused_0, if_neg (by simp), rdn_ok c.1 (by omega)]; rfl
  · rw [if_neg (fun q => c ((has4 h).mp q)), if_neg (fun q => c ((isCase_iff h4).mp q))]
    refine Or.inl ⟨0, 1, rfl, ?_, rfl, by decide, by decide⟩
    unfold B_X11_taken_14
    rw [bnd_eq, show b2i true = 1 from rfl, refused_n (by omega)]; rfl
theorem op_tests {σ τ : Sg} (h : RC σ τ) : F_X10_tests σ = (F_X11_tests τ).1 ∧ (F_X11_tests τ).2 = up2 τ 0 0 0 := ⟨h.1, rfl⟩
theorem op_views {σ τ : Sg} (h : RC σ τ) : F_X10_views σ = (F_X11_views τ).1 ∧ (F_X11_views τ).2 = up2 τ 0 0 0 := ⟨h.2.1, rfl⟩
def cW (σ : Sg) (v a b c m : Int) : Sg := up2 (up2 (up2 (up2 (F_X10_forgetEngines σ) 23 (v * 4 + 0).toNat a) 23 (v * 4 + 1).toNat b) 23 (v * 4 + 2).toNat c) 23 (v * 4 + 3).toNat m
def mW (τ : Sg) (v a b c m : Int) : Sg := up2 (up2 (up2 (up2 (up2 (up2 τ 0 0 0) 18 (4 * v).toNat a) 18 (4 * v + 1).toNat b) 18 (4 * v + 2).toNat c) 18 (4 * v + 3).toNat m) 0 54 (-1)
theorem op_setView {σ τ : Sg} (v a b c m : Int) (h : RW σ τ) : Thr [(0, 1), (1, 2)] (F_X10_setView v a b c m σ) (F_X11_setView v a b c m τ) σ τ ∨ ∃ w σ' τ', Okk (F_X10_setView v a b c m σ) (F_X11_setView v a b c m τ) w σ' τ' ∧ (∀ k, k ∉ [23, 33, 43, 49] → σ' k = σ k) ∧ (∀ k, k ∉ [0, 18] → τ' k = τ k) ∧ (∀ i, i ∉ [0, 54] → τ' 0 i = τ 0 i) ∧ RW σ' τ' ∧ NoEng σ σ' τ' := by
  obtain ⟨h1, h2⟩ := id h
  have hthrow : ∀ t : Int, ¬ t = 0 → B_X11_setView_76 v a b c m t τ = some (0, up2 τ 0 0 t) := fun t ht => by
    unfold B_X11_setView_76; rw [bnd_eq, refused_n ht]; rfl
  unfold F_X10_setView F_X11_setView F_X10_isView
  by_cases c1 : 0 ≤ v ∧ v ≤ 2
  · by_cases c2 : (-9 ≤ a ∧ a ≤ 9) ∧ (-9 ≤ b ∧ b ≤ 9) ∧ (-9 ≤ c ∧ c ≤ 9) ∧ (1 ≤ m ∧ m ≤ 10)
    · have em : F_X9_manyOf v (F_X10_forgetEngines σ) = τ 18 (4 * v + 3).toNat := by
        unfold F_X9_manyOf
        rw [wrap_id (z := v * 4) (by omega) (by omega), wrap_id (by omega) (by omega), rdD_ok (by omega) (by omega)]
        show σ 23 _ = _
        rw [h1 _ (by omega), show (v * 4 + 3).toNat = (4 * v + 3).toNat by omega]
      refine Or.inr ⟨τ 18 (4 * v + 3).toNat, cW σ v a b c m, mW τ v a b c m, ⟨?_, ?_, rfl⟩, ?_, ?_, ?_, ⟨?_, ?_⟩, rfl, rfl, rfl, rfl, rfl, rfl⟩
      · rw [if_pos (isIn_iff.mpr c1), if_pos (isIn_iff.mpr c2.1), if_pos (isIn_iff.mpr c2.2.1), if_pos (isIn_iff.mpr c2.2.2.1)]
        unfold B_X10_setView_46
        rw [if_pos rfl, if_pos (isIn_iff.mpr c2.2.2.2), bnd_eq, bnd_eq]
        unfold F_X9_change
        rw [em, bnd_eq]
        unfold cW
        simp (disch := omega) only [bnd_eq, bind_some', wrap_id, rdn_ok, wrn_ok, wbn_ok, rdD_ok, rdD_out, wrD_ok, wrD_out, up2_at, up2_row, up2_idx, iter_s, itp, itn, isIn_iff, in_iff, ↓reduceIte, reduceCtorEq]
      · rw [if_pos (in_iff.mpr c2.1), if_pos (in_iff.mpr c2.2.1), if_pos (in_iff.mpr c2.2.2.1), if_pos (in_iff.mpr c2.2.2.2)]
        unfold B_X11_setView_50
        rw [if_pos (in_iff.mpr c1), if_pos rfl]
        unfold B_X11_setView_76 mW
        simp (disch := omega) only [bnd_eq, bind_some', wrap_id, rdn_ok, wrn_ok, wbn_ok, rdD_ok, rdD_out, wrD_ok, wrD_out, up2_at, up2_row, up2_idx, iter_s, itp, itn, isIn_iff, in_iff, ↓reduceIte, reduceCtorEq, refused_0, Bool.false_eq_true]
      · intro k hk
        simp only [List.mem_cons, List.not_mem_nil, or_false, not_or] at hk
        unfold cW; rw [forget_eq]; funext i
        simp (disch := omega) only [bnd_eq, bind_some', wrap_id, rdn_ok, wrn_ok, wbn_ok, rdD_ok, rdD_out, wrD_ok, wrD_out, up2_at, up2_row, up2_idx, iter_s, itp, itn, isIn_iff, in_iff, ↓reduceIte, reduceCtorEq]
      · intro k hk
        simp only [List.mem_cons, List.not_mem_nil, or_false, not_or] at hk
        unfold mW; funext i
        simp (disch := omega) only [bnd_eq, bind_some', wrap_id, rdn_ok, wrn_ok, wbn_ok, rdD_ok, rdD_out, wrD_ok, wrD_out, up2_at, up2_row, up2_idx, iter_s, itp, itn, isIn_iff, in_iff, ↓reduceIte, reduceCtorEq]
      · intro i hi
        simp only [List.mem_cons, List.not_mem_nil, or_false, not_or] at hi
        unfold mW
        simp (disch := omega) only [bnd_eq, bind_some', wrap_id, rdn_ok, wrn_ok, wbn_ok, rdD_ok, rdD_out, wrD_ok, wrD_out, up2_at, up2_row, up2_idx, iter_s, itp, itn, isIn_iff, in_iff, ↓reduceIte, reduceCtorEq]
      · intro i hi
        have := h1 i hi
        unfold cW mW
        rw [forget_eq]
        have e0 : (v * 4 + 0).toNat = (4 * v).toNat := by omega
        have e1 : (v * 4 + 1).toNat = (4 * v + 1).toNat := by omega
        have e2 : (v * 4 + 2).toNat = (4 * v + 2).toNat := by omega
        have e3 : (v * 4 + 3).toNat = (4 * v + 3).toNat := by omega
        rw [e0, e1, e2, e3]
        by_cases f3 : i = (4 * v + 3).toNat
        · simp (disch := omega) only [bnd_eq, bind_some', wrap_id, rdn_ok, wrn_ok, wbn_ok, rdD_ok, rdD_out, wrD_ok, wrD_out, up2_at, up2_row, up2_idx, iter_s, itp, itn, isIn_iff, in_iff, ↓reduceIte, reduceCtorEq]
        · by_cases f2 : i = (4 * v + 2).toNat
          · simp (disch := omega) only [bnd_eq, bind_some', wrap_id, rdn_ok, wrn_ok, wbn_ok, rdD_ok, rdD_out, wrD_ok, wrD_out, up2_at, up2_row, up2_idx, iter_s, itp, itn, isIn_iff, in_iff, ↓reduceIte, reduceCtorEq]
          · by_cases f1 : i = (4 * v + 1).toNat
            · simp (disch := omega) only [bnd_eq, bind_some', wrap_id, rdn_ok, wrn_ok, wbn_ok, rdD_ok, rdD_out, wrD_ok, wrD_out, up2_at, up2_row, up2_idx, iter_s, itp, itn, isIn_iff, in_iff, ↓reduceIte, reduceCtorEq]
            · by_cases f0 : i = (4 * v).toNat
              · simp (disch := omega) only [bnd_eq, bind_some', wrap_id, rdn_ok, wrn_ok, wbn_ok, rdD_ok, rdD_out, wrD_ok, wrD_out, up2_at, up2_row, up2_idx, iter_s, itp, itn, isIn_iff, in_iff, ↓reduceIte, reduceCtorEq]
              · simp (disch := omega) only [bnd_eq, bind_some', wrap_id, rdn_ok, wrn_ok, wbn_ok, rdD_ok, rdD_out, wrD_ok, wrD_out, up2_at, up2_row, up2_idx, iter_s, itp, itn, isIn_iff, in_iff, ↓reduceIte, reduceCtorEq]
                exact this
      · intro w hw
        obtain ⟨g1, g2, g3⟩ := h2 w hw
        unfold mW
        by_cases f : w = v.toNat
        · subst f
          simp (disch := omega) only [bnd_eq, bind_some', wrap_id, rdn_ok, wrn_ok, wbn_ok, rdD_ok, rdD_out, wrD_ok, wrD_out, up2_at, up2_row, up2_idx, iter_s, itp, itn, isIn_iff, in_iff, ↓reduceIte, reduceCtorEq]
          refine ⟨by omega, by omega, fun j hj => ?_⟩
          have : j = 0 ∨ j = 1 ∨ j = 2 := by omega
          rcases this with rfl | rfl | rfl
          · simp (disch := omega) only [bnd_eq, bind_some', wrap_id, rdn_ok, wrn_ok, wbn_ok, rdD_ok, rdD_out, wrD_ok, wrD_out, up2_at, up2_row, up2_idx, iter_s, itp, itn, isIn_iff, in_iff, ↓reduceIte, reduceCtorEq]; omega
          · simp (disch := omega) only [bnd_eq, bind_some', wrap_id, rdn_ok, wrn_ok, wbn_ok, rdD_ok, rdD_out, wrD_ok, wrD_out, up2_at, up2_row, up2_idx, iter_s, itp, itn, isIn_iff, in_iff, ↓reduceIte, reduceCtorEq]; omega
          · simp (disch := omega) only [bnd_eq, bind_some', wrap_id, rdn_ok, wrn_ok, wbn_ok, rdD_ok, rdD_out, wrD_ok, wrD_out, up2_at, up2_row, up2_idx, iter_s, itp, itn, isIn_iff, in_iff, ↓reduceIte, reduceCtorEq]; omega
        · simp (disch := omega) only [bnd_eq, bind_some', wrap_id, rdn_ok, wrn_ok, wbn_ok, rdD_ok, rdD_out, wrD_ok, wrD_out, up2_at, up2_row, up2_idx, iter_s, itp, itn, isIn_iff, in_iff, ↓reduceIte, reduceCtorEq]
          refine ⟨g1, g2, fun j hj => ?_⟩
          simp (disch := omega) only [bnd_eq, bind_some', wrap_id, rdn_ok, wrn_ok, wbn_ok, rdD_ok, rdD_out, wrD_ok, wrD_out, up2_at, up2_row, up2_idx, iter_s, itp, itn, isIn_iff, in_iff, ↓reduceIte, reduceCtorEq]
          exact g3 j hj
    · refine Or.inl ⟨1, 2, ?_, ?_, rfl, by decide, by decide⟩
      · rw [if_pos (isIn_iff.mpr c1)]
        unfold B_X10_setView_45 B_X10_setView_46
        by_cases f1 : -9 ≤ a ∧ a ≤ 9
        · by_cases f2 : -9 ≤ b ∧ b ≤ 9
          · by_cases f3 : -9 ≤ c ∧ c ≤ 9
            · simp (disch := omega) only [bnd_eq, bind_some', wrap_id, rdn_ok, wrn_ok, wbn_ok, rdD_ok, rdD_out, wrD_ok, wrD_out, up2_at, up2_row, up2_idx, iter_s, itp, itn, isIn_iff, in_iff, ↓reduceIte, reduceCtorEq, Bool.false_eq_true]
            · simp (disch := omega) only [bnd_eq, bind_some', wrap_id, rdn_ok, wrn_ok, wbn_ok, rdD_ok, rdD_out, wrD_ok, wrD_out, up2_at, up2_row, up2_idx, iter_s, itp, itn, isIn_iff, in_iff, ↓reduceIte, reduceCtorEq, Bool.false_eq_true]
          · simp (disch := omega) only [bnd_eq, bind_some', wrap_id, rdn_ok, wrn_ok, wbn_ok, rdD_ok, rdD_out, wrD_ok, wrD_out, up2_at, up2_row, up2_idx, iter_s, itp, itn, isIn_iff, in_iff, ↓reduceIte, reduceCtorEq, Bool.false_eq_true]
        · simp (disch := omega) only [bnd_eq, bind_some', wrap_id, rdn_ok, wrn_ok, wbn_ok, rdD_ok, rdD_out, wrD_ok, wrD_out, up2_at, up2_row, up2_idx, iter_s, itp, itn, isIn_iff, in_iff, ↓reduceIte, reduceCtorEq, Bool.false_eq_true]
      · unfold B_X11_setView_49 B_X11_setView_50
        by_cases f1 : -9 ≤ a ∧ a ≤ 9
        · by_cases f2 : -9 ≤ b ∧ b ≤ 9
          · by_cases f3 : -9 ≤ c ∧ c ≤ 9
            · simp (disch := omega) only [bnd_eq, bind_some', wrap_id, rdn_ok, wrn_ok, wbn_ok, rdD_ok, rdD_out, wrD_ok, wrD_out, up2_at, up2_row, up2_idx, iter_s, itp, itn, isIn_iff, in_iff, ↓reduceIte, reduceCtorEq, Bool.false_eq_true, hthrow]
            · simp (disch := omega) only [bnd_eq, bind_some', wrap_id, rdn_ok, wrn_ok, wbn_ok, rdD_ok, rdD_out, wrD_ok, wrD_out, up2_at, up2_row, up2_idx, iter_s, itp, itn, isIn_iff, in_iff, ↓reduceIte, reduceCtorEq, Bool.false_eq_true, hthrow]
          · simp (disch := omega) only [bnd_eq, bind_some', wrap_id, rdn_ok, wrn_ok, wbn_ok, rdD_ok, rdD_out, wrD_ok, wrD_out, up2_at, up2_row, up2_idx, iter_s, itp, itn, isIn_iff, in_iff, ↓reduceIte, reduceCtorEq, Bool.false_eq_true, hthrow]
        · simp (disch := omega) only [bnd_eq, bind_some', wrap_id, rdn_ok, wrn_ok, wbn_ok, rdD_ok, rdD_out, wrD_ok, wrD_out, up2_at, up2_row, up2_idx, iter_s, itp, itn, isIn_iff, in_iff, ↓reduceIte, reduceCtorEq, Bool.false_eq_true, hthrow]
  · refine Or.inl ⟨0, 1, ?_, ?_, rfl, by decide, by decide⟩
    · rw [if_neg (fun q => c1 (isIn_iff.mp q))]
    · unfold B_X11_setView_49 B_X11_setView_50
      rw [if_neg (fun q => c1 (in_iff.mp q)), if_neg (fun q => c1 (in_iff.mp q)), hthrow 1 (by omega)]
      split
      · split
        · split
          · split <;> rfl
          · rfl
        · rfl
      · rfl
