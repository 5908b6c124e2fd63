/-! begin -/
theorem bgC_s {a2 a3 a4 a5 i : Int} {σ : Sg} (hi : 0 ≤ i ∧ i < 3) (h : okf a2 i (F_X10_pick i a3 a4 a5)) : L_X10_begin_12 a2 a3 a4 a5 σ i = some (.inl (i + 1)) := by
  unfold okf at h
  unfold L_X10_begin_12
  rcases h with ⟨h1, h2⟩ | ⟨h1, h2⟩
  · simp (disch := omega) only [bnd_eq, bind_some', wrap_id, rdn_ok, wrn_ok, wbn_ok, rdD_ok, rdD_out, wrD_ok, wrD_out, up2_at, up2_row, up2_idx, iter_s, itp, itn, isIn_iff, in_iff, ↓reduceIte, reduceCtorEq, B_X10_begin_53, isKind_iff]
  · simp (disch := omega) only [bnd_eq, bind_some', wrap_id, rdn_ok, wrn_ok, wbn_ok, rdD_ok, rdD_out, wrD_ok, wrD_out, up2_at, up2_row, up2_idx, iter_s, itp, itn, isIn_iff, in_iff, ↓reduceIte, reduceCtorEq, B_X10_begin_53, isKind_iff]
theorem bgC_f {a2 a3 a4 a5 i : Int} {σ : Sg} (hi : 0 ≤ i ∧ i < 3) (h : ¬ okf a2 i (F_X10_pick i a3 a4 a5)) : L_X10_begin_12 a2 a3 a4 a5 σ i = some (.inr (.inr (.inr 1, σ))) := by
  unfold okf at h
  unfold L_X10_begin_12
  by_cases h1 : i < a2
  · have h2 : ¬ F_X2_isKind (F_X10_pick i a3 a4 a5) = true := fun q => h (Or.inl ⟨h1, isKind_iff.mp q⟩)
    simp (disch := omega) only [bnd_eq, bind_some', wrap_id, rdn_ok, wrn_ok, wbn_ok, rdD_ok, rdD_out, wrD_ok, wrD_out, up2_at, up2_row, up2_idx, iter_s, itp, itn, isIn_iff, in_iff, ↓reduceIte, reduceCtorEq, B_X10_begin_53, if_neg h2]
  · simp (disch := omega) only [bnd_eq, bind_some', wrap_id, rdn_ok, wrn_ok, wbn_ok, rdD_ok, rdD_out, wrD_ok, wrD_out, up2_at, up2_row, up2_idx, iter_s, itp, itn, isIn_iff, in_iff, ↓reduceIte, reduceCtorEq, B_X10_begin_53]
theorem bgM_s {a2 a3 a4 a5 i : Int} {σ : Sg} {x : Bool} (hi : 0 ≤ i ∧ i < 3) : ∃ y, L_X11_begin_11 a2 a3 a4 a5 σ x i = some (.inl (y, i + 1)) ∧ (y = true ↔ x = true ∧ okf a2 i (F_X10_pick i a3 a4 a5)) := by
  unfold okf L_X11_begin_11
  cases x with
  | false => simp (disch := omega) only [bnd_eq, bind_some', wrap_id, rdn_ok, wrn_ok, wbn_ok, rdD_ok, rdD_out, wrD_ok, wrD_out, up2_at, up2_row, up2_idx, iter_s, itp, itn, isIn_iff, in_iff, ↓reduceIte, reduceCtorEq, B_X11_begin_59, B_X11_begin_60]; exact ⟨_, rfl, by simp⟩
  | true =>
    by_cases h1 : i < a2
    · by_cases h2 : 0 ≤ F_X10_pick i a3 a4 a5 ∧ F_X10_pick i a3 a4 a5 ≤ 5
      · simp (disch := omega) only [bnd_eq, bind_some', wrap_id, rdn_ok, wrn_ok, wbn_ok, rdD_ok, rdD_out, wrD_ok, wrD_out, up2_at, up2_row, up2_idx, iter_s, itp, itn, isIn_iff, in_iff, ↓reduceIte, reduceCtorEq, B_X11_begin_55, B_X11_begin_59, B_X11_begin_60, isKind11_iff, qick]; exact ⟨_, rfl, by simp; omega⟩
      · simp (disch := omega) only [bnd_eq, bind_some', wrap_id, rdn_ok, wrn_ok, wbn_ok, rdD_ok, rdD_out, wrD_ok, wrD_out, up2_at, up2_row, up2_idx, iter_s, itp, itn, isIn_iff, in_iff, ↓reduceIte, reduceCtorEq, B_X11_begin_55, B_X11_begin_59, B_X11_begin_60, isKind11_iff, qick]; exact ⟨_, rfl, by simp; omega⟩
    · by_cases h2 : F_X10_pick i a3 a4 a5 = 0
      · simp (disch := omega) only [bnd_eq, bind_some', wrap_id, rdn_ok, wrn_ok, wbn_ok, rdD_ok, rdD_out, wrD_ok, wrD_out, up2_at, up2_row, up2_idx, iter_s, itp, itn, isIn_iff, in_iff, ↓reduceIte, reduceCtorEq, B_X11_begin_55, B_X11_begin_59, B_X11_begin_60, isKind11_iff, qick]; exact ⟨_, rfl, by simp; omega⟩
      · simp (disch := omega) only [bnd_eq, bind_some', wrap_id, rdn_ok, wrn_ok, wbn_ok, rdD_ok, rdD_out, wrD_ok, wrD_out, up2_at, up2_row, up2_idx, iter_s, itp, itn, isIn_iff, in_iff, ↓reduceIte, reduceCtorEq, B_X11_begin_55, B_X11_begin_59, B_X11_begin_60, isKind11_iff, qick]; exact ⟨_, rfl, by simp; omega⟩
theorem fillF_row {σ : Sg} {k n k' i : Nat} {x : Int} (h : ¬ k' = k) : fillF σ k n x k' i = σ k' i := by unfold fillF; rw [if_neg (fun q => h q.1)]
theorem fillF_at {σ : Sg} {k n i : Nat} {x : Int} (h : i < n) : fillF σ k n x k i = x := by unfold fillF; rw [if_pos ⟨rfl, h⟩]
def cB (σ : Sg) (a1 a2 a3 a4 : Int) : Sg := up2 (up2 (up2 (up2 (up2 (fillF (up2 (up2 (F_X10_forgetEngines σ) 27 3 0) 27 4 0) 31 6 (-1)) 24 0 a1) 24 1 0) 25 0 a2) 25 1 a3) 25 2 a4
def mB (τ : Sg) (a1 a2 a3 a4 : Int) : Sg := up2 (up2 (up2 (up2 (up2 (up2 (up2 (up2 (up2 (up2 τ 0 0 0) 0 21 a1) 19 0 a2) 19 1 a3) 19 2 a4) 0 23 0) 0 47 0) 0 48 0) 0 52 (-1)) 0 54 (-1)
set_option maxHeartbeats 4000000 in
theorem op_begin {σ τ : Sg} (a1 a2 a3 a4 : Int) (h : RM σ τ) : Thr [(1, 1)] (F_X10_begin a1 a2 a3 a4 σ) (F_X11_begin a1 a2 a3 a4 τ) σ τ ∨ ∃ v σ' τ', Okk (F_X10_begin a1 a2 a3 a4 σ) (F_X11_begin a1 a2 a3 a4 τ) v σ' τ' ∧ (∀ k, k ∉ [24, 25, 27, 31, 33, 43, 49] → σ' k = σ k) ∧ (∀ k, k ∉ [0, 19] → τ' k = τ k) ∧ (∀ i, i ∉ [0, 21, 23, 47, 48, 52, 54] → τ' 0 i = τ 0 i) ∧ RM σ' τ' ∧ RC σ' τ' ∧ NoEng σ σ' τ' := by
  obtain ⟨h1, h2, h3, h4, h5⟩ := id h
  unfold F_X10_begin F_X11_begin
  obtain ⟨b, hb1, hb2⟩ := for_fl (f := fun a : Bool × Int => L_X11_begin_11 a1 a2 a3 a4 τ a.1 a.2) (n := 3) (P := fun i => okf a1 i (F_X10_pick i a2 a3 a4)) (fun x => rfl) 4 0 (F_X11_in a1 1 3) (by omega) (by omega) (fun x j g1 g2 => bgM_s ⟨g1, g2⟩)
  rw [in_iff] at hb2
  rw [bnd_eq (x := F_X11_in a1 1 3), hb1, Option.bind_some]
  have hthrow : B_X11_begin_79 a1 a2 a3 a4 true τ = some (0, up2 τ 0 0 1) := by
    unfold B_X11_begin_79; rw [bnd_eq, show b2i true = 1 from rfl, refused_n (by omega)]; rfl
  by_cases c1 : 1 ≤ a1 ∧ a1 ≤ 3
  · rw [if_pos (isIn_iff.mpr c1)]
    by_cases c3 : ∀ i : Int, 0 ≤ i → i < 3 → okf a1 i (F_X10_pick i a2 a3 a4)
    · have hbt : b = true := hb2.mpr ⟨c1, c3⟩
      subst hbt
      rw [for_ok (f := fun a : Int => L_X10_begin_12 a1 a2 a3 a4 σ a) (n := 3) (e := .inl ()) rfl 4 0 (by omega) (by omega) (fun j j1 j2 => bgC_s ⟨j1, j2⟩ (c3 j j1 j2)), Option.bind_some, Sum.elim_inl, if_pos rfl]
      obtain ⟨o0, o1, o2⟩ := all3.mp c3
      rw [pick0] at o0; rw [pick1] at o1; rw [pick2] at o2
      unfold okf at o0 o1 o2
      have hN : NoEng σ (cB σ a1 a2 a3 a4) (mB τ a1 a2 a3 a4) := by
        unfold NoEng cB mB
        refine ⟨?_, ?_, ?_, rfl, ?_, ?_⟩
        · simp (disch := omega) only [bnd_eq, bind_some', wrap_id, rdn_ok, wrn_ok, wbn_ok, rdD_ok, rdD_out, wrD_ok, wrD_out, up2_at, up2_row, up2_idx, iter_s, itp, itn, isIn_iff, in_iff, ↓reduceIte, reduceCtorEq, fillF_row, forget_eq]
        · simp (disch := omega) only [bnd_eq, bind_some', wrap_id, rdn_ok, wrn_ok, wbn_ok, rdD_ok, rdD_out, wrD_ok, wrD_out, up2_at, up2_row, up2_idx, iter_s, itp, itn, isIn_iff, in_iff, ↓reduceIte, reduceCtorEq, fillF_row, forget_eq]
        · simp (disch := omega) only [bnd_eq, bind_some', wrap_id, rdn_ok, wrn_ok, wbn_ok, rdD_ok, rdD_out, wrD_ok, wrD_out, up2_at, up2_row, up2_idx, iter_s, itp, itn, isIn_iff, in_iff, ↓reduceIte, reduceCtorEq, fillF_row, forget_eq]
        · simp (disch := omega) only [bnd_eq, bind_some', wrap_id, rdn_ok, wrn_ok, wbn_ok, rdD_ok, rdD_out, wrD_ok, wrD_out, up2_at, up2_row, up2_idx, iter_s, itp, itn, isIn_iff, in_iff, ↓reduceIte, reduceCtorEq, fillF_row, forget_eq]
        · simp (disch := omega) only [bnd_eq, bind_some', wrap_id, rdn_ok, wrn_ok, wbn_ok, rdD_ok, rdD_out, wrD_ok, wrD_out, up2_at, up2_row, up2_idx, iter_s, itp, itn, isIn_iff, in_iff, ↓reduceIte, reduceCtorEq, fillF_row, forget_eq]
      refine Or.inr ⟨σ 24 1, cB σ a1 a2 a3 a4, mB τ a1 a2 a3 a4, ⟨?_, ?_, rfl⟩, ?_, ?_, ?_, ?_, ?_, hN⟩
      · rw [bnd_eq, bnd_eq]
        unfold F_X4_start F_X1_clear F_X1_unbind cB
        simp (disch := omega) only [bnd_eq, bind_some', wrap_id, rdn_ok, wrn_ok, wbn_ok, rdD_ok, rdD_out, wrD_ok, wrD_out, up2_at, up2_row, up2_idx, iter_s, itp, itn, isIn_iff, in_iff, ↓reduceIte, reduceCtorEq, L_X4_start_19, F_X10_pick, fillF_row, forget_eq]
        rfl
      · unfold B_X11_begin_79 mB
        rw [show b2i false = 0 from rfl]
        simp (disch := omega) only [bnd_eq, bind_some', wrap_id, rdn_ok, wrn_ok, wbn_ok, rdD_ok, rdD_out, wrD_ok, wrD_out, up2_at, up2_row, up2_idx, iter_s, itp, itn, isIn_iff, in_iff, ↓reduceIte, reduceCtorEq, refused_0, L_X11_begin_101, F_X11_pick, Bool.false_eq_true]
        rw [h2]; rfl
      · intro k hk
        simp only [List.mem_cons, List.not_mem_nil, or_false, not_or] at hk
        unfold cB; funext i
        simp (disch := omega) only [bnd_eq, bind_some', wrap_id, rdn_ok, wrn_ok, wbn_ok, rdD_ok, rdD_out, wrD_ok, wrD_out, up2_at, up2_row, up2_idx, iter_s, itp, itn, isIn_iff, in_iff, ↓reduceIte, reduceCtorEq, fillF_row, forget_eq]
      · intro k hk
        simp only [List.mem_cons, List.not_mem_nil, or_false, not_or] at hk
        unfold mB; funext i
        simp (disch := omega) only [bnd_eq, bind_some', wrap_id, rdn_ok, wrn_ok, wbn_ok, rdD_ok, rdD_out, wrD_ok, wrD_out, up2_at, up2_row, up2_idx, iter_s, itp, itn, isIn_iff, in_iff, ↓reduceIte, reduceCtorEq]
      · intro i hi
        simp only [List.mem_cons, List.not_mem_nil, or_false, not_or] at hi
        unfold mB
        simp (disch := omega) only [bnd_eq, bind_some', wrap_id, rdn_ok, wrn_ok, wbn_ok, rdD_ok, rdD_out, wrD_ok, wrD_out, up2_at, up2_row, up2_idx, iter_s, itp, itn, isIn_iff, in_iff, ↓reduceIte, reduceCtorEq]
      · have r21 : mB τ a1 a2 a3 a4 0 21 = a1 := by unfold mB; simp (disch := omega) only [bnd_eq, bind_some', wrap_id, rdn_ok, wrn_ok, wbn_ok, rdD_ok, rdD_out, wrD_ok, wrD_out, up2_at, up2_row, up2_idx, iter_s, itp, itn, isIn_iff, in_iff, ↓reduceIte, reduceCtorEq]
        have r23 : mB τ a1 a2 a3 a4 0 23 = 0 := by unfold mB; simp (disch := omega) only [bnd_eq, bind_some', wrap_id, rdn_ok, wrn_ok, wbn_ok, rdD_ok, rdD_out, wrD_ok, wrD_out, up2_at, up2_row, up2_idx, iter_s, itp, itn, isIn_iff, in_iff, ↓reduceIte, reduceCtorEq]
        have r190 : mB τ a1 a2 a3 a4 19 0 = a2 := by unfold mB; simp (disch := omega) only [bnd_eq, bind_some', wrap_id, rdn_ok, wrn_ok, wbn_ok, rdD_ok, rdD_out, wrD_ok, wrD_out, up2_at, up2_row, up2_idx, iter_s, itp, itn, isIn_iff, in_iff, ↓reduceIte, reduceCtorEq]
        have r191 : mB τ a1 a2 a3 a4 19 1 = a3 := by unfold mB; simp (disch := omega) only [bnd_eq, bind_some', wrap_id, rdn_ok, wrn_ok, wbn_ok, rdD_ok, rdD_out, wrD_ok, wrD_out, up2_at, up2_row, up2_idx, iter_s, itp, itn, isIn_iff, in_iff, ↓reduceIte, reduceCtorEq]
        have r192 : mB τ a1 a2 a3 a4 19 2 = a4 := by unfold mB; simp (disch := omega) only [bnd_eq, bind_some', wrap_id, rdn_ok, wrn_ok, wbn_ok, rdD_ok, rdD_out, wrD_ok, wrD_out, up2_at, up2_row, up2_idx, iter_s, itp, itn, isIn_iff, in_iff, ↓reduceIte, reduceCtorEq]
        refine ⟨?_, ?_, fun k hk => ?_, ⟨by omega, by omega, fun k hk => ?_, fun _ => r23, fun c hc => by omega⟩, fun c hc => by omega⟩
        · rw [r21]; unfold cB; simp (disch := omega) only [bnd_eq, bind_some', wrap_id, rdn_ok, wrn_ok, wbn_ok, rdD_ok, rdD_out, wrD_ok, wrD_out, up2_at, up2_row, up2_idx, iter_s, itp, itn, isIn_iff, in_iff, ↓reduceIte, reduceCtorEq]
        · rw [r23]; unfold cB; simp (disch := omega) only [bnd_eq, bind_some', wrap_id, rdn_ok, wrn_ok, wbn_ok, rdD_ok, rdD_out, wrD_ok, wrD_out, up2_at, up2_row, up2_idx, iter_s, itp, itn, isIn_iff, in_iff, ↓reduceIte, reduceCtorEq]
        · have : k = 0 ∨ k = 1 ∨ k = 2 := by omega
          rcases this with rfl | rfl | rfl
          · rw [r190]; unfold cB; simp (disch := omega) only [bnd_eq, bind_some', wrap_id, rdn_ok, wrn_ok, wbn_ok, rdD_ok, rdD_out, wrD_ok, wrD_out, up2_at, up2_row, up2_idx, iter_s, itp, itn, isIn_iff, in_iff, ↓reduceIte, reduceCtorEq]
          · rw [r191]; unfold cB; simp (disch := omega) only [bnd_eq, bind_some', wrap_id, rdn_ok, wrn_ok, wbn_ok, rdD_ok, rdD_out, wrD_ok, wrD_out, up2_at, up2_row, up2_idx, iter_s, itp, itn, isIn_iff, in_iff, ↓reduceIte, reduceCtorEq]
          · rw [r192]; unfold cB; simp (disch := omega) only [bnd_eq, bind_some', wrap_id, rdn_ok, wrn_ok, wbn_ok, rdD_ok, rdD_out, wrD_ok, wrD_out, up2_at, up2_row, up2_idx, iter_s, itp, itn, isIn_iff, in_iff, ↓reduceIte, reduceCtorEq]
        · have : k = 0 ∨ k = 1 ∨ k = 2 := by omega
          rcases this with rfl | rfl | rfl
          · rw [r190]; omega
          · rw [r191]; omega
          · rw [r192]; omega
      · have r48 : mB τ a1 a2 a3 a4 0 48 = 0 := by unfold mB; simp (disch := omega) only [bnd_eq, bind_some', wrap_id, rdn_ok, wrn_ok, wbn_ok, rdD_ok, rdD_out, wrD_ok, wrD_out, up2_at, up2_row, up2_idx, iter_s, itp, itn, isIn_iff, in_iff, ↓reduceIte, reduceCtorEq]
        refine ⟨?_, ?_, by omega, fun i hi => by omega, fun i hi => ?_⟩
        · unfold cB mB; simp (disch := omega) only [bnd_eq, bind_some', wrap_id, rdn_ok, wrn_ok, wbn_ok, rdD_ok, rdD_out, wrD_ok, wrD_out, up2_at, up2_row, up2_idx, iter_s, itp, itn, isIn_iff, in_iff, ↓reduceIte, reduceCtorEq, fillF_row]
        · rw [r48]; unfold cB; simp (disch := omega) only [bnd_eq, bind_some', wrap_id, rdn_ok, wrn_ok, wbn_ok, rdD_ok, rdD_out, wrD_ok, wrD_out, up2_at, up2_row, up2_idx, iter_s, itp, itn, isIn_iff, in_iff, ↓reduceIte, reduceCtorEq, fillF_row]
        · rw [if_pos (show mB τ a1 a2 a3 a4 0 52 = -1 by unfold mB; simp (disch := omega) only [bnd_eq, bind_some', wrap_id, rdn_ok, wrn_ok, wbn_ok, rdD_ok, rdD_out, wrD_ok, wrD_out, up2_at, up2_row, up2_idx, iter_s, itp, itn, isIn_iff, in_iff, ↓reduceIte, reduceCtorEq])]
          unfold cB; simp (disch := omega) only [bnd_eq, bind_some', wrap_id, rdn_ok, wrn_ok, wbn_ok, rdD_ok, rdD_out, wrD_ok, wrD_out, up2_at, up2_row, up2_idx, iter_s, itp, itn, isIn_iff, in_iff, ↓reduceIte, reduceCtorEq, fillF_at]
    · have hbf : ¬ b = true := fun q => c3 (hb2.mp q).2
      refine Or.inl ⟨1, 1, ?_, ?_, rfl, by decide, by decide⟩
      · rw [for_no (f := fun a : Int => L_X10_begin_12 a1 a2 a3 a4 σ a) (n := 3) (r := .inr (.inr 1, σ)) (P := fun i => okf a1 i (F_X10_pick i a2 a3 a4)) 4 0 (by omega) (by omega) (fun j g1 g2 g3 => bgC_s ⟨g1, g2⟩ g3) (fun j g1 g2 g3 => bgC_f ⟨g1, g2⟩ g3) c3]; rfl
      · rw [if_neg hbf, hthrow]
  · have hbf : ¬ b = true := fun q => c1 (hb2.mp q).1
    refine Or.inl ⟨1, 1, ?_, ?_, rfl, by decide, by decide⟩
    · rw [if_neg (fun q => c1 (isIn_iff.mp q))]
    · rw [if_neg hbf, hthrow]
