/-! values: one more -/
def cV (σ : Sg) (k h p0 p1 p2 m : Int) : Sg := up2 (up2 (up2 (up2 (up2 (up2 (up2 σ 5 0 (σ 5 0 + 1)) 6 (σ 5 0).toNat k) 7 (σ 5 0).toNat h) 9 (σ 5 0 * 3 + 0).toNat p0) 9 (σ 5 0 * 3 + (0 + 1)).toNat p1) 9 (σ 5 0 * 3 + (0 + 1 + 1)).toNat p2) 8 (σ 5 0).toNat m
def mV (τ : Sg) (k h p0 p1 p2 m : Int) : Sg := up2 (up2 (up2 (up2 (up2 (up2 (up2 τ 4 (τ 0 4).toNat k) 5 (τ 0 4).toNat h) 6 (3 * τ 0 4).toNat p0) 6 (3 * τ 0 4 + 1).toNat p1) 6 (3 * τ 0 4 + 2).toNat p2) 7 (τ 0 4).toNat m) 0 4 (τ 0 4 + 1)
theorem value_c {τ : Sg} {k h p0 p1 p2 m : Int} (hn : 0 ≤ τ 0 4 ∧ τ 0 4 < 40) : F_X11_value k h p0 p1 p2 m τ = some (τ 0 4, mV τ k h p0 p1 p2 (jrem m 97)) := by
  unfold F_X11_value mV
  simp (disch := omega) only [bnd_eq, bind_some', wrap_id, rdn_ok, wrn_ok, wbn_ok, rdD_ok, rdD_out, wrD_ok, wrD_out, up2_at, up2_row, up2_idx, iter_s, itp, itn, isIn_iff, in_iff, ↓reduceIte, reduceCtorEq]
  congr 2
  omega
theorem cV_row {σ : Sg} {k h p0 p1 p2 m : Int} : ∀ r, r ∉ [5, 6, 7, 8, 9] → cV σ k h p0 p1 p2 m r = σ r := by
  intro r hr
  simp only [List.mem_cons, List.not_mem_nil, or_false, not_or] at hr
  unfold cV; funext i
  simp (disch := omega) only [bnd_eq, bind_some', wrap_id, rdn_ok, wrn_ok, wbn_ok, rdD_ok, rdD_out, wrD_ok, wrD_out, up2_at, up2_row, up2_idx, iter_s, itp, itn, isIn_iff, in_iff, ↓reduceIte, reduceCtorEq]
theorem mV_row {τ : Sg} {k h p0 p1 p2 m : Int} : ∀ r, r ∉ [0, 4, 5, 6, 7] → mV τ k h p0 p1 p2 m r = τ r := by
  intro r hr
  simp only [List.mem_cons, List.not_mem_nil, or_false, not_or] at hr
  unfold mV; funext i
  simp (disch := omega) only [bnd_eq, bind_some', wrap_id, rdn_ok, wrn_ok, wbn_ok, rdD_ok, rdD_out, wrD_ok, wrD_out, up2_at, up2_row, up2_idx, iter_s, itp, itn, isIn_iff, in_iff, ↓reduceIte, reduceCtorEq]
theorem mV_0 {τ : Sg} {k h p0 p1 p2 m : Int} : ∀ i, ¬ i = 4 → mV τ k h p0 p1 p2 m 0 i = τ 0 i := by
  intro i hi
  unfold mV
  simp (disch := omega) only [bnd_eq, bind_some', wrap_id, rdn_ok, wrn_ok, wbn_ok, rdD_ok, rdD_out, wrD_ok, wrD_out, up2_at, up2_row, up2_idx, iter_s, itp, itn, isIn_iff, in_iff, ↓reduceIte, reduceCtorEq]
set_option maxHeartbeats 4000000 in
theorem RV.push {σ τ : Sg} {k h p0 p1 p2 q0 q1 q2 m : Int} (hr : RV σ τ) (hK : WFK (τ 1) (τ 2) (τ 3)) (hn : τ 0 4 < 40) (hk : 0 ≤ k ∧ k ≤ 5) (hm : 0 ≤ m ∧ m < 97) (hh : 0 ≤ h)
    (h4 : k = 4 → h ≤ 9 ∧ m = h ∧ q0 = -1 ∧ q1 = -1 ∧ q2 = -1)
    (h5 : k = 5 → h ≤ 3 ∧ (0 ≤ p0 ∧ p0 ≤ 9) ∧ (0 ≤ p1 ∧ p1 ≤ 9) ∧ (0 ≤ p2 ∧ p2 ≤ 9) ∧ q0 = (if 0 < h then 40 + p0 else -1) ∧ q1 = (if 1 < h then 40 + p1 else -1) ∧ q2 = (if 2 < h then 40 + p2 else -1))
    (h3 : k < 4 → h < τ 1 k.toNat ∧ q0 = p0 ∧ q1 = p1 ∧ q2 = p2 ∧ (0 < τ 2 (4 * k.toNat + h.toNat) → 0 ≤ p0 ∧ p0 < τ 0 4 ∧ τ 4 p0.toNat = τ 3 (3 * (4 * k.toNat + h.toNat) + 0)) ∧ (1 < τ 2 (4 * k.toNat + h.toNat) → 0 ≤ p1 ∧ p1 < τ 0 4 ∧ τ 4 p1.toNat = τ 3 (3 * (4 * k.toNat + h.toNat) + 1)) ∧ (2 < τ 2 (4 * k.toNat + h.toNat) → 0 ≤ p2 ∧ p2 < τ 0 4 ∧ τ 4 p2.toNat = τ 3 (3 * (4 * k.toNat + h.toNat) + 2)) ∧ τ 2 (4 * k.toNat + h.toNat) ≤ 3) : RV (cV σ k h q0 q1 q2 m) (mV τ k h p0 p1 p2 m) := by
  obtain ⟨e1, ⟨w1, w2, w3⟩, v3, d3⟩ := hr
  obtain ⟨n, hn9⟩ : ∃ n : Nat, τ 0 4 = n := ⟨(τ 0 4).toNat, by omega⟩
  have hs9 : σ 5 0 = n := by omega
  have x0 : (σ 5 0).toNat = n := by omega
  have x1 : (σ 5 0 * 3 + 0).toNat = 3 * n := by omega
  have x2 : (σ 5 0 * 3 + (0 + 1)).toNat = 3 * n + 1 := by omega
  have x3 : (σ 5 0 * 3 + (0 + 1 + 1)).toNat = 3 * n + 2 := by omega
  have y0 : (τ 0 4).toNat = n := by omega
  have y1 : (3 * τ 0 4).toNat = 3 * n := by omega
  have y2 : (3 * τ 0 4 + 1).toNat = 3 * n + 1 := by omega
  have y3 : (3 * τ 0 4 + 2).toNat = 3 * n + 2 := by omega
  have z0 : mV τ k h p0 p1 p2 m 0 4 = n + 1 := by unfold mV; simp (disch := omega) only [bnd_eq, bind_some', wrap_id, rdn_ok, wrn_ok, wbn_ok, rdD_ok, rdD_out, wrD_ok, wrD_out, up2_at, up2_row, up2_idx, iter_s, itp, itn, isIn_iff, in_iff, ↓reduceIte, reduceCtorEq]; omega
  have old : ∀ v : Nat, v < n → (mV τ k h p0 p1 p2 m 4 v = τ 4 v ∧ mV τ k h p0 p1 p2 m 5 v = τ 5 v ∧ mV τ k h p0 p1 p2 m 7 v = τ 7 v ∧ ∀ j : Nat, j < 3 → mV τ k h p0 p1 p2 m 6 (3 * v + j) = τ 6 (3 * v + j)) := by
    intro v hv
    unfold mV
    rw [y0, y1, y2, y3]
    refine ⟨?_, ?_, ?_, fun j hj => ?_⟩ <;> simp (disch := omega) only [bnd_eq, bind_some', wrap_id, rdn_ok, wrn_ok, wbn_ok, rdD_ok, rdD_out, wrD_ok, wrD_out, up2_at, up2_row, up2_idx, iter_s, itp, itn, isIn_iff, in_iff, ↓reduceIte, reduceCtorEq]
  have oldC : ∀ v : Nat, v < n ∨ (40 ≤ v ∧ v < 50) → (cV σ k h q0 q1 q2 m 6 v = σ 6 v ∧ cV σ k h q0 q1 q2 m 7 v = σ 7 v ∧ cV σ k h q0 q1 q2 m 8 v = σ 8 v ∧ ∀ j : Nat, j < 3 → cV σ k h q0 q1 q2 m 9 (3 * v + j) = σ 9 (3 * v + j)) := by
    intro v hv
    unfold cV
    rw [x0, x1, x2, x3]
    refine ⟨?_, ?_, ?_, fun j hj => ?_⟩ <;> simp (disch := omega) only [bnd_eq, bind_some', wrap_id, rdn_ok, wrn_ok, wbn_ok, rdD_ok, rdD_out, wrD_ok, wrD_out, up2_at, up2_row, up2_idx, iter_s, itp, itn, isIn_iff, in_iff, ↓reduceIte, reduceCtorEq]
  have new : mV τ k h p0 p1 p2 m 4 n = k ∧ mV τ k h p0 p1 p2 m 5 n = h ∧ mV τ k h p0 p1 p2 m 7 n = m ∧ mV τ k h p0 p1 p2 m 6 (3 * n + 0) = p0 ∧ mV τ k h p0 p1 p2 m 6 (3 * n + 1) = p1 ∧ mV τ k h p0 p1 p2 m 6 (3 * n + 2) = p2 := by
    unfold mV
    rw [y0, y1, y2, y3]
    refine ⟨?_, ?_, ?_, ?_, ?_, ?_⟩ <;> simp (disch := omega) only [bnd_eq, bind_some', wrap_id, rdn_ok, wrn_ok, wbn_ok, rdD_ok, rdD_out, wrD_ok, wrD_out, up2_at, up2_row, up2_idx, iter_s, itp, itn, isIn_iff, in_iff, ↓reduceIte, reduceCtorEq]
  have newC : cV σ k h q0 q1 q2 m 6 n = k ∧ cV σ k h q0 q1 q2 m 7 n = h ∧ cV σ k h q0 q1 q2 m 8 n = m ∧ cV σ k h q0 q1 q2 m 9 (3 * n + 0) = q0 ∧ cV σ k h q0 q1 q2 m 9 (3 * n + 1) = q1 ∧ cV σ k h q0 q1 q2 m 9 (3 * n + 2) = q2 := by
    unfold cV
    rw [x0, x1, x2, x3]
    refine ⟨?_, ?_, ?_, ?_, ?_, ?_⟩ <;> simp (disch := omega) only [bnd_eq, bind_some', wrap_id, rdn_ok, wrn_ok, wbn_ok, rdD_ok, rdD_out, wrD_ok, wrD_out, up2_at, up2_row, up2_idx, iter_s, itp, itn, isIn_iff, in_iff, ↓reduceIte, reduceCtorEq]
  have r1 : mV τ k h p0 p1 p2 m 1 = τ 1 := mV_row 1 (by decide)
  have r2 : mV τ k h p0 p1 p2 m 2 = τ 2 := mV_row 2 (by decide)
  have r3 : mV τ k h p0 p1 p2 m 3 = τ 3 := mV_row 3 (by decide)
  have hc5 : cV σ k h q0 q1 q2 m 5 0 = n + 1 := by unfold cV; simp (disch := omega) only [bnd_eq, bind_some', wrap_id, rdn_ok, wrn_ok, wbn_ok, rdD_ok, rdD_out, wrD_ok, wrD_out, up2_at, up2_row, up2_idx, iter_s, itp, itn, isIn_iff, in_iff, ↓reduceIte, reduceCtorEq]; omega
  obtain ⟨n1, n2, n3, n4, n5, n6⟩ := new
  obtain ⟨c1, c2, c3, c4, c5, c6⟩ := newC
  generalize cV σ k h q0 q1 q2 m = σ' at *
  generalize mV τ k h p0 p1 p2 m = τ' at *
  refine ⟨by omega, ⟨by omega, by omega, fun v hv => ?_⟩, fun v hv => ?_, fun d hd => ?_⟩
  · rw [r1, r2, r3]
    by_cases e : v < n
    · obtain ⟨o1, o2, o3, o4⟩ := old v e
      obtain ⟨f1, f2, f3, f4, f5, f6, f7, f8⟩ := w3 v (by omega)
      rw [o1, o2, o3]
      refine ⟨f1, f2, f3, f4, f5, f6, fun h9 => ⟨(f7 h9).1, fun j hj => by rw [o4 j hj]; exact (f7 h9).2 j hj⟩, fun h9 => ⟨(f8 h9).1, fun j hj => ?_⟩⟩
      have hj3 : j < 3 := by
        have := (hK.2 (τ 4 v).toNat (τ 5 v).toNat (by omega) (by have := (f8 h9).1; omega)).2.1
        omega
      obtain ⟨g1, g2, g3⟩ := (f8 h9).2 j hj
      rw [o4 j hj3]
      refine ⟨g1, g2, ?_⟩
      rw [(old (τ 6 (3 * v + j)).toNat (by omega)).1]
      exact g3
    · have : v = n := by omega
      subst this
      rw [n1, n2, n3]
      refine ⟨hk.1, hk.2, hm.1, hm.2, hh, fun h9 => ⟨(h4 h9).1, (h4 h9).2.1⟩, fun h9 => ⟨(h5 h9).1, fun j hj => ?_⟩, fun h9 => ⟨(h3 h9).1, fun j hj => ?_⟩⟩
      · have h59 := h5 h9
        have : j = 0 ∨ j = 1 ∨ j = 2 := by omega
        rcases this with rfl | rfl | rfl
        · rw [n4]; exact h59.2.1
        · rw [n5]; exact h59.2.2.1
        · rw [n6]; exact h59.2.2.2.1
      · obtain ⟨g1, g2, g3, g4, g5, g6, g7, g8⟩ := h3 h9
        have : j = 0 ∨ j = 1 ∨ j = 2 := by omega
        rcases this with rfl | rfl | rfl
        · obtain ⟨i1, i2, i3⟩ := g5 (by omega)
          rw [n4]; refine ⟨i1, by omega, ?_⟩
          rw [(old p0.toNat (by omega)).1]; exact i3
        · obtain ⟨i1, i2, i3⟩ := g6 (by omega)
          rw [n5]; refine ⟨i1, by omega, ?_⟩
          rw [(old p1.toNat (by omega)).1]; exact i3
        · obtain ⟨i1, i2, i3⟩ := g7 (by omega)
          rw [n6]; refine ⟨i1, by omega, ?_⟩
          rw [(old p2.toNat (by omega)).1]; exact i3
  · by_cases e : v < n
    · obtain ⟨o1, o2, o3, o4⟩ := old v e
      obtain ⟨u1, u2, u3, u4⟩ := oldC v (Or.inl e)
      obtain ⟨f1, f2, f3, f4, f5, f6⟩ := v3 v (by omega)
      rw [o1, o2, o3, u1, u2, u3]
      exact ⟨f1, f2, f3, fun h9 j hj => by rw [u4 j hj]; exact f4 h9 j hj, fun h9 j hj => by rw [u4 j hj, o4 j hj]; exact f5 h9 j hj, fun h9 j hj => by rw [u4 j hj, o4 j hj]; exact f6 h9 j hj⟩
    · have : v = n := by omega
      subst this
      rw [n1, n2, n3, c1, c2, c3]
      refine ⟨rfl, rfl, rfl, fun h9 j hj => ?_, fun h9 j hj => ?_, fun h9 j hj => ?_⟩
      · have h49 := h4 h9
        have : j = 0 ∨ j = 1 ∨ j = 2 := by omega
        rcases this with rfl | rfl | rfl
        · rw [c4]; exact h49.2.2.1
        · rw [c5]; exact h49.2.2.2.1
        · rw [c6]; exact h49.2.2.2.2
      · have h59 := h5 h9
        have : j = 0 ∨ j = 1 ∨ j = 2 := by omega
        rcases this with rfl | rfl | rfl
        · rw [c4, n4]; exact h59.2.2.2.2.1
        · rw [c5, n5]; exact h59.2.2.2.2.2.1
        · rw [c6, n6]; exact h59.2.2.2.2.2.2
      · obtain ⟨g1, g2, g3, g4, g5⟩ := h3 h9
        have : j = 0 ∨ j = 1 ∨ j = 2 := by omega
        rcases this with rfl | rfl | rfl
        · rw [c4, n4]; exact g2
        · rw [c5, n5]; exact g3
        · rw [c6, n6]; exact g4
  · obtain ⟨u1, u2, u3, u4⟩ := oldC (40 + d) (Or.inr ⟨by omega, by omega⟩)
    obtain ⟨f1, f2, f3, f4⟩ := d3 d hd
    rw [u1, u2, u3]
    exact ⟨f1, f2, f3, fun j hj => by rw [u4 j hj]; exact f4 j hj⟩
theorem keep_num {σ : Sg} {a : Int} (h : 0 ≤ σ 5 0 ∧ σ 5 0 < 40) : F_X8_keep 4 a (-1) (-1) (-1) σ = some (σ 5 0, cV σ 4 a (-1) (-1) (-1) a) := by
  unfold F_X8_keep cV
  simp (disch := omega) only [bnd_eq, bind_some', wrap_id, rdn_ok, wrn_ok, wbn_ok, rdD_ok, rdD_out, wrD_ok, wrD_out, up2_at, up2_row, up2_idx, iter_s, itp, itn, isIn_iff, in_iff, ↓reduceIte, reduceCtorEq, L_X8_keep_36, F_X10_pick, F_X8_measureNow, F_X8_kindOf, F_X8_headOf, if_true]
def msr (σ : Sg) (q k : Int) : Int := if q = -1 then 0 else σ 8 q.toNat * k
theorem meas_s {σ : Sg} {v k x : Int} {j : Int} (hv : 0 ≤ v ∧ v < 50) (hj : 0 ≤ j ∧ j < 3) (hx : 0 ≤ x ∧ x ≤ 100000) (hq : σ 9 (v * 3 + j).toNat = -1 ∨ (0 ≤ σ 9 (v * 3 + j).toNat ∧ σ 9 (v * 3 + j).toNat < 50 ∧ 0 ≤ σ 8 (σ 9 (v * 3 + j).toNat).toNat ∧ σ 8 (σ 9 (v * 3 + j).toNat).toNat < 97)) :
    L_X8_measureNow_37 v k σ x j = some (.inl (x + msr σ (σ 9 (v * 3 + j).toNat) (if k = 5 then 1 else j + 1), j + 1)) := by
  have hp : F_X8_partOf v j σ = σ 9 (v * 3 + j).toNat := by
    unfold F_X8_partOf
    simp (disch := omega) only [bnd_eq, bind_some', wrap_id, rdn_ok, wrn_ok, wbn_ok, rdD_ok, rdD_out, wrD_ok, wrD_out, up2_at, up2_row, up2_idx, iter_s, itp, itn, isIn_iff, in_iff, ↓reduceIte, reduceCtorEq]
  unfold L_X8_measureNow_37 msr
  rw [hp]
  generalize σ 9 (v * 3 + j).toNat = q at *
  rcases hq with hq | hq
  · subst hq
    simp (disch := omega) only [bnd_eq, bind_some', wrap_id, rdn_ok, wrn_ok, wbn_ok, rdD_ok, rdD_out, wrD_ok, wrD_out, up2_at, up2_row, up2_idx, iter_s, itp, itn, isIn_iff, in_iff, ↓reduceIte, reduceCtorEq, B_X8_measureNow_81, Int.add_zero]
  · by_cases k5 : k = 5
    · simp (disch := omega) only [bnd_eq, bind_some', wrap_id, rdn_ok, wrn_ok, wbn_ok, rdD_ok, rdD_out, wrD_ok, wrD_out, up2_at, up2_row, up2_idx, iter_s, itp, itn, isIn_iff, in_iff, ↓reduceIte, reduceCtorEq, B_X8_measureNow_81, B_X8_measureNow_78, F_X8_measureOf, Int.mul_one, Int.one_mul]
    · have : j = 0 ∨ j = 1 ∨ j = 2 := by omega
      rcases this with rfl | rfl | rfl <;> simp (disch := omega) only [bnd_eq, bind_some', wrap_id, rdn_ok, wrn_ok, wbn_ok, rdD_ok, rdD_out, wrD_ok, wrD_out, up2_at, up2_row, up2_idx, iter_s, itp, itn, isIn_iff, in_iff, ↓reduceIte, reduceCtorEq, B_X8_measureNow_81, B_X8_measureNow_78, F_X8_measureOf, Int.mul_comm]
theorem msr_b {σ : Sg} {q k : Int} (hk : 0 ≤ k ∧ k ≤ 3) (hq : q = -1 ∨ (0 ≤ σ 8 q.toNat ∧ σ 8 q.toNat < 97)) : 0 ≤ msr σ q k ∧ msr σ q k ≤ 300 := by
  unfold msr
  split
  · omega
  · rcases hq with hq | hq
    · omega
    · have : k = 0 ∨ k = 1 ∨ k = 2 ∨ k = 3 := by omega
      rcases this with rfl | rfl | rfl | rfl <;> omega
def msum (σ : Sg) (k h q0 q1 q2 : Int) : Int := if k = 5 then h * 3 + msr σ q0 1 + msr σ q1 1 + msr σ q2 1 else h * 5 + msr σ q0 1 + msr σ q1 2 + msr σ q2 3
theorem meas_c {σ : Sg} {v k h q0 q1 q2 : Int} (hv : 0 ≤ v ∧ v < 50) (e1 : σ 6 v.toNat = k) (e2 : σ 7 v.toNat = h) (f0 : σ 9 (v * 3 + 0).toNat = q0) (f1 : σ 9 (v * 3 + (0 + 1)).toNat = q1) (f2 : σ 9 (v * 3 + (0 + 1 + 1)).toNat = q2) (hk : ¬ k = 4) (hh : 0 ≤ h ∧ h ≤ 10) (h0 : q0 = -1 ∨ (0 ≤ q0 ∧ q0 < 50 ∧ 0 ≤ σ 8 q0.toNat ∧ σ 8 q0.toNat < 97)) (h1 : q1 = -1 ∨ (0 ≤ q1 ∧ q1 < 50 ∧ 0 ≤ σ 8 q1.toNat ∧ σ 8 q1.toNat < 97)) (h2 : q2 = -1 ∨ (0 ≤ q2 ∧ q2 < 50 ∧ 0 ≤ σ 8 q2.toNat ∧ σ 8 q2.toNat < 97)) :
    F_X8_measureNow v σ = some (jrem (msum σ k h q0 q1 q2) 97) := by
  have k1 : F_X8_kindOf v σ = k := by unfold F_X8_kindOf; rw [rdD_ok hv.1 hv.2]; exact e1
  have k2 : F_X8_headOf v σ = h := by unfold F_X8_headOf; rw [rdD_ok hv.1 hv.2]; exact e2
  have b0 := msr_b (σ := σ) (q := q0) (k := 1) (by omega) (by omega)
  have b1 := msr_b (σ := σ) (q := q1) (k := 1) (by omega) (by omega)
  have b1' := msr_b (σ := σ) (q := q1) (k := 2) (by omega) (by omega)
  unfold F_X8_measureNow
  rw [k1, k2, bnd_eq, if_neg hk]
  have run : ∀ (x m0 m1 m2 : Int), 0 ≤ x ∧ x ≤ 50 → (0 ≤ m0 ∧ m0 ≤ 300) → (0 ≤ m1 ∧ m1 ≤ 300) → L_X8_measureNow_37 v k σ x 0 = some (.inl (x + m0, 1)) → L_X8_measureNow_37 v k σ (x + m0) 1 = some (.inl (x + m0 + m1, 2)) → L_X8_measureNow_37 v k σ (x + m0 + m1) 2 = some (.inl (x + m0 + m1 + m2, 3)) → (iter (fun a : (Int × Int) => L_X8_measureNow_37 v k σ a.1 a.2) 4 (x, 0)) = some (x + m0 + m1 + m2) := by
    intro x m0 m1 m2 _ _ _ s0 s1 s2
    refine (iter_l (f := fun a : (Int × Int) => L_X8_measureNow_37 v k σ a.1 a.2) (a := (x, 0)) (n := 3) s0).trans ?_
    refine (iter_l (f := fun a : (Int × Int) => L_X8_measureNow_37 v k σ a.1 a.2) (a := (x + m0, 1)) (n := 2) s1).trans ?_
    refine (iter_l (f := fun a : (Int × Int) => L_X8_measureNow_37 v k σ a.1 a.2) (a := (x + m0 + m1, 2)) (n := 1) s2).trans ?_
    exact iter_r (f := fun a : (Int × Int) => L_X8_measureNow_37 v k σ a.1 a.2) rfl
  by_cases k5 : k = 5
  · rw [if_pos k5]; unfold B_X8_measureNow_32
    have s0 := meas_s (σ := σ) (v := v) (k := k) (x := h * 3) (j := 0) hv (by omega) (by omega) (by rw [f0]; exact h0)
    rw [f0, if_pos k5] at s0
    have s1 := meas_s (σ := σ) (v := v) (k := k) (x := h * 3 + msr σ q0 1) (j := 1) hv (by omega) (by omega) (by rw [show v * 3 + 1 = v * 3 + (0 + 1) by omega, f1]; exact h1)
    rw [show v * 3 + 1 = v * 3 + (0 + 1) by omega, f1, if_pos k5] at s1
    have s2 := meas_s (σ := σ) (v := v) (k := k) (x := h * 3 + msr σ q0 1 + msr σ q1 1) (j := 2) hv (by omega) (by omega) (by rw [show v * 3 + 2 = v * 3 + (0 + 1 + 1) by omega, f2]; exact h2)
    rw [show v * 3 + 2 = v * 3 + (0 + 1 + 1) by omega, f2, if_pos k5] at s2
    rw [bnd_eq, wrap_id (by omega) (by omega), run _ _ _ _ (by omega) b0 b1 s0 s1 s2]
    unfold msum; rw [if_pos k5]; rfl
  · rw [if_neg k5]; unfold B_X8_measureNow_32
    have s0 := meas_s (σ := σ) (v := v) (k := k) (x := h * 5) (j := 0) hv (by omega) (by omega) (by rw [f0]; exact h0)
    rw [f0, if_neg k5] at s0
    have s1 := meas_s (σ := σ) (v := v) (k := k) (x := h * 5 + msr σ q0 1) (j := 1) hv (by omega) (by omega) (by rw [show v * 3 + 1 = v * 3 + (0 + 1) by omega, f1]; exact h1)
    rw [show v * 3 + 1 = v * 3 + (0 + 1) by omega, f1, if_neg k5] at s1
    have s2 := meas_s (σ := σ) (v := v) (k := k) (x := h * 5 + msr σ q0 1 + msr σ q1 2) (j := 2) hv (by omega) (by omega) (by rw [show v * 3 + 2 = v * 3 + (0 + 1 + 1) by omega, f2]; exact h2)
    rw [show v * 3 + 2 = v * 3 + (0 + 1 + 1) by omega, f2, if_neg k5] at s2
    rw [bnd_eq, wrap_id (by omega) (by omega), run _ _ _ _ (by omega) b0 b1' s0 s1 s2]
    unfold msum; rw [if_neg k5]; rfl
theorem keep_c {σ : Sg} {k h q0 q1 q2 : Int} (hn : 0 ≤ σ 5 0 ∧ σ 5 0 < 40) (hk : ¬ k = 4) (hh : 0 ≤ h ∧ h ≤ 10) (h0 : q0 = -1 ∨ (0 ≤ q0 ∧ q0 < 50 ∧ 0 ≤ σ 8 q0.toNat ∧ σ 8 q0.toNat < 97)) (h1 : q1 = -1 ∨ (0 ≤ q1 ∧ q1 < 50 ∧ 0 ≤ σ 8 q1.toNat ∧ σ 8 q1.toNat < 97)) (h2 : q2 = -1 ∨ (0 ≤ q2 ∧ q2 < 50 ∧ 0 ≤ σ 8 q2.toNat ∧ σ 8 q2.toNat < 97)) :
    F_X8_keep k h q0 q1 q2 σ = some (σ 5 0, cV σ k h q0 q1 q2 (jrem (msum σ k h q0 q1 q2) 97)) := by
  unfold F_X8_keep cV
  simp (disch := omega) only [bnd_eq, bind_some', wrap_id, rdn_ok, wrn_ok, wbn_ok, rdD_ok, rdD_out, wrD_ok, wrD_out, up2_at, up2_row, up2_idx, iter_s, itp, itn, isIn_iff, in_iff, ↓reduceIte, reduceCtorEq, L_X8_keep_36, F_X10_pick]
  have hm := meas_c (σ := up2 (up2 (up2 (up2 (up2 (up2 σ 5 0 (σ 5 0 + 1)) 6 (σ 5 0).toNat k) 7 (σ 5 0).toNat h) 9 (σ 5 0 * 3 + 0).toNat q0) 9 (σ 5 0 * 3 + (0 + 1)).toNat q1) 9 (σ 5 0 * 3 + (0 + 1 + 1)).toNat q2) (v := σ 5 0) (k := k) (h := h) (q0 := q0) (q1 := q1) (q2 := q2) (by omega) (by simp (disch := omega) only [bnd_eq, bind_some', wrap_id, rdn_ok, wrn_ok, wbn_ok, rdD_ok, rdD_out, wrD_ok, wrD_out, up2_at, up2_row, up2_idx, iter_s, itp, itn, isIn_iff, in_iff, ↓reduceIte, reduceCtorEq]) (by simp (disch := omega) only [bnd_eq, bind_some', wrap_id, rdn_ok, wrn_ok, wbn_ok, rdD_ok, rdD_out, wrD_ok, wrD_out, up2_at, up2_row, up2_idx, iter_s, itp, itn, isIn_iff, in_iff, ↓reduceIte, reduceCtorEq]) (by simp (disch := omega) only [bnd_eq, bind_some', wrap_id, rdn_ok, wrn_ok, wbn_ok, rdD_ok, rdD_out, wrD_ok, wrD_out, up2_at, up2_row, up2_idx, iter_s, itp, itn, isIn_iff, in_iff, ↓reduceIte, reduceCtorEq]) (by simp (disch := omega) only [bnd_eq, bind_some', wrap_id, rdn_ok, wrn_ok, wbn_ok, rdD_ok, rdD_out, wrD_ok, wrD_out, up2_at, up2_row, up2_idx, iter_s, itp, itn, isIn_iff, in_iff, ↓reduceIte, reduceCtorEq]) (by simp (disch := omega) only [bnd_eq, bind_some', wrap_id, rdn_ok, wrn_ok, wbn_ok, rdD_ok, rdD_out, wrD_ok, wrD_out, up2_at, up2_row, up2_idx, iter_s, itp, itn, isIn_iff, in_iff, ↓reduceIte, reduceCtorEq]) hk hh h0 h1 h2
  rw [hm]
  rfl
