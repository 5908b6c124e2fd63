/-! patterns: one more -/
def okp (n p : Int) : Prop := p = -1 ∨ (0 ≤ p ∧ p < n)
def szC (σ : Sg) (p : Int) : Int := if p = -1 then 0 else σ 18 p.toNat
def dpC (σ : Sg) (p : Int) : Int := if p = -1 then 0 else σ 17 p.toNat
def nmC (σ : Sg) (p : Int) : Int := if p = -1 then 0 else σ 19 p.toNat
def one (p : Int) : Int := if p = -1 then 0 else 1
def hvC (σ : Sg) (p : Int) : Prop := ¬ p = -1 ∧ σ 20 p.toNat = 1
def dgC (σ : Sg) (so lo hi p0 p1 : Int) : Int := if so = 0 then 1023 else if so = 2 then jand (jshr 1023 (9 - hi)) (jshl 1023 lo) else if so = 4 then (if σ 21 p0.toNat = 0 then 0 else if σ 21 p1.toNat = 0 then 0 else jor (σ 21 p0.toNat) (σ 21 p1.toNat)) else 0
def cPa (σ : Sg) (n so kd lo hi p0 p1 p2 : Int) : Sg := up2 (up2 (up2 (up2 (up2 (up2 (up2 (up2 (up2 (up2 (up2 σ 10 0 (n + 1)) 11 n.toNat so) 12 n.toNat kd) 13 n.toNat lo) 14 n.toNat hi) 15 (n * 3 + 0).toNat p0) 16 n.toNat (one p0)) 15 (n * 3 + 1).toNat p1) 16 n.toNat (one p0 + one p1)) 15 (n * 3 + 2).toNat p2) 16 n.toNat (one p0 + one p1 + one p2)
def cPb (s : Sg) (n dp sz nm vf dg : Int) : Sg := up2 (up2 (up2 (up2 (up2 s 17 n.toNat dp) 18 n.toNat sz) 19 n.toNat nm) 20 n.toNat vf) 21 n.toNat dg
theorem pcount {s : Sg} {n i c p0 p1 p2 : Int} (hn : 0 ≤ n ∧ n < 60) (hi : 0 ≤ i ∧ i < 3) (hc : s 16 n.toNat = c) (hc2 : 0 ≤ c ∧ c ≤ 3) : L_X5_keep_57 p0 p1 p2 n i s = some (.inl (i + 1, up2 (up2 s 15 (n * 3 + i).toNat (F_X10_pick i p0 p1 p2)) 16 n.toNat (c + one (F_X10_pick i p0 p1 p2)))) := by
  unfold L_X5_keep_57 one
  generalize F_X10_pick i p0 p1 p2 = x
  by_cases hx : x = -1
  · subst hx
    simp (disch := omega) only [bnd_eq, bind_some', wrap_id, rdn_ok, wrn_ok, wbn_ok, rdD_ok, rdD_out, wrD_ok, wrD_out, up2_at, up2_row, up2_idx, iter_s, itp, itn, isIn_iff, in_iff, ↓reduceIte, reduceCtorEq, B_X5_keep_115, F_X5_partCount, hc, b2i, Bool.false_eq_true]
  · simp (disch := omega) only [bnd_eq, bind_some', wrap_id, rdn_ok, wrn_ok, wbn_ok, rdD_ok, rdD_out, wrD_ok, wrD_out, up2_at, up2_row, up2_idx, iter_s, itp, itn, isIn_iff, in_iff, ↓reduceIte, reduceCtorEq, B_X5_keep_115, F_X5_partCount, hc, b2i]
theorem maxJ {a b : Int} : F_J9_max_7cf53 a b = max a b := by
  unfold F_J9_max_7cf53
  split <;> omega
theorem rd0 {s σ : Sg} {r : Nat} {n p : Int} (hn : n ≤ 60) (hp : okp n p) (hs : ∀ i : Nat, (i : Int) < n → s r i = σ r i) : rdD 0 s r 60 p = if p = -1 then 0 else σ r p.toNat := by
  rcases hp with hp | hp
  · rw [rdD_out (by omega), if_pos hp]
  · rw [rdD_ok (by omega) (by omega), if_neg (by omega), hs _ (by omega)]
theorem isHold (so : Int) : (if so = 1 ∨ so = 4 ∨ so = 5 then (0 : Int) else 1) = if so = 1 then 0 else if so = 4 then 0 else if so = 5 then 0 else 1 := by
  split <;> split <;> first | rfl | (split <;> first | rfl | (split <;> first | rfl | omega) | omega) | omega
set_option maxHeartbeats 4000000 in
theorem keepP {σ : Sg} {so kd lo hi p0 p1 p2 : Int} (hn : 0 ≤ σ 10 0 ∧ σ 10 0 < 60) (hz : σ 16 (σ 10 0).toNat = 0) (h0 : okp (σ 10 0) p0) (h1 : okp (σ 10 0) p1) (h2 : okp (σ 10 0) p2)
    (hs : ∀ p, okp (σ 10 0) p → 0 ≤ szC σ p ∧ szC σ p ≤ 40) (hd : ∀ p, okp (σ 10 0) p → 0 ≤ dpC σ p ∧ dpC σ p ≤ 4) (h4 : so = 4 → 0 ≤ p0 ∧ 0 ≤ p1) (h9 : so = 2 → 0 ≤ hi ∧ hi ≤ 9) :
    ∃ vf : Int, (vf = 0 ∨ vf = 1) ∧ (vf = 1 ↔ so = 5 ∨ hvC σ p0 ∨ hvC σ p1 ∨ hvC σ p2) ∧
    F_X5_keep so kd lo hi p0 p1 p2 σ = some (σ 10 0, cPb (cPa σ (σ 10 0) so kd lo hi p0 p1 p2) (σ 10 0) (max3 (dpC σ p0) (dpC σ p1) (dpC σ p2) + (if so = 1 ∨ so = 4 ∨ so = 5 then 0 else 1)) (1 + szC σ p0 + szC σ p1 + szC σ p2) (if so = 1 then jor (jor (jor (nmC σ p0) (nmC σ p1)) (nmC σ p2)) (jshl 1 lo) else jor (jor (nmC σ p0) (nmC σ p1)) (nmC σ p2)) vf (dgC σ so lo hi p0 p1)) := by
  generalize hnn : σ 10 0 = n at *
  unfold F_X5_keep
  rw [bnd_eq, bnd_eq, hnn, wrap_id (by omega) (by omega), wrD_ok hn.1 hn.2, bnd_eq, wrD_ok hn.1 hn.2, bnd_eq, wrD_ok hn.1 hn.2, bnd_eq, wrD_ok hn.1 hn.2, bnd_eq]
  have o0 : 0 ≤ one p0 ∧ one p0 ≤ 1 := by unfold one; split <;> omega
  have o1 : 0 ≤ one p1 ∧ one p1 ≤ 1 := by unfold one; split <;> omega
  have l0 := pcount (s := up2 (up2 (up2 (up2 (up2 σ 10 0 (n + 1)) 11 n.toNat so) 12 n.toNat kd) 13 n.toNat lo) 14 n.toNat hi) (n := n) (i := 0) (c := 0) (p0 := p0) (p1 := p1) (p2 := p2) hn (by omega) hz (by omega)
  rw [pick0, show (0 : Int) + one p0 = one p0 from Int.zero_add _, show (0 : Int) + 1 = 1 from rfl] at l0
  have l1 := pcount (s := up2 (up2 (up2 (up2 (up2 (up2 (up2 σ 10 0 (n + 1)) 11 n.toNat so) 12 n.toNat kd) 13 n.toNat lo) 14 n.toNat hi) 15 (n * 3 + 0).toNat p0) 16 n.toNat (one p0)) (n := n) (i := 1) (c := one p0) (p0 := p0) (p1 := p1) (p2 := p2) hn (by omega) (by simp (disch := omega) only [bnd_eq, bind_some', wrap_id, rdn_ok, wrn_ok, wbn_ok, rdD_ok, rdD_out, wrD_ok, wrD_out, up2_at, up2_row, up2_idx, iter_s, itp, itn, isIn_iff, in_iff, ↓reduceIte, reduceCtorEq]) (by omega)
  rw [pick1, show (1 : Int) + 1 = 2 from rfl] at l1
  have l2 := pcount (s := up2 (up2 (up2 (up2 (up2 (up2 (up2 (up2 (up2 σ 10 0 (n + 1)) 11 n.toNat so) 12 n.toNat kd) 13 n.toNat lo) 14 n.toNat hi) 15 (n * 3 + 0).toNat p0) 16 n.toNat (one p0)) 15 (n * 3 + 1).toNat p1) 16 n.toNat (one p0 + one p1)) (n := n) (i := 2) (c := one p0 + one p1) (p0 := p0) (p1 := p1) (p2 := p2) hn (by omega) (by simp (disch := omega) only [bnd_eq, bind_some', wrap_id, rdn_ok, wrn_ok, wbn_ok, rdD_ok, rdD_out, wrD_ok, wrD_out, up2_at, up2_row, up2_idx, iter_s, itp, itn, isIn_iff, in_iff, ↓reduceIte, reduceCtorEq]) (by omega)
  rw [pick2, show (2 : Int) + 1 = 3 from rfl] at l2
  have hloop : iter (fun a : (Int × Sg) => L_X5_keep_57 p0 p1 p2 n a.1 a.2) 4 (0, up2 (up2 (up2 (up2 (up2 σ 10 0 (n + 1)) 11 n.toNat so) 12 n.toNat kd) 13 n.toNat lo) 14 n.toNat hi) = some (cPa σ n so kd lo hi p0 p1 p2) := by
    refine (iter_l (f := fun a : (Int × Sg) => L_X5_keep_57 p0 p1 p2 n a.1 a.2) (n := 3) l0).trans ?_
    refine (iter_l (f := fun a : (Int × Sg) => L_X5_keep_57 p0 p1 p2 n a.1 a.2) (n := 2) l1).trans ?_
    refine (iter_l (f := fun a : (Int × Sg) => L_X5_keep_57 p0 p1 p2 n a.1 a.2) (n := 1) l2).trans ?_
    exact iter_r (f := fun a : (Int × Sg) => L_X5_keep_57 p0 p1 p2 n a.1 a.2) rfl
  rw [hloop, Option.bind_some]
  have hC : ∀ r : Nat, r ∈ [17, 18, 19, 20, 21] → cPa σ n so kd lo hi p0 p1 p2 r = σ r := by
    intro r hr
    simp only [List.mem_cons, List.not_mem_nil, or_false] at hr
    unfold cPa; funext i
    rcases hr with rfl | rfl | rfl | rfl | rfl <;> simp (disch := omega) only [bnd_eq, bind_some', wrap_id, rdn_ok, wrn_ok, wbn_ok, rdD_ok, rdD_out, wrD_ok, wrD_out, up2_at, up2_row, up2_idx, iter_s, itp, itn, isIn_iff, in_iff, ↓reduceIte, reduceCtorEq]
  have hC11 : cPa σ n so kd lo hi p0 p1 p2 11 n.toNat = so := by unfold cPa; simp (disch := omega) only [bnd_eq, bind_some', wrap_id, rdn_ok, wrn_ok, wbn_ok, rdD_ok, rdD_out, wrD_ok, wrD_out, up2_at, up2_row, up2_idx, iter_s, itp, itn, isIn_iff, in_iff, ↓reduceIte, reduceCtorEq]
  have hC13 : cPa σ n so kd lo hi p0 p1 p2 13 n.toNat = lo := by unfold cPa; simp (disch := omega) only [bnd_eq, bind_some', wrap_id, rdn_ok, wrn_ok, wbn_ok, rdD_ok, rdD_out, wrD_ok, wrD_out, up2_at, up2_row, up2_idx, iter_s, itp, itn, isIn_iff, in_iff, ↓reduceIte, reduceCtorEq]
  have hC14 : cPa σ n so kd lo hi p0 p1 p2 14 n.toNat = hi := by unfold cPa; simp (disch := omega) only [bnd_eq, bind_some', wrap_id, rdn_ok, wrn_ok, wbn_ok, rdD_ok, rdD_out, wrD_ok, wrD_out, up2_at, up2_row, up2_idx, iter_s, itp, itn, isIn_iff, in_iff, ↓reduceIte, reduceCtorEq]
  have hC150 : cPa σ n so kd lo hi p0 p1 p2 15 (n * 3 + 0).toNat = p0 := by unfold cPa; simp (disch := omega) only [bnd_eq, bind_some', wrap_id, rdn_ok, wrn_ok, wbn_ok, rdD_ok, rdD_out, wrD_ok, wrD_out, up2_at, up2_row, up2_idx, iter_s, itp, itn, isIn_iff, in_iff, ↓reduceIte, reduceCtorEq]
  have hC151 : cPa σ n so kd lo hi p0 p1 p2 15 (n * 3 + 1).toNat = p1 := by unfold cPa; simp (disch := omega) only [bnd_eq, bind_some', wrap_id, rdn_ok, wrn_ok, wbn_ok, rdD_ok, rdD_out, wrD_ok, wrD_out, up2_at, up2_row, up2_idx, iter_s, itp, itn, isIn_iff, in_iff, ↓reduceIte, reduceCtorEq]
  generalize cPa σ n so kd lo hi p0 p1 p2 = s at *
  have hdeep : F_X5_deepest p0 p1 p2 s = max3 (dpC σ p0) (dpC σ p1) (dpC σ p2) := by
    unfold F_X5_deepest F_X5_depthOf max3 dpC
    rw [maxJ, maxJ, rd0 (by omega) h0 (fun i _ => by rw [hC 17 (by decide)]), rd0 (by omega) h1 (fun i _ => by rw [hC 17 (by decide)]), rd0 (by omega) h2 (fun i _ => by rw [hC 17 (by decide)])]
  have hmx : 0 ≤ max3 (dpC σ p0) (dpC σ p1) (dpC σ p2) ∧ max3 (dpC σ p0) (dpC σ p1) (dpC σ p2) ≤ 4 := by
    have a0 := hd p0 h0
    have a1 := hd p1 h1
    have a2 := hd p2 h2
    unfold max3; omega
  have b0 := hs p0 h0
  have b1 := hs p1 h1
  have b2 := hs p2 h2
  have hmain : ∀ (y : Bool) (w : Int), w = (if y = true then 1 else 0) → ∃ vf : Int, (vf = 0 ∨ vf = 1) ∧ (vf = 1 ↔ so = 5 ∨ hvC σ p0 ∨ hvC σ p1 ∨ hvC σ p2) ∧ B_X5_keep_173 so lo p0 p1 p2 n y (F_X5_deepest p0 p1 p2 s) n s = some (n, cPb s n (max3 (dpC σ p0) (dpC σ p1) (dpC σ p2) + w) (1 + szC σ p0 + szC σ p1 + szC σ p2) (if so = 1 then jor (jor (jor (nmC σ p0) (nmC σ p1)) (nmC σ p2)) (jshl 1 lo) else jor (jor (nmC σ p0) (nmC σ p1)) (nmC σ p2)) vf (dgC σ so lo hi p0 p1)) := by
    intro y w hw
    have hy : b2i y = w := by rw [hw]; rfl
    unfold B_X5_keep_173
    rw [hdeep, hy, wrap_id (by cases y <;> simp at hw <;> omega) (by cases y <;> simp at hw <;> omega), wrD_ok hn.1 hn.2, bnd_eq]
    have sz : ∀ p, okp n p → F_X5_sizeOf p (up2 s 17 n.toNat (max3 (dpC σ p0) (dpC σ p1) (dpC σ p2) + w)) = szC σ p := fun p hp => by
      unfold F_X5_sizeOf szC
      exact rd0 (by omega) hp (fun i _ => by rw [up2_row (by omega), hC 18 (by decide)])
    rw [sz p0 h0, sz p1 h1, sz p2 h2, wrap_id (z := 1 + szC σ p0) (by omega) (by omega), wrap_id (z := 1 + szC σ p0 + szC σ p1) (by omega) (by omega), wrap_id (by omega) (by omega), wrD_ok hn.1 hn.2, bnd_eq]
    generalize hs2 : up2 (up2 s 17 n.toNat (max3 (dpC σ p0) (dpC σ p1) (dpC σ p2) + w)) 18 n.toNat (1 + szC σ p0 + szC σ p1 + szC σ p2) = s2
    have nm : ∀ p, okp n p → F_X5_namesOf p s2 = nmC σ p := fun p hp => by
      unfold F_X5_namesOf nmC
      exact rd0 (by omega) hp (fun i _ => by rw [← hs2, up2_row (by omega), up2_row (by omega), hC 19 (by decide)])
    rw [nm p0 h0, nm p1 h1, nm p2 h2, bnd_eq]
    have hrest : ∀ v : Int, ∃ vf : Int, (vf = 0 ∨ vf = 1) ∧ (vf = 1 ↔ so = 5 ∨ hvC σ p0 ∨ hvC σ p1 ∨ hvC σ p2) ∧ B_X5_keep_252 so p0 p1 p2 n v n s2 = some (n, up2 (up2 (up2 s2 19 n.toNat v) 20 n.toNat vf) 21 n.toNat (dgC σ so lo hi p0 p1)) := by
      intro v
      unfold B_X5_keep_252
      rw [wrD_ok hn.1 hn.2, bnd_eq]
      generalize hs3 : up2 s2 19 n.toNat v = s3
      have hv : ∀ p, okp n p → (F_X5_hasView p s3 = true ↔ hvC σ p) := fun p hp => by
        unfold F_X5_hasView hvC
        rw [rd0 (by omega) hp (fun i _ => by rw [← hs3, up2_row (by omega), ← hs2, up2_row (by omega), up2_row (by omega), hC 20 (by decide)])]
        by_cases hp1 : p = -1
        · rw [if_pos hp1]; simp [hp1]
        · rw [if_neg hp1]
          by_cases hq : σ 20 p.toNat = 1
          · rw [if_pos hq]; simp [hp1, hq]
          · rw [if_neg hq]; simp [hp1, hq]
      have hdig : ∀ vf : Int, F_X5_digitsNow n (up2 s3 20 n.toNat vf) = dgC σ so lo hi p0 p1 := by
        intro vf
        have r11 : (up2 s3 20 n.toNat vf) 11 n.toNat = so := by rw [up2_row (by omega), ← hs3, up2_row (by omega), ← hs2, up2_row (by omega), up2_row (by omega)]; exact hC11
        have r13 : (up2 s3 20 n.toNat vf) 13 n.toNat = lo := by rw [up2_row (by omega), ← hs3, up2_row (by omega), ← hs2, up2_row (by omega), up2_row (by omega)]; exact hC13
        have r14 : (up2 s3 20 n.toNat vf) 14 n.toNat = hi := by rw [up2_row (by omega), ← hs3, up2_row (by omega), ← hs2, up2_row (by omega), up2_row (by omega)]; exact hC14
        have r150 : (up2 s3 20 n.toNat vf) 15 (n * 3 + 0).toNat = p0 := by rw [up2_row (by omega), ← hs3, up2_row (by omega), ← hs2, up2_row (by omega), up2_row (by omega)]; exact hC150
        have r151 : (up2 s3 20 n.toNat vf) 15 (n * 3 + 1).toNat = p1 := by rw [up2_row (by omega), ← hs3, up2_row (by omega), ← hs2, up2_row (by omega), up2_row (by omega)]; exact hC151
        have r21 : ∀ i, (up2 s3 20 n.toNat vf) 21 i = σ 21 i := fun i => by rw [up2_row (by omega), ← hs3, up2_row (by omega), ← hs2, up2_row (by omega), up2_row (by omega), hC 21 (by decide)]
        generalize up2 s3 20 n.toNat vf = s4 at *
        have e1 : F_X5_sortOf n s4 = so := by unfold F_X5_sortOf; rw [rdD_ok hn.1 hn.2, r11]
        have e2 : F_X5_lowOf n s4 = lo := by unfold F_X5_lowOf; rw [rdD_ok hn.1 hn.2, r13]
        have e3 : F_X5_highOf n s4 = hi := by unfold F_X5_highOf; rw [rdD_ok hn.1 hn.2, r14]
        have e4 : F_X5_partOf n 0 s4 = p0 := by
          unfold F_X5_partOf
          rw [if_neg (by omega), if_pos (isIn_iff.mpr (by omega)), wrap_id (z := n * 3) (by omega) (by omega), wrap_id (by omega) (by omega), rdD_ok (by omega) (by omega), r150]
        have e5 : F_X5_partOf n 1 s4 = p1 := by
          unfold F_X5_partOf
          rw [if_neg (by omega), if_pos (isIn_iff.mpr (by omega)), wrap_id (z := n * 3) (by omega) (by omega), wrap_id (by omega) (by omega), rdD_ok (by omega) (by omega), r151]
        unfold F_X5_digitsNow dgC
        rw [e1, e2, e3, e4, e5]
        by_cases c0 : so = 0
        · rw [if_pos c0, if_pos c0]
        · rw [if_neg c0, if_neg c0]
          by_cases c2 : so = 2
          · rw [if_pos c2, if_pos c2, wrap_id (by have := h9 c2; omega) (by have := h9 c2; omega)]
          · rw [if_neg c2, if_neg c2]
            by_cases c4 : so = 4
            · obtain ⟨g0, g1⟩ := h4 c4
              have f0 : 0 ≤ p0 ∧ p0 < 60 := by rcases h0 with h | h <;> omega
              have f1 : 0 ≤ p1 ∧ p1 < 60 := by rcases h1 with h | h <;> omega
              rw [if_pos c4, if_pos c4]
              unfold F_X5_digitsOf B_X5_digitsNow_97
              rw [rdD_ok f0.1 f0.2, rdD_ok f1.1 f1.2, r21, r21, bnd_eq, bnd_eq]
            · rw [if_neg c4, if_neg c4]
      have hend : ∀ y : Bool, B_X5_keep_310 n y n s3 = some (n, up2 (up2 s3 20 n.toNat (b2i y)) 21 n.toNat (dgC σ so lo hi p0 p1)) := by
        intro y
        unfold B_X5_keep_310
        rw [wrD_ok hn.1 hn.2, bnd_eq, hdig, wrD_ok hn.1 hn.2, bnd_eq]
      have hT : B_X5_keep_287 n s3 = some (n, up2 (up2 s3 20 n.toNat 1) 21 n.toNat (dgC σ so lo hi p0 p1)) := by
        unfold B_X5_keep_287 B_X5_keep_292; rw [if_pos rfl, hend]; rfl
      by_cases c5 : so = 5
      · rw [if_pos c5]; exact ⟨1, Or.inr rfl, ⟨fun _ => Or.inl c5, fun _ => rfl⟩, hT⟩
      · rw [if_neg c5]
        by_cases v0 : hvC σ p0
        · rw [if_pos ((hv p0 h0).mpr v0)]; exact ⟨1, Or.inr rfl, ⟨fun _ => Or.inr (Or.inl v0), fun _ => rfl⟩, hT⟩
        · rw [if_neg (fun q => v0 ((hv p0 h0).mp q))]
          by_cases v1 : hvC σ p1
          · rw [if_pos ((hv p1 h1).mpr v1)]; exact ⟨1, Or.inr rfl, ⟨fun _ => Or.inr (Or.inr (Or.inl v1)), fun _ => rfl⟩, hT⟩
          · rw [if_neg (fun q => v1 ((hv p1 h1).mp q))]
            by_cases v2 : hvC σ p2
            · rw [if_pos ((hv p2 h2).mpr v2)]; exact ⟨1, Or.inr rfl, ⟨fun _ => Or.inr (Or.inr (Or.inr v2)), fun _ => rfl⟩, hT⟩
            · rw [if_neg (fun q => v2 ((hv p2 h2).mp q))]
              refine ⟨0, Or.inl rfl, ⟨fun h => by omega, fun h => ?_⟩, ?_⟩
              · rcases h with h | h | h | h
                · exact absurd h c5
                · exact absurd h v0
                · exact absurd h v1
                · exact absurd h v2
              · unfold B_X5_keep_292; rw [if_neg (by simp), hend]; rfl
    unfold cPb
    rw [hs2]
    by_cases c1 : so = 1
    · rw [if_pos c1, if_pos c1]; exact hrest _
    · rw [if_neg c1, if_neg c1]; exact hrest _
  by_cases c1 : so = 1
  · rw [if_pos c1, if_pos (Or.inl c1)]
    unfold B_X5_keep_144 B_X5_keep_145; rw [if_neg (by simp)]; exact hmain false 0 rfl
  · by_cases c4 : so = 4
    · rw [if_neg c1, if_pos c4, if_pos (Or.inr (Or.inl c4))]
      unfold B_X5_keep_144 B_X5_keep_145; rw [if_neg (by simp)]; exact hmain false 0 rfl
    · by_cases c5 : so = 5
      · rw [if_neg c1, if_neg c4, if_pos c5, if_pos (Or.inr (Or.inr c5))]
        unfold B_X5_keep_144 B_X5_keep_145; rw [if_neg (by simp)]; exact hmain false 0 rfl
      · rw [if_neg c1, if_neg c4, if_neg c5, if_neg (by omega)]
        unfold B_X5_keep_145; rw [if_pos rfl]; exact hmain true 1 rfl
