/-! the reference: views in a run -/
theorem lkLoop {s : Sg} {v pl : Int} {N : Nat} (hN : s 0 48 = N) (h15 : N ≤ 1500) : ∀ R : List (Int × Int × Int), rnl s R → R.length ≤ N → Rch (fun a : (Int × Int) => L_X11_gave_118 v pl s a.1 a.2) R.length (-9, 0) (lkR R v pl, (R.length : Int))
  | [], _, _ => Rch.nil
  | e :: R, h, hl => by
    rw [List.length_cons] at hl
    have ih := lkLoop (v := v) (pl := pl) hN h15 R h.2.2.2 (by omega)
    have hstep : L_X11_gave_118 v pl s (lkR R v pl) (R.length : Int) = some (.inl (lkR (e :: R) v pl, ((e :: R).length : Int))) := by
      unfold L_X11_gave_118 B_X11_gave_159 B_X11_gave_160
      rw [hN, if_neg (by omega), rdn_ok (by omega) (by omega), Option.bind_some, show ((R.length : Nat) : Int).toNat = R.length by omega, h.1, rdn_ok (by omega) (by omega), Option.bind_some, rdn_ok (by omega) (by omega), Option.bind_some, show ((R.length : Nat) : Int).toNat = R.length by omega, h.2.1, h.2.2.1, wrap_id (by omega) (by omega), List.length_cons, show ((R.length + 1 : Nat) : Int) = (R.length : Int) + 1 by omega]
      show _ = some (Sum.inl (if e.1 = v ∧ e.2.1 = pl then e.2.2 else lkR R v pl, _))
      by_cases c1 : e.1 = v
      · rw [if_pos c1]
        by_cases c2 : e.2.1 = pl
        · rw [if_pos c2, if_pos ⟨c1, c2⟩]
        · rw [if_neg c2, if_neg (fun q => c2 q.2)]
      · rw [if_neg c1, if_neg (fun q => c1 q.1)]
    exact ih.snoc (f := fun a : (Int × Int) => L_X11_gave_118 v pl s a.1 a.2) hstep
theorem mod_c {x m : Int} (hx : -100000 ≤ x ∧ x ≤ 100000) (hm : 1 ≤ m ∧ m ≤ 10) : jremO x m = some (jrem x m) ∧ jremO (wrap (jrem x m + m)) m = some (x % m) := by
  have h1 : -m < x.tmod m := by
    have h2 := Int.natAbs_tmod x m
    have h3 : x.natAbs % m.natAbs < m.natAbs := Nat.mod_lt _ (by omega)
    omega
  have h2 : x.tmod m < m := Int.tmod_lt_of_pos x (by omega)
  have h3 : (x.tmod m) % m = x % m := by
    have h := Int.mul_tdiv_add_tmod x m
    have e : x % m = (x.tmod m + m * x.tdiv m) % m := by rw [Int.add_comm, h]
    rw [e, Int.add_mul_emod_self_left]
  unfold jremO
  rw [if_neg (by omega), if_neg (by omega)]
  refine ⟨rfl, ?_⟩
  unfold jrem
  rw [wrap_id (by omega) (by omega), Int.tmod_eq_emod_of_nonneg (by omega), Int.add_emod_right, h3]
def WFW (τ : Sg) : Prop := ∀ v : Nat, v < 3 → 1 ≤ τ 18 (4 * v + 3) ∧ τ 18 (4 * v + 3) ≤ 10 ∧ ∀ j : Nat, j < 3 → -9 ≤ τ 18 (4 * v + j) ∧ τ 18 (4 * v + j) ≤ 9
theorem mul_b {a b : Int} {n : Int} (ha : -9 ≤ a ∧ a ≤ 9) (hb : 0 ≤ b ∧ b ≤ n) : -(9 * n) ≤ a * b ∧ a * b ≤ 9 * n := by
  have h1 : a * b ≤ 9 * b := Int.mul_le_mul_of_nonneg_right ha.2 hb.1
  have h2 : -9 * b ≤ a * b := Int.mul_le_mul_of_nonneg_right ha.1 hb.1
  omega
def envR (τ : Sg) : EnvQ := (hdR τ, gvR τ, fun x => (x.1, wrap (x.2.1 + 1), x.2.2))
theorem lk_b {R : List (Int × Int × Int)} {v pl : Int} (h : ∀ e ∈ R, (0 ≤ e.1 ∧ e.1 ≤ 2) ∧ prP 3 e.2.1 ∧ (0 ≤ e.2.2 ∧ e.2.2 ≤ 9)) : lkR R v pl = -9 ∨ (0 ≤ lkR R v pl ∧ lkR R v pl ≤ 9) := by
  induction R with
  | nil => exact Or.inl rfl
  | cons a R ih =>
    unfold lkR
    split
    · exact Or.inr (h a List.mem_cons_self).2.2
    · exact ih (fun e he => h e (List.mem_cons_of_mem _ he))
theorem nvR_b {τ : Sg} {v pl n : Int} (hW : WFW τ) (hv : 0 ≤ v ∧ v ≤ 2) : 0 ≤ nvR τ v pl n ∧ nvR τ v pl n ≤ 9 := by
  obtain ⟨w1, w2, -⟩ := hW v.toNat (by omega)
  unfold nvR
  rw [show (4 * v + 3).toNat = 4 * v.toNat + 3 by omega]
  exact ⟨Int.emod_nonneg _ (by omega), by have := Int.emod_lt_of_pos (τ 18 (4 * v).toNat * msR τ pl + τ 18 (4 * v + 1).toNat * n + τ 18 (4 * v + 2).toNat) (show 0 < τ 18 (4 * v.toNat + 3) by omega); omega⟩
theorem JR_gv {τ : Sg} {v pl : Int} {x : XS} (hW : WFW τ) (hv : 0 ≤ v ∧ v ≤ 2) (hp : prP 3 pl) (h : JR x.2.2) : JR (gvR τ v pl x).2.2.2 := by
  unfold gvR
  by_cases c : lkR x.2.2 v pl = -9
  · rw [if_pos c]
    refine ⟨⟨c, h.1⟩, fun e he => ?_⟩
    rcases List.mem_cons.mp he with rfl | he
    · exact ⟨hv, hp, nvR_b hW hv⟩
    · exact h.2 e he
  · rw [if_neg c]; exact h
set_option maxHeartbeats 4000000 in
theorem envR_ok {τ : Sg} (hF : WFK (τ 1) (τ 2) (τ 3)) (hV : WFV τ) (hM : WFM τ) (hW : WFW τ) (hG : GV τ) (hr : ¬ τ 0 40 = 0) : EnvOK τ (envR τ) JR := by
  have hH := HOK_R hF hV hM hG
  refine ⟨fun pl x s hx hJ h1 h2 hk => ?_, fun v pl x s hx hJ v1 v2 h1 h2 hk => ?_, fun x s hx hJ => ?_⟩
  · have hp := kd_pr hF hH 3 pl h1 h2 h2 hk
    obtain ⟨s', g1, g2⟩ := headAt_c (s := s) hF hV hM hG (hx.1.row (by omega) (by omega)) (hx.1.row (by omega) (by omega)) (hx.1.row (by omega) (by omega)) (hx.1.row (by omega) (by omega)) h1 hp hk
    refine ⟨s', ?_, g2⟩
    unfold F_X11_factAt
    rw [if_pos (by omega), hx.1.2 40 (by decide), if_neg hr, g1, Option.bind_some]
    rfl
  · have hp := kd_pr hF hH 3 pl h1 h2 h2 hk
    have hlen := JR_len hJ
    have hlk := lkLoop (v := v) (pl := pl) (N := x.2.2.length) hx.2.2.2.2.1 (by omega) x.2.2 hx.2.2.2.2.2 (Nat.le_refl _)
    have hJ' := JR_gv (τ := τ) (x := x) hW ⟨v1, v2⟩ hp hJ
    have hfin : iter (fun a : (Int × Int) => L_X11_gave_118 v pl s a.1 a.2) 3000 (-9, 0) = some (lkR x.2.2 v pl) := hlk.fin (by
      show L_X11_gave_118 v pl s (lkR x.2.2 v pl) (x.2.2.length : Int) = _
      unfold L_X11_gave_118
      rw [hx.2.2.2.2.1, if_pos (by omega)]) (by omega)
    unfold F_X11_gave
    rw [hx.1.2 40 (by decide), if_neg hr, hfin, Option.bind_some]
    show ∃ s', _ = some ((gvR τ v pl x).1, s') ∧ RX τ (gvR τ v pl x).2 s' ∧ JR (gvR τ v pl x).2.2.2 ∧ _ ∧ _ ∧ _ ∧ ((gvR τ v pl x).1 = -9 ∨ (0 ≤ (gvR τ v pl x).1 ∧ (gvR τ v pl x).1 ≤ 9))
    by_cases c : lkR x.2.2 v pl = -9
    · obtain ⟨s1, g1, g2, g3⟩ := measureAt_c (s := s) hF hV hM hG (hx.1.row (by omega) (by omega)) (hx.1.row (by omega) (by omega)) (hx.1.row (by omega) (by omega)) (hx.1.row (by omega) (by omega)) h1 hp hk
      have hx1 := hx.way g3
      have e18 := hx.1.row (r := 18) (by omega) (by omega)
      have f18 := hx1.1.row (r := 18) (by omega) (by omega)
      have f48 : s1 0 48 = x.2.2.length := hx1.2.2.2.2.1
      obtain ⟨z1, z2, z3⟩ := hW v.toNat (by omega)
      have y0 := z3 0 (by omega)
      have y1 := z3 1 (by omega)
      have y2 := z3 2 (by omega)
      have m0 := mul_b (n := 100) y0 ⟨g2.1, by omega⟩
      have m1 := mul_b (n := 400) y1 (b := (x.2.2.length : Int)) ⟨by omega, by omega⟩
      have k0 : (4 * v).toNat = 4 * v.toNat + 0 := by omega
      have k1 : (4 * v + 1).toNat = 4 * v.toNat + 1 := by omega
      have k2 : (4 * v + 2).toNat = 4 * v.toNat + 2 := by omega
      have k3 : (4 * v + 3).toNat = 4 * v.toNat + 3 := by omega
      obtain ⟨j1, j2⟩ := mod_c (x := τ 18 (4 * v.toNat + 0) * msR τ pl + τ 18 (4 * v.toNat + 1) * (x.2.2.length : Int) + τ 18 (4 * v.toNat + 2)) (m := τ 18 (4 * v.toNat + 3)) ⟨by omega, by omega⟩ ⟨z1, z2⟩
      have hnv : nvR τ v pl x.2.2.length = (τ 18 (4 * v.toNat + 0) * msR τ pl + τ 18 (4 * v.toNat + 1) * (x.2.2.length : Int) + τ 18 (4 * v.toNat + 2)) % τ 18 (4 * v.toNat + 3) := by
        unfold nvR; rw [k0, k1, k2, k3]
      have hgv : gvR τ v pl x = (nvR τ v pl x.2.2.length, (x.1, x.2.1, (v, pl, nvR τ v pl x.2.2.length) :: x.2.2)) := by unfold gvR; rw [if_pos c]
      have hnb := nvR_b (τ := τ) (v := v) (pl := pl) (n := x.2.2.length) hW ⟨v1, v2⟩
      rw [hgv] at hJ' ⊢
      generalize hd : nvR τ v pl x.2.2.length = d at *
      rw [if_pos c, wrap_id (z := 4 * v) (by omega) (by omega), wrap_id (z := 4 * v + 3) (by omega) (by omega), rdn_ok (by omega) (by omega), Option.bind_some, rdn_ok (by omega) (by omega), Option.bind_some, g1, Option.bind_some]
      dsimp only
      rw [wrap_id (z := 4 * v + 1) (by omega) (by omega), rdn_ok (by omega) (by omega), Option.bind_some, wrap_id (z := 4 * v + 2) (by omega) (by omega), rdn_ok (by omega) (by omega), Option.bind_some, bnd_eq, e18, f18, f48, k0, k1, k2, k3]
      rw [wrap_id (z := τ 18 (4 * v.toNat + 0) * msR τ pl) (by omega) (by omega), wrap_id (z := τ 18 (4 * v.toNat + 1) * (x.2.2.length : Int)) (by omega) (by omega), wrap_id (z := τ 18 (4 * v.toNat + 0) * msR τ pl + τ 18 (4 * v.toNat + 1) * (x.2.2.length : Int)) (by omega) (by omega), wrap_id (by omega) (by omega), j1, Option.bind_some, j2, Option.bind_some, ← hnv]
      rw [wrn_ok (by omega) (by omega), Option.bind_some, up2_row (by omega), f48, wrn_ok (by omega) (by omega), Option.bind_some, up2_row (by omega), up2_row (by omega), f48, wrn_ok (by omega) (by omega), Option.bind_some, bnd_eq, up2_row (by omega), up2_row (by omega), up2_row (by omega), f48, wrap_id (by omega) (by omega), show ((x.2.2.length : Nat) : Int).toNat = x.2.2.length by omega]
      have hrow : ∀ r, ¬ r = 0 → ¬ r = 36 → ¬ r = 37 → ¬ r = 38 → (up2 (up2 (up2 (up2 s1 36 x.2.2.length v) 37 x.2.2.length pl) 38 x.2.2.length d) 0 48 ((x.2.2.length : Int) + 1)) r = s1 r := fun r a b c d => by
        funext i; rw [up2_row a, up2_row d, up2_row c, up2_row b]
      have hzero : ∀ i, ¬ i = 48 → (up2 (up2 (up2 (up2 s1 36 x.2.2.length v) 37 x.2.2.length pl) 38 x.2.2.length d) 0 48 ((x.2.2.length : Int) + 1)) 0 i = s1 0 i := fun i hi => by
        rw [up2_idx hi, up2_row (by omega), up2_row (by omega), up2_row (by omega)]
      refine ⟨_, rfl, ⟨?_, ?_, ?_, hx1.2.2.2.1, ?_, ?_, ?_, ?_, ?_⟩, hJ', ?_, ?_, ?_, Or.inr hnb⟩
      · exact (((hx1.1.up (Or.inr (Or.inl (by omega)))).up (Or.inr (Or.inl (by omega)))).up (Or.inr (Or.inl (by omega)))).up (Or.inr (Or.inr ⟨rfl, by decide⟩))
      · intro i hi; rw [hrow 33 (by omega) (by omega) (by omega) (by omega)]; exact hx1.2.1 i hi
      · rw [hzero 47 (by omega)]; exact hx1.2.2.1
      · rw [up2_at rfl rfl, List.length_cons]; omega
      · rw [up2_row (by omega), up2_row (by omega), up2_row (by omega), up2_at rfl rfl]
      · rw [up2_row (by omega), up2_row (by omega), up2_at rfl rfl]
      · rw [up2_row (by omega), up2_at rfl rfl]
      · have h6 := hx1.2.2.2.2.2
        have rn : ∀ (R : List (Int × Int × Int)), rnl s1 R → R.length ≤ x.2.2.length → rnl (up2 (up2 (up2 (up2 s1 36 x.2.2.length v) 37 x.2.2.length pl) 38 x.2.2.length d) 0 48 ((x.2.2.length : Int) + 1)) R := by
          intro R
          induction R with
          | nil => intro _ _; trivial
          | cons e R ih =>
            intro hR hl
            rw [List.length_cons] at hl
            refine ⟨?_, ?_, ?_, ih hR.2.2.2 (by omega)⟩
            · rw [up2_row (by omega), up2_row (by omega), up2_row (by omega), up2_idx (by omega)]; exact hR.1
            · rw [up2_row (by omega), up2_row (by omega), up2_idx (by omega), up2_row (by omega)]; exact hR.2.1
            · rw [up2_row (by omega), up2_idx (by omega), up2_row (by omega), up2_row (by omega)]; exact hR.2.2.1
        exact rn _ h6 (Nat.le_refl _)
      · intro r r1 r2; rw [hrow r (by omega) (by omega) (by omega) (by omega), g3 r (by omega)]
      · rw [hzero 34 (by omega), g3 0 (by omega)]
      · rw [hzero 38 (by omega), g3 0 (by omega)]
    · have hgv : gvR τ v pl x = (lkR x.2.2 v pl, x) := by unfold gvR; rw [if_neg c]
      rw [hgv] at hJ' ⊢
      rw [if_neg c]
      refine ⟨s, rfl, hx, hJ', fun _ _ _ => rfl, rfl, rfl, ?_⟩
      exact lk_b hJ.2
  · obtain ⟨h1, h2, h3, h4, h5, h6⟩ := hx
    refine ⟨⟨h1.up (Or.inr (Or.inr ⟨rfl, by decide⟩)), fun i hi => by rw [up2_row (by omega)]; exact h2 i hi, ?_, wrap_in _, by rw [up2_idx (by omega)]; exact h5, rnl_congr (s := s) (fun r r1 r2 => by funext j; rw [up2_row (by omega)]) h6⟩, hJ⟩
    rw [up2_at rfl rfl, h1.2 40 (by decide), if_neg hr, h3]
    rfl
