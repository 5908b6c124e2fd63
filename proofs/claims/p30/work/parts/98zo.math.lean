/-! ways to the nodes and to what is behind them; planting -/
theorem GT.kidsL {τ σ : Sg} {t : Nat} {m : Bool} {pf : Nat → Pth} {S : Nat → Nat} {N B : Nat} (h : GT τ σ t m pf S N B) : ∀ k : Nat, k ≤ N → ∃ L : List Pth, L.length = 1 + S k ∧ L.Nodup ∧ ∀ P, P ∈ L ↔ (P = [] ∨ ∃ n i, n < k ∧ i < wid τ (qry τ m (pf n)) ∧ P = (qry τ m (pf n), i) :: pf n)
  | 0, _ => ⟨[[]], by rw [h.s0]; rfl, by simp, fun P => by
      rw [List.mem_singleton]
      exact ⟨Or.inl, fun q => by
        rcases q with q | ⟨n, i, q, -⟩
        · exact q
        · omega⟩⟩
  | k + 1, hk => by
    obtain ⟨L, l1, l2, l3⟩ := h.kidsL k (by omega)
    refine ⟨L ++ (List.range (wid τ (qry τ m (pf k)))).map (fun i => (qry τ m (pf k), i) :: pf k), ?_, ?_, fun P => ?_⟩
    · rw [List.length_append, l1, List.length_map, List.length_range, h.ss k (by omega)]; omega
    · rw [List.nodup_append]
      refine ⟨l2, nodup_map (fun a b ha hb e => by
        injection e with e1 e2
        injection e1), fun P hP Q hQ e => ?_⟩
      obtain ⟨i, i1, rfl⟩ := List.mem_map.mp hQ
      rcases (l3 P).mp hP with q | ⟨n, j, n1, n2, q⟩
      · rw [q] at e; cases e
      · rw [q] at e
        injection e with e1 e2
        have := h.inj (a := n) (b := k) (by omega) (by omega) e2
        omega
    · rw [List.mem_append, l3, List.mem_map]
      constructor
      · rintro ((q | ⟨n, i, q1, q2, q3⟩) | ⟨i, i1, i2⟩)
        · exact Or.inl q
        · exact Or.inr ⟨n, i, by omega, q2, q3⟩
        · exact Or.inr ⟨k, i, by omega, List.mem_range.mp i1, i2.symm⟩
      · rintro (q | ⟨n, i, q1, q2, q3⟩)
        · exact Or.inl (Or.inl q)
        · by_cases g : n = k
          · rw [g] at q2 q3
            exact Or.inr ⟨i, List.mem_range.mpr q2, q3.symm⟩
          · exact Or.inl (Or.inr ⟨n, i, by omega, q2, q3⟩)
theorem GT.large {τ σ : Sg} {t : Nat} {m : Bool} {pf : Nat → Pth} {S : Nat → Nat} {N B : Nat} (h : GT τ σ t m pf S N B) (hB : 500 < B + 1) : Large τ m := by
  obtain ⟨L, l1, l2, l3⟩ := h.kidsL N (Nat.le_refl _)
  refine ⟨L, l2, fun P hP => ?_, by rw [l1, h.sB]; omega⟩
  rcases (l3 P).mp hP with q | ⟨n, i, q1, q2, q3⟩
  · rw [q]; trivial
  · rw [q3]; exact ⟨h.ap n q1, rfl, q2⟩
theorem GT.room {τ σ : Sg} {t : Nat} {m : Bool} {pf : Nat → Pth} {S : Nat → Nat} {N B cur br : Nat} (h : GT τ σ t m pf S N B) (hcur : cur < N) (hbr : br < wid τ (qry τ m (pf cur))) (hf : ∀ n, n < N → ¬ pf n = (qry τ m (pf cur), br) :: pf cur) : N ≤ B := by
  obtain ⟨L, l1, l2, l3⟩ := h.kidsL N (Nat.le_refl _)
  have hmem : ∀ n, n < N → pf n ∈ L := fun n hn => by
    rw [l3]
    by_cases g : n = 0
    · rw [g]; exact Or.inl h.p0
    · obtain ⟨a, i, a1, a2, a3, a4, a5⟩ := h.par n (by omega) hn
      exact Or.inr ⟨a, i, by omega, a2, a4⟩
  have := sub_lenD (l := ((qry τ m (pf cur), br) :: pf cur) :: (List.range N).map pf) (m := L) (by
    rw [List.nodup_cons]
    refine ⟨fun q => ?_, nodup_map (fun a b ha hb e => h.inj ha hb e)⟩
    obtain ⟨n, n1, n2⟩ := List.mem_map.mp q
    exact hf n (List.mem_range.mp n1) n2) (fun P hP => by
    rcases List.mem_cons.mp hP with q | q
    · rw [q, l3]; exact Or.inr ⟨cur, br, hcur, hbr, rfl⟩
    · obtain ⟨n, n1, n2⟩ := List.mem_map.mp q
      rw [← n2]; exact hmem n (List.mem_range.mp n1))
  rw [List.length_cons, List.length_map, List.length_range, l1, h.sB] at this
  omega
/-- what ties the two besides values and course -/
def CtxG (σ τ : Sg) : Prop := RK σ τ ∧ RP σ τ ∧ RW σ τ ∧ RM σ τ
theorem CtxG.fr {σ σ' τ : Sg} (h : CtxG σ τ) (hs : ∀ r, r ≤ 26 → σ' r = σ r) : CtxG σ' τ := by
  obtain ⟨⟨k1, k2, k3, k4⟩, hP, ⟨w1, w2⟩, hM⟩ := h
  refine ⟨⟨?_, ?_, ?_, k4⟩, RP.fr hP k4 (fun r r1 r2 => hs r (by omega)) (fun _ _ _ => rfl) rfl, ⟨?_, w2⟩, hM.fr (fun r r1 r2 => hs r (by omega))⟩
  · rw [hs 2 (by omega)]; exact k1
  · rw [hs 3 (by omega)]; exact k2
  · rw [hs 4 (by omega)]; exact k3
  · rw [hs 23 (by omega)]; exact w1
theorem CtxG.k {σ τ : Sg} {P : Pth} (h : CtxG σ τ) (hK : KP τ P) (hN : KNo σ P) : CtxK σ τ P := ⟨h.2.1, h.2.2.2, h.1.2.2.2, WFW_of h.2.2.1, hK, hN⟩
def mI (m : Bool) : Int := if m = true then 1 else 0
theorem seek1 {σ τ : Sg} {t : Nat} {m : Bool} {x3 : Int} {P : Pth} (hG : CtxG σ τ) (hK : KP τ P) (hN : KNo σ P) (hZ : Z42 σ) (h2 : σ t 2 = mI m) (ht : 43 ≤ t) : ∃ σ', B_X7_plant_83 t x3 σ = B_X7_plant_115 t x3 σ' ∧ FrL σ σ' ∧ Z42 σ' ∧ Nx σ' (seekM τ m P) := by
  have hC := hG.k hK hN
  obtain ⟨σ1, e1, e2, e3⟩ := seekF_k hC FrK.rfl'
  have hZ1 : Z42 σ1 := fun y y1 y2 => by rw [e2.1 42 (by omega) (by omega)]; exact hZ y y1 y2
  unfold B_X7_plant_83
  rw [e1, Option.bind_some, e2.1 t (by omega) (by omega), h2]
  unfold seekM F_X3_sort
  cases m with
  | false =>
    rw [if_pos (show mI false = 0 from rfl), if_neg (show ¬ (false = true ∧ (seekS τ P (τ 0 23).toNat 0).1 = 3) from fun z => (by cases z.1))]
    exact ⟨σ1, rfl, e2.l, hZ1, e3⟩
  | true =>
    rw [if_neg (show ¬ mI true = 0 by decide), e3.1]
    by_cases g : (seekS τ P (τ 0 23).toNat 0).1 = 3
    · obtain ⟨x0, hx0⟩ := seek_pos hC.1.2.1 hC.2.2.1 hC.2.1.2.2.2.1 (hK.hok hC.2.2.1 hC.2.1.2.2.2.1) (hK.vok hC.2.2.2.1) g
      obtain ⟨σ2, f1, f2, f3, f4⟩ := seekMost_k hC e2.l hZ1 hx0
      rw [if_pos g, if_pos (show true = true ∧ (seekS τ P (τ 0 23).toNat 0).1 = 3 from ⟨rfl, g⟩), f1, Option.bind_some]
      exact ⟨σ2, rfl, f2, f3, f4⟩
    · rw [if_neg g, if_neg (show ¬ (true = true ∧ (seekS τ P (τ 0 23).toNat 0).1 = 3) from fun z => g z.2)]
      exact ⟨σ1, rfl, e2.l, hZ1, e3⟩
theorem seekGuard_k {σ τ : Sg} {c br : Nat} (hM : RM σ τ) (hc : (c : Int) < τ 0 23) : F_X3_seekGuard c br σ = if br = 0 then (true, up2 (up2 (up2 σ 37 5 0) 37 6 c) 37 7 0) else if τ 22 c = 3 then (true, up2 (up2 (up2 σ 37 5 1) 37 6 c) 37 7 0) else (false, σ) := by
  have hget : F_X4_get c 4 σ = τ 22 c := (get4m hM hc 4 (by omega)).trans (hM.2.2.2.2 c hc).2.2.1
  have h37 : ∀ (x3 y0 : Bool), B_X3_seekGuard_37 c x3 y0 σ = (x3, up2 (up2 (up2 σ 37 5 (b2i y0)) 37 6 c) 37 7 0) := fun x3 y0 => by
    unfold B_X3_seekGuard_37; rw [setNext_c, bnd_eq]
  unfold F_X3_seekGuard B_X3_seekGuard_17 B_X3_seekGuard_22
  rw [hget, h37, h37]
  by_cases g : br = 0
  · simp [g, b2i]
  · by_cases g3 : τ 22 c = 3
    · simp [g, g3, b2i]
    · simp [g, g3, b2i]
/-- a node of the tree is planted: its cells -/
def b17 (σ : Sg) (t N cur j : Nat) : Sg := up2 (up2 (up2 (up2 σ t 4 ((N + 1 : Nat) : Int)) (t + 4) N cur) (t + 5) N 0) (t + 3) j N
theorem b17_o {σ : Sg} {t N cur j r i : Nat} (h : ¬ (t ≤ r ∧ r ≤ t + 5)) : b17 σ t N cur j r i = σ r i := by
  unfold b17
  rw [up2_row (by omega), up2_row (by omega), up2_row (by omega), up2_row (by omega)]
theorem qry_ok {τ : Sg} {m : Bool} {P : Pth} (hW : WFP τ) (hF : WFK (τ 1) (τ 2) (τ 3)) (hM : WFM τ) (hWW : WFW τ) (h : AP τ m P) : okAs (qry τ m P) ∧ wid τ (qry τ m P) ≤ 10 ∧ ((qry τ m P).1 = 4 → (qry τ m P).2.2 ≤ 2) ∧ ((qry τ m P).1 = 5 ∨ (qry τ m P).1 = 0 ∨ (qry τ m P).1 = 1 → 0 ≤ (qry τ m P).2.1 ∧ (qry τ m P).2.1 < τ 0 23) := by
  obtain ⟨q1, q2, q3, q4, q5, q6, q7⟩ := qry_b hW hF hM hWW h
  exact ⟨⟨q1, q2, q3⟩, q4, q7, fun z => ⟨q2.1, (q5 z).1⟩⟩
set_option maxHeartbeats 4000000 in
theorem plant_ch {σ τ : Sg} {t : Nat} {m : Bool} {pf : Nat → Pth} {S : Nat → Nat} {N B cur br : Nat} (hG : CtxG σ τ) (ht : 43 ≤ t) (h : GT τ σ t m pf S N B) (hN : N < 500) (hB : B < 500) (hcur : cur < N) (hbr : br < wid τ (qry τ m (pf cur))) (h2 : σ t 2 = mI m) (hKN : KNo σ ((qry τ m (pf cur), br) :: pf cur)) (hZ : Z42 σ) : ∃ σ2 σ', F_X7_plant t cur br σ = some ((N : Int), σ') ∧ FrL (b17 σ t N cur (S cur + br)) σ2 ∧ Z42 σ2 ∧ Kept t N B (wid τ (qry τ m ((qry τ m (pf cur), br) :: pf cur))) (qry τ m ((qry τ m (pf cur), br) :: pf cur)) σ2 σ' := by
  have hW := hG.2.1.2.1
  have hF := hG.1.2.2.2
  have hM := hG.2.2.2.2.2.2.1
  have hWW := WFW_of hG.2.2.1
  have hap : AP τ m ((qry τ m (pf cur), br) :: pf cur) := ⟨h.ap cur hcur, rfl, hbr⟩
  have hKP := AP.kp hW hF hM hWW hap
  obtain ⟨ok1, ok2, ok3, ok4⟩ := qry_ok hW hF hM hWW hap
  obtain ⟨oc1, oc2, oc3, oc4⟩ := qry_ok hW hF hM hWW (h.ap cur hcur)
  have hGb : CtxG (b17 σ t N cur (S cur + br)) τ := hG.fr (fun r hr => by funext i; exact b17_o (by omega))
  have hKb : KNo (b17 σ t N cur (S cur + br)) ((qry τ m (pf cur), br) :: pf cur) := by
    obtain ⟨a, b, c, d⟩ := hKN
    refine ⟨fun pl p1 p2 => by rw [b17_o (by omega)]; exact a pl p1 p2, b.congr (by funext i; exact b17_o (by omega)), ?_, ?_⟩
    · rw [b17_o (by omega)]; exact c
    · rw [b17_o (by omega)]; exact d
  have hZb : Z42 (b17 σ t N cur (S cur + br)) := fun y y1 y2 => by rw [b17_o (by omega)]; exact hZ y y1 y2
  have h2b : b17 σ t N cur (S cur + br) t 2 = mI m := by
    unfold b17
    rw [up2_row (by omega), up2_row (by omega), up2_row (by omega), up2_idx (by omega)]
    exact h2
  have hasks : b17 σ t N cur (S cur + br) (t + 1) cur = enA (qry τ m (pf cur)) := by
    unfold b17
    rw [up2_row (by omega), up2_row (by omega), up2_row (by omega), up2_row (by omega)]
    exact h.asks cur hcur
  -- what is asked
  have hseek : ∃ σ2, B_X7_plant_53 t cur br N (b17 σ t N cur (S cur + br)) = B_X7_plant_115 t N σ2 ∧ FrL (b17 σ t N cur (S cur + br)) σ2 ∧ Z42 σ2 ∧ Nx σ2 (qry τ m ((qry τ m (pf cur), br) :: pf cur)) := by
    obtain ⟨s1, s2, s3⟩ := sortOf_t hasks oc1 (show cur < 500 by omega)
    unfold B_X7_plant_53
    rw [if_neg (by omega), s1, s2, qry_c]
    dsimp only
    obtain ⟨σ3, f1, f2, f3, f4⟩ := seek1 (x3 := (N : Int)) hGb hKP hKb hZb h2b ht
    by_cases c5 : (qry τ m (pf cur)).1 = 5
    · obtain ⟨c, hc⟩ : ∃ c : Nat, (qry τ m (pf cur)).2.1 = c := ⟨(qry τ m (pf cur)).2.1.toNat, by have := oc4 (Or.inl c5); omega⟩
      have hc2 := oc4 (Or.inl c5)
      have hset : ∀ x y : Int, FrL (b17 σ t N cur (S cur + br)) (up2 (up2 (up2 (b17 σ t N cur (S cur + br)) 37 5 x) 37 6 y) 37 7 0) ∧ Z42 (up2 (up2 (up2 (b17 σ t N cur (S cur + br)) 37 5 x) 37 6 y) 37 7 0) := fun x y => ⟨FrK.rfl'.next.l, fun z z1 z2 => by rw [up2_row (by omega), up2_row (by omega), up2_row (by omega)]; exact hZb z z1 z2⟩
      rw [if_pos c5, hc, seekGuard_k hGb.2.2.2 (by omega), bnd_eq]
      by_cases g0 : br = 0
      · rw [if_pos g0, if_pos (show (qry τ m (pf cur)).1 = 5 ∧ br = 0 from ⟨c5, g0⟩)]
        dsimp only
        rw [if_pos rfl]
        exact ⟨_, rfl, (hset 0 c).1, (hset 0 c).2, Nx.set⟩
      · rw [if_neg g0, if_neg (show ¬ ((qry τ m (pf cur)).1 = 5 ∧ br = 0) from fun z => g0 z.2), Int.toNat_natCast]
        by_cases g3 : τ 22 c = 3
        · rw [if_pos g3, if_pos (show (qry τ m (pf cur)).1 = 5 ∧ τ 22 c = 3 from ⟨c5, g3⟩)]
          dsimp only
          rw [if_pos rfl]
          exact ⟨_, rfl, (hset 1 c).1, (hset 1 c).2, Nx.set⟩
        · rw [if_neg g3, if_neg (show ¬ ((qry τ m (pf cur)).1 = 5 ∧ τ 22 c = 3) from fun z => g3 z.2)]
          dsimp only
          rw [if_neg (show ¬ false = true by decide)]
          exact ⟨σ3, f1, f2, f3, f4⟩
    · rw [if_neg c5, if_neg (fun z => c5 z.1), if_neg (fun z => c5 z.1)]
      exact ⟨σ3, f1, f2, f3, f4⟩
  obtain ⟨σ2, f1, f2, f3, f4⟩ := hseek
  have hfr : ∀ r i, ¬ (37 ≤ r ∧ r ≤ 42) → σ2 r i = b17 σ t N cur (S cur + br) r i := fun r i hr => by rw [f2.1 r (by omega) (by omega) (by omega) (by omega)]
  have hG2 : CtxG σ2 τ := hGb.fr (fun r hr => by funext i; exact hfr r i (by omega))
  have hmis := h.mis
  have hclN : cl (fun n => decide ((qry τ m (pf n)).1 = 2)) N ≤ N := by
    unfold cl
    have := List.length_filter_le (fun n => decide ((qry τ m (pf n)).1 = 2)) (List.range N)
    rw [List.length_range] at this
    exact this
  have hkept := keepN_c (t := t) (N := N) (B := B) (w := wid τ (qry τ m ((qry τ m (pf cur), br) :: pf cur))) ht hN f4 ok1 (by
    rw [hfr t 5 (by omega)]
    unfold b17
    rw [up2_row (by omega), up2_row (by omega), up2_row (by omega), up2_idx (by omega)]
    exact h.n5) (by omega) (width_c hG2.1 hG2.2.2.1 f4 ok1 ok3) ok2 (by
    rw [hfr t 7 (by omega)]
    unfold b17
    rw [up2_row (by omega), up2_row (by omega), up2_row (by omega), up2_idx (by omega), hmis]
    omega)
  refine ⟨σ2, F_X7_keepNext t N σ2, ?_, f2, f3, hkept⟩
  have hS := h.top hcur
  have e17 : wrD (wrD (wrD (up2 σ t 4 ((N + 1 : Nat) : Int)) (t + 4) 500 N cur) (t + 5) 500 N 0) (t + 3) 500 ((S cur + br : Nat) : Int) N = b17 σ t N cur (S cur + br) := by
    rw [wrD_ok (by omega) (by omega), wrD_ok (by omega) (by omega), wrD_ok (by omega) (by omega), Int.toNat_natCast, Int.toNat_natCast]
    rfl
  have hst : rdD (-1) (wrD (wrD (up2 σ t 4 ((N + 1 : Nat) : Int)) (t + 4) 500 N cur) (t + 5) 500 N 0) (t + 2) 500 (cur : Int) = S cur := by
    rw [rdD_ok (by omega) (by omega), wrD_ok (by omega) (by omega), wrD_ok (by omega) (by omega), Int.toNat_natCast, up2_row (by omega), up2_row (by omega), up2_row (by omega)]
    exact h.st cur hcur
  unfold F_X7_plant
  rw [h.n4, wrap_id (z := (N : Int) + 1) (by omega) (by omega), show (N : Int) + 1 = ((N + 1 : Nat) : Int) by omega, bnd_eq, bnd_eq, bnd_eq, bnd_eq, if_neg (by omega), hst, wrap_id (z := (S cur : Int) + br) (by omega) (by omega), show (S cur : Int) + br = ((S cur + br : Nat) : Int) by omega, bnd_eq, e17, f1]
  unfold B_X7_plant_115
  rw [bnd_eq]
