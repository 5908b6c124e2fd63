/-! seeking the place that the most cases need -/
def gMst (τ : Sg) (P : Pth) (m : Nat) (y : Int) (j : Nat) : Prop := j < m ∧ cted τ P j = true ∧ y ∈ ndC τ P j
theorem cted_eq {τ : Sg} {P : Pth} {c : Nat} : cted τ P c = true ↔ fk P c = false ∧ ¬ (tryK τ P c).1 = .inl false := by
  unfold cted
  rw [Bool.and_eq_true, Bool.not_eq_true', Bool.not_eq_true', decide_eq_false_iff_not]
set_option maxHeartbeats 4000000 in
theorem most_s {σ0 τ : Sg} {P : Pth} (hC : CtxK σ0 τ P) {c : Nat} {σ : Sg} (hc : (c : Int) < τ 0 23) (h : FrL σ0 σ) (hN : NC σ (gMst τ P c) (kd τ (hk P))) : ∃ σ', L_X3_seekMost_7 c σ = some (.inl (((c + 1 : Nat) : Int), σ')) ∧ FrL σ0 σ' ∧ NC σ' (gMst τ P (c + 1)) (kd τ (hk P)) := by
  have hC1 := h.ctx hC
  have hM := hC.2.1.2.2.2.1
  have hW := hC.1.2.1
  have h8 := hM.2.1
  have hw : wrap ((c : Int) + 1) = ((c + 1 : Nat) : Int) := by rw [wrap_id (by omega) (by omega)]; omega
  have hcount := hC1.2.1.2.1
  have hfail := hasFailed_k hC1.2.2.2.2.2 (c := c) (by omega)
  have hskip : cted τ P c = false → ∀ s, NC s (gMst τ P c) (kd τ (hk P)) → NC s (gMst τ P (c + 1)) (kd τ (hk P)) := fun hf s hs => hs.iff (fun x j _ => by
    unfold gMst
    constructor
    · rintro ⟨a, b⟩; exact ⟨by omega, b⟩
    · rintro ⟨a, b, d⟩
      by_cases q : j = c
      · rw [q, hf] at b; cases b
      · exact ⟨by omega, b, d⟩)
  by_cases g : fk P c = true
  · have hcf : cted τ P c = false := by
      cases e : cted τ P c with
      | false => rfl
      | true => rw [cted_eq, g] at e; cases e.1
    refine ⟨σ, ?_, h, hskip hcf σ hN⟩
    unfold L_X3_seekMost_7 F_X4_count B_X3_seekMost_73
    rw [hcount, if_neg (by omega), hfail, g, if_pos rfl, hw]
  · obtain ⟨σ1, e1, k1, k2, k3⟩ := tryCase_cl hC1 hc (FrK.rfl' (σ := σ))
    have hN1 : NC σ1 (gMst τ P c) (kd τ (hk P)) := hN.k k1 (k1.2 8 (by omega) (by omega) (by omega))
    have hunf : L_X3_seekMost_7 c σ = (if codeK (tryK τ P c).1 = 0 then some (.inl (((c + 1 : Nat) : Int), σ1)) else (iter (fun a : (Int × Sg) => L_X3_seekMost_36 c a.1 a.2) 3000 (0, σ1)).bind fun y7 => some (.inl (((c + 1 : Nat) : Int), y7))) := by
      unfold L_X3_seekMost_7 F_X4_count B_X3_seekMost_73
      rw [hcount, if_neg (by omega), hfail, if_neg g, e1, Option.bind_some, hw]
    clear e1
    rw [hunf]
    by_cases gz : (tryK τ P c).1 = .inl false
    · have hcf : cted τ P c = false := by
        cases e : cted τ P c with
        | false => rfl
        | true => rw [cted_eq] at e; exact absurd gz e.2
      rw [if_pos (by rw [gz]; rfl)]
      exact ⟨σ1, rfl, h.trans k1.l, hskip hcf σ1 hN1⟩
    · have hct : cted τ P c = true := cted_eq.mpr ⟨by cases e : fk P c with | false => rfl | true => exact absurd e g, gz⟩
      rw [if_neg (fun z => gz (by
        generalize (tryK τ P c).1 = r at z
        cases r with
        | inl b => cases b with
          | true => exact absurd z (by decide)
          | false => rfl
        | inr a => exact absurd z (by show ¬ (2 : Int) = 0; omega)))]
      have hm3 := hM.1
      obtain ⟨m, hm⟩ : ∃ m : Nat, τ 0 21 = m := ⟨(τ 0 21).toNat, by omega⟩
      have hx1 : NQ σ0 c (gMst τ P c) (kd τ (hk P)) (fun _ => False) σ1 := ⟨h.trans k1.l, hN1.iff (fun x j _ => by simp)⟩
      have hend : ∀ (D : Int → Prop) (s : Sg), NQ σ0 c (gMst τ P c) (kd τ (hk P)) D s → L_X3_seekMost_36 c m s = some (.inr s) := fun D s hs => by
        unfold L_X3_seekMost_36 F_X4_columns
        rw [(hs.1.ctx hC).2.1.1, hm, if_pos (Int.le_refl _)]
      have hstep : ∀ (k : Nat) (D : Int → Prop) (s : Sg), k < m → NQ σ0 c (gMst τ P c) (kd τ (hk P)) D s → ∃ s', L_X3_seekMost_36 c k s = some (.inl ((k : Int) + 1, s')) ∧ NQ σ0 c (gMst τ P c) (kd τ (hk P)) (fun x => D x ∨ x ∈ nd τ P 60 (citm τ c k).1 (citm τ c k).2) s' := fun k D s hkm hs => by
        have hmem : citm τ c k ∈ colsL τ c := by rw [colsL_run hM hm]; exact runL_mem (by omega) (by omega)
        have hok := cols_ok (H := hk P) hM hc _ hmem
        have hge := hW.ge hok.1
        have hff := ((hM.2.2.2.2 c hc).1 k (by omega)).1 (by omega)
        have hk0 := hff.1
        have e1i : (((citm τ c k).1 : Nat) : Int) = cpt τ c k := by unfold citm; dsimp only; omega
        obtain ⟨s', u1, u2⟩ := need_k hC (c := c) (g := gMst τ P c) (by omega) 50 (citm τ c k).1 (citm τ c k).2 0 D s hok (by show 1 ≤ (k : Int) + 1; omega) (by omega) (by omega) (by omega) hs
        rw [nd_fuel hW 50 60 _ _ hok.1 (by omega) (by omega)] at u2
        rw [e1i] at u1
        have u1' : F_X3_need 50 (cpt τ c k) ((k : Int) + 1) (jshl 1 (c : Int)) 0 s = some s' := u1
        refine ⟨s', ?_, u2⟩
        unfold L_X3_seekMost_36 F_X4_columns
        rw [(hs.1.ctx hC).2.1.1, hm, if_neg (by omega), get4c (hs.1.ctx hC).2.1 hc (by omega), wrap_id (by omega) (by omega), u1', Option.bind_some]
      obtain ⟨σ', r1, r2⟩ := loopN (f := fun a : (Int × Sg) => L_X3_seekMost_36 c a.1 a.2) (G := nd τ P 60) (it := citm τ c) (m := m) (Q := NQ σ0 c (gMst τ P c) (kd τ (hk P))) (fun D D' s hD hs => hs.iff hD) hend hstep m 0 3000 (fun _ => False) σ1 (by omega) (by omega) hx1
      have r1' : iter (fun a : (Int × Sg) => L_X3_seekMost_36 c a.1 a.2) 3000 (0, σ1) = some σ' := r1
      rw [r1', Option.bind_some]
      refine ⟨σ', rfl, r2.1, r2.2.iff (fun x j _ => ?_)⟩
      rw [← colsL_run hM hm]
      show gMst τ P c x j ∨ (j = c ∧ (False ∨ x ∈ ndC τ P c)) ↔ gMst τ P (c + 1) x j
      unfold gMst
      constructor
      · rintro (⟨a, b⟩ | ⟨a, b | b⟩)
        · exact ⟨by omega, b⟩
        · exact b.elim
        · rw [a]; exact ⟨by omega, hct, b⟩
      · rintro ⟨a, b, d⟩
        by_cases q : j = c
        · rw [q] at d; exact Or.inr ⟨q, Or.inr d⟩
        · exact Or.inl ⟨by omega, b, d⟩
theorem most_lk {σ0 τ : Sg} {P : Pth} (hC : CtxK σ0 τ P) {σ : Sg} (h : FrL σ0 σ) (hN : NC σ (gMst τ P 0) (kd τ (hk P))) : ∀ c : Nat, (c : Int) ≤ τ 0 23 → ∃ σ', Rch (fun a : (Int × Sg) => L_X3_seekMost_7 a.1 a.2) c (0, σ) ((c : Int), σ') ∧ FrL σ0 σ' ∧ NC σ' (gMst τ P c) (kd τ (hk P))
  | 0, _ => ⟨σ, Rch.nil, h, hN⟩
  | c + 1, hc => by
    obtain ⟨σ1, a1, a2, a3⟩ := most_lk hC h hN c (by omega)
    obtain ⟨σ2, b1, b2, b3⟩ := most_s hC (by omega) a2 a3
    exact ⟨σ2, a1.snoc b1, b2, b3⟩
/-- no cell is marked -/
def Z42 (σ : Sg) : Prop := ∀ y : Int, 1 ≤ y → y ≤ 468 → σ 42 y.toNat = 0
set_option maxHeartbeats 4000000 in
theorem seekMost_k {σ0 σ τ : Sg} {P : Pth} {x0 : Int} (hC : CtxK σ0 τ P) (h : FrL σ0 σ) (hZ : Z42 σ) (h0 : 0 < cnt τ P x0) : ∃ σ', F_X3_seekMost σ = some σ' ∧ FrL σ0 σ' ∧ Z42 σ' ∧ Nx σ' (3, best τ P, kd τ (hk P) (best τ P)) := by
  have hM := hC.2.1.2.2.2.1
  have hW := hC.1.2.1
  have hF := hC.2.2.1
  have h23 := hM.2.1
  have hH := hC.2.2.2.2.1.hok hF hM
  obtain ⟨m, hm⟩ : ∃ m : Nat, τ 0 23 = m := ⟨(τ 0 23).toNat, by omega⟩
  have hs1 : FrL σ0 (up2 σ 37 8 0) := h.trans ⟨fun r h1 _ _ _ => by funext j; rw [up2_row h1], fun i _ _ _ h4 => by rw [up2_idx h4]⟩
  have hN0 : NC (up2 σ 37 8 0) (gMst τ P 0) (kd τ (hk P)) := by
    refine ⟨0, up2_at rfl rfl, fun i j _ hj => by omega, fun i hi => by omega, fun x _ _ => ⟨fun ⟨i, i1, _⟩ => by omega, fun ⟨c, _, c2⟩ => by have := c2.1; omega⟩, fun x x1 x2 => Or.inl ⟨fun c _ q => by have := q.1; omega, ?_⟩⟩
    rw [up2_row (by omega)]
    exact hZ x x1 x2
  obtain ⟨σ1, a1, a2, a3⟩ := most_lk hC hs1 hN0 m (by omega)
  have hend1 : L_X3_seekMost_7 m σ1 = some (.inr σ1) := by
    unfold L_X3_seekMost_7 F_X4_count
    rw [(a2.ctx hC).2.1.2.1, hm, if_pos (Int.le_refl _)]
  have e1 := a1.fin (m := 3000) hend1 (by omega)
  obtain ⟨n, h8, hd, hpr, hin, hcell⟩ := a3
  have hn := pls_len hd hpr
  have hK : ∀ x c, c < 8 → gMst τ P m x c → 0 ≤ kd τ (hk P) x ∧ kd τ (hk P) x ≤ 5 := fun x c _ q => by
    obtain ⟨q1, q2, q3⟩ := q
    obtain ⟨o1, o2, o3⟩ := ndC_ok hW hF hM hH (by omega) x q3
    exact ⟨o2, kd_le5 hF hM o2 o1.1⟩
  have hct : ∀ (x : Int) (M : Nat), M < 256 → (∀ c : Nat, c < 8 → (M.testBit c = true ↔ gMst τ P m x c)) → cl (fun c => M.testBit c) 8 = cnt τ P x := fun x M hM hb => by
    have hfa : ∀ c, m ≤ c → c < m + (8 - m) → (fun c => M.testBit c) c = false := fun c h1 h2 => by
      dsimp only
      cases e : M.testBit c with
      | false => rfl
      | true => have := ((hb c (by omega)).mp e).1; omega
    have hu := cl_up (b := fun c => M.testBit c) (m := m) (8 - m) hfa
    rw [show m + (8 - m) = 8 by omega] at hu
    rw [hu]
    unfold cnt
    rw [show (τ 0 23).toNat = m by omega]
    show _ = cl (fun c => cted τ P c && decide (x ∈ ndC τ P c)) m
    refine cl_congr m (fun c hc => ?_)
    have hbc := hb c (by omega)
    cases e : (cted τ P c && decide (x ∈ ndC τ P c)) with
    | true =>
      rw [Bool.and_eq_true, decide_eq_true_eq] at e
      exact hbc.mpr ⟨hc, e.1, e.2⟩
    | false =>
      cases e2 : M.testBit c with
      | false => rfl
      | true =>
        obtain ⟨-, q2, q3⟩ := hbc.mp e2
        rw [q2, decide_eq_true q3] at e
        cases e
  obtain ⟨b, most, kind, σ2, b1, b2⟩ := best_lk h8 hd hpr hin hcell hK hct n (Nat.le_refl _)
  obtain ⟨c1, c2, c3, c4, c5, c6⟩ := b2
  have hend2 : L_X3_seekMost_88 b most kind n σ2 = some (.inr (b, kind, σ2)) := by
    unfold L_X3_seekMost_88
    rw [c2, h8, if_pos (Int.le_refl _)]
  have e2 := b1.fin (m := 3000) (z := (b, kind, σ2)) hend2 (by omega)
  -- a place is needed: the list isn't empty
  have hlist : ∀ y : Int, 0 < cnt τ P y → ∃ i : Nat, i < n ∧ σ1 41 i = y := fun y hy => by
    obtain ⟨c, d1, d2, d3⟩ := cnt_pos.mp hy
    have hy1 := (ndC_ok hW hF hM hH d1 y d3).1
    exact (hin y hy1.1 hy1.2).mpr ⟨c, by omega, by omega, d2, d3⟩
  obtain ⟨i0, i1, i2⟩ := hlist x0 h0
  have hbest : best τ P = b ∧ kind = kd τ (hk P) b := by
    rcases c6 with ⟨z, -, -⟩ | ⟨i, j1, j2, j3, j4, j5⟩
    · omega
    · refine ⟨best_eq ⟨?_, fun y hy => ?_⟩, j4⟩
      · have hbi := prP_468 (hpr i j1)
        obtain ⟨c, d1, d2, d3, d4⟩ := (hin b (by omega) (by omega)).mp ⟨i, j1, j2.symm⟩
        exact cnt_pos.mpr ⟨c, by omega, d3, d4⟩
      · obtain ⟨k, k1, k2⟩ := hlist y hy
        have := j5 k k1
        rw [k2] at this
        exact this
  have hZ2 : Z42 σ2 := fun y y1 y2 => by
    by_cases q : ∃ j : Nat, j < n ∧ σ1 41 j = y
    · obtain ⟨j, j1, j2⟩ := q
      rw [← j2]; exact c4 j j1
    · rw [c5 y y1 (fun j hj e => q ⟨j, hj, e⟩)]
      rcases hcell y y1 y2 with ⟨-, z⟩ | ⟨M, -, z, -, -⟩
      · exact z
      · exact absurd ((hin y y1 y2).mpr z) q
  unfold F_X3_seekMost
  have e1' : iter (fun a : (Int × Sg) => L_X3_seekMost_7 a.1 a.2) 3000 (0, up2 σ 37 8 0) = some σ1 := e1
  have e2' : iter (fun a : (Int × Int × Int × Int × Sg) => L_X3_seekMost_88 a.1 a.2.1 a.2.2.1 a.2.2.2.1 a.2.2.2.2) 3000 (-1, 0, -1, 0, σ1) = some (b, kind, σ2) := e2
  rw [bnd_eq, e1', Option.bind_some, e2', Option.bind_some]
  dsimp only
  rw [setNext_c, bnd_eq, hbest.2, ← hbest.1]
  refine ⟨_, rfl, (a2.trans c1).trans FrK.rfl'.next.l, fun y y1 y2 => ?_, Nx.set⟩
  rw [up2_row (by omega), up2_row (by omega), up2_row (by omega)]
  exact hZ2 y y1 y2
