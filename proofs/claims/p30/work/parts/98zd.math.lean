/-! the reference's tree, built -/
theorem BI.fr {τ s s' : Sg} {m : Bool} {pf : Nat → Pth} {N k : Nat} (h : BI τ s m pf N k) (h0 : s' 0 56 = s 0 56) (hr : ∀ r, 40 ≤ r → r ≤ 45 → s' r = s r) : BI τ s' m pf N k := by
  have er : ∀ n, rAsk s' n = rAsk s n := fun n => by
    unfold rAsk
    rw [hr 41 (by omega) (by omega), hr 42 (by omega) (by omega), hr 43 (by omega) (by omega)]
  have e40 := hr 40 (by omega) (by omega)
  have e41 := hr 41 (by omega) (by omega)
  have e44 := hr 44 (by omega) (by omega)
  have e45 := hr 45 (by omega) (by omega)
  refine ⟨by rw [h0]; exact h.n56, h.n500, h.kN, h.pos, h.p0, h.ap, fun n n0 hn => ?_, fun n hn => ?_, fun n hn hN => ?_⟩
  · rw [e40, e44]; exact h.par n n0 hn
  · rw [er, e44, e45]; exact h.fin n hn
  · rw [er, e41, e44, e45]; exact h.todo n hn hN
theorem EqP.bi {τ τ' s : Sg} (e : EqP τ τ') (hW : WFP τ) (hM : WFM τ) {m : Bool} {pf : Nat → Pth} {N k : Nat} (h : BI τ s m pf N k) : BI τ' s m pf N k := by
  refine ⟨h.n56, h.n500, h.kN, h.pos, h.p0, fun n hn => (e.apE hW hM m _).mpr (h.ap n hn), fun n n0 hn => ?_, fun n hn => ?_, fun n hn hN => ?_⟩
  · obtain ⟨a, i, a1, a2, a3, a4, a5, a6⟩ := h.par n n0 hn
    refine ⟨a, i, a1, a2, ?_, a4, a5, ?_⟩
    · rw [e.qryE hW hM, e.widE]; exact a3
    · rw [e.qryE hW hM]; exact a6
  · rw [e.qryE hW hM, e.widE]; exact h.fin n hn
  · rw [e.qryE hW hM, e.seekME hW hM]; exact h.todo n hn hN
theorem BI.skip {τ s : Sg} {m : Bool} {pf : Nat → Pth} {N k : Nat} (h : BI τ s m pf N k) (hkN : k < N) (h41 : ¬ s 41 k = -9) : BI τ s m pf N (k + 1) := by
  obtain ⟨-, -, t3⟩ := h.todo k (Nat.le_refl _) hkN
  rcases t3 with t | ⟨t1, t2⟩
  · exact absurd t.1 h41
  · refine h.leaf hkN rfl (fun _ _ _ _ _ => rfl) rfl rfl rfl t2 ?_
    rw [← t2]
    have : (rAsk s k).1 = 0 ∨ (rAsk s k).1 = 1 := by
      rcases t1 with t1 | t1
      · rw [rAsk_l t1 (Or.inl rfl) rfl]; exact Or.inl rfl
      · rw [rAsk_l t1 (Or.inr rfl) rfl]; exact Or.inr rfl
    unfold wid
    rw [if_neg (by omega), if_neg (by omega), if_neg (by omega)]; rfl
theorem row_up {t : Sg} {r i : Nat} {v : Int} (h : 40 ≤ r) : (up2 t 0 i v) r = t r := funext fun j => up2_row (by omega)
theorem build_l {τ : Sg} {m : Bool} {e : Int} (hP : WFP τ) (hF : WFK (τ 1) (τ 2) (τ 3)) (hM : WFM τ) (hWW : WFW τ) (he : e = if m = true then 3 else 2) : ∀ (d k fu : Nat) (s : Sg) (x : XS) (pf : Nat → Pth) (N : Nat), 500 ≤ k + d → d + 2 < fu → FrB τ s → Xo x s → s 0 40 = 0 → s 0 54 = e → s 0 55 = 0 → BI τ s m pf N k → ∃ s' x', iter (fun a : (Int × Sg) => L_X11_build_41 e a.1 a.2) fu ((k : Int), s) = some s' ∧ FrB τ s' ∧ Xo x' s' ∧ x'.2 = x.2 ∧ s' 0 40 = 0 ∧ s' 0 54 = e ∧ ((s' 0 55 = 0 ∧ ∃ pf N, BI τ s' m pf N N) ∨ (s' 0 55 = 1 ∧ Large τ m ∧ 0 ≤ s' 0 56 ∧ s' 0 56 ≤ 500)) := by
  have stop : ∀ (k fu : Nat) (s : Sg), 0 < fu → s 0 56 ≤ k ∨ ¬ s 0 55 = 0 → iter (fun a : (Int × Sg) => L_X11_build_41 e a.1 a.2) fu ((k : Int), s) = some s := fun k fu s hfu h => by
    obtain ⟨fu', rfl⟩ : ∃ z, fu = z + 1 := ⟨fu - 1, by omega⟩
    refine iter_r (f := fun a : (Int × Sg) => L_X11_build_41 e a.1 a.2) (a := ((k : Int), s)) ?_
    show L_X11_build_41 e k s = _
    unfold L_X11_build_41
    by_cases g : s 0 56 ≤ k
    · rw [if_pos g]
    · rw [if_neg g, if_neg (h.resolve_left g)]
  intro d
  induction d with
  | zero =>
    intro k fu s x pf N hkd hfu hs hx h40 h54 h55 hB
    have hk1 := hB.kN
    have hk2 := hB.n500
    have hk3 := hB.n56
    have e1 : k = N := by omega
    refine ⟨s, x, stop k fu s (by omega) (Or.inl (by omega)), hs, hx, rfl, h40, h54, Or.inl ⟨h55, pf, N, ?_⟩⟩
    rw [e1] at hB; exact hB
  | succ d ih =>
    intro k fu s x pf N hkd hfu hs hx h40 h54 h55 hB
    have hk1 := hB.kN
    have hk2 := hB.n500
    have hk3 := hB.n56
    by_cases e1 : k = N
    · refine ⟨s, x, stop k fu s (by omega) (Or.inl (by omega)), hs, hx, rfl, h40, h54, Or.inl ⟨h55, pf, N, ?_⟩⟩
      rw [e1] at hB; exact hB
    · have hkN : k < N := by omega
      obtain ⟨fu', rfl⟩ : ∃ z, fu = z + 1 := ⟨fu - 1, by omega⟩
      have o1 : 500 ≤ (k + 1) + d := by clear stop ih hB hs hx; omega
      have o2 : d + 2 < fu' := by clear stop ih hB hs hx; omega
      have o3 : 0 < fu' := by clear stop ih hB hs hx; omega
      have hw : wrap ((k : Int) + 1) = ((k + 1 : Nat) : Int) := by clear stop ih hB hs hx; rw [wrap_id (z := (k : Int) + 1) (by omega) (by omega)]; omega
      have hu : L_X11_build_41 e k s = if s 41 k = -9 then (F_X11_lay k e s).bind fun q => if q.1 = true then B_X11_build_81 k q.2 else B_X11_build_82 k true q.2 else B_X11_build_81 k s := by
        clear stop ih he h54 hB hs hx
        unfold L_X11_build_41
        rw [if_neg (by omega), if_pos h55, rdn_ok (by omega) (by omega), Option.bind_some, show ((k : Nat) : Int).toNat = k by omega]
      have b81 : ∀ t, B_X11_build_81 k t = some (.inl (((k + 1 : Nat) : Int), up2 t 0 55 0)) := fun t => by
        unfold B_X11_build_81 B_X11_build_82; rw [bnd_eq, hw]; rfl
      have b82 : ∀ t, B_X11_build_82 k true t = some (.inl (((k + 1 : Nat) : Int), up2 t 0 55 1)) := fun t => by
        unfold B_X11_build_82; rw [bnd_eq, hw]; rfl
      have go : ∀ (t : Sg) (x1 : XS) (pf1 : Nat → Pth) (N1 : Nat), L_X11_build_41 e k s = some (.inl (((k + 1 : Nat) : Int), up2 t 0 55 0)) → FrB τ t → Xo x1 t → x1.2 = x.2 → t 0 40 = 0 → t 0 54 = e → BI τ t m pf1 N1 (k + 1) → ∃ s' x', iter (fun a : (Int × Sg) => L_X11_build_41 e a.1 a.2) (fu' + 1) ((k : Int), s) = some s' ∧ FrB τ s' ∧ Xo x' s' ∧ x'.2 = x.2 ∧ s' 0 40 = 0 ∧ s' 0 54 = e ∧ ((s' 0 55 = 0 ∧ ∃ pf N, BI τ s' m pf N N) ∨ (s' 0 55 = 1 ∧ Large τ m ∧ 0 ≤ s' 0 56 ∧ s' 0 56 ≤ 500)) := fun t x1 pf1 N1 hst ht hxt hx2 t40 t54 hBt => by
        obtain ⟨s', x', r1, r2, r3, r4, r5, r6, r7⟩ := ih (k + 1) fu' (up2 t 0 55 0) x1 pf1 N1 o1 o2 (ht.up (Or.inr (Or.inr (Or.inr ⟨rfl, by decide⟩)))) (hxt.up (Or.inr (Or.inr (Or.inr ⟨rfl, by decide, by decide⟩)))) (by rw [up2_idx (by decide)]; exact t40) (by rw [up2_idx (by decide)]; exact t54) (by rw [up2_at rfl rfl]) (hBt.fr (by rw [up2_idx (by decide)]) (fun r r1 r2 => row_up r1))
        refine ⟨s', x', ?_, r2, r3, by rw [r4, hx2], r5, r6, r7⟩
        rw [iter_l (f := fun a : (Int × Sg) => L_X11_build_41 e a.1 a.2) (a := ((k : Int), s)) hst]
        exact r1
      by_cases g : s 41 k = -9
      · rw [if_pos g] at hu
        obtain ⟨r, t, x1, a1, a2, a3, a4, a5, a6, a7⟩ := lay_c hP hF hM hWW he hs hx hB hkN g h40
        rw [a1, Option.bind_some] at hu
        clear a1
        dsimp only at hu
        rcases a7 with ⟨rfl, pf', N', hB'⟩ | ⟨rfl, hL⟩
        · rw [if_pos rfl, b81] at hu
          exact go t x1 pf' N' hu a2 a3 a4 a5 (by rw [a6]; exact h54) hB'
        · rw [if_neg (by simp), b82] at hu
          refine ⟨up2 t 0 55 1, x1, ?_, a2.up (Or.inr (Or.inr (Or.inr ⟨rfl, by decide⟩))), a3.up (Or.inr (Or.inr (Or.inr ⟨rfl, by decide, by decide⟩))), a4, by rw [up2_idx (by decide)]; exact a5, by rw [up2_idx (by decide), a6]; exact h54, Or.inr ⟨by rw [up2_at rfl rfl], hL.1, by rw [up2_idx (by decide)]; exact hL.2.1, by rw [up2_idx (by decide)]; exact hL.2.2⟩⟩
          rw [iter_l (f := fun a : (Int × Sg) => L_X11_build_41 e a.1 a.2) (a := ((k : Int), s)) hu]
          exact stop (k + 1) fu' _ o3 (Or.inr (by rw [up2_at rfl rfl]; omega))
      · rw [if_neg g, b81] at hu
        exact go s x pf N hu hs hx rfl h40 h54 (hB.skip hkN g)
/-- the reference's tree stands, or is too large -/
def RTree (s : Sg) (m : Bool) : Prop := (s 0 55 = 0 ∧ ∃ pf N, BI s s m pf N N) ∨ (s 0 55 = 1 ∧ Large s m ∧ 0 ≤ s 0 56 ∧ s 0 56 ≤ 500)
theorem build_c {τ : Sg} {m : Bool} {e : Int} {x : XS} (hP : WFP τ) (hF : WFK (τ 1) (τ 2) (τ 3)) (hM : WFM τ) (hWW : WFW τ) (he : e = if m = true then 3 else 2) (hx : Xo x τ) (h54 : ¬ τ 0 54 = e) : ∃ s' x', F_X11_build e τ = some s' ∧ FrB τ s' ∧ Xo x' s' ∧ x'.2 = x.2 ∧ s' 0 54 = e ∧ RTree s' m := by
  have u : ∀ (t : Sg) (i : Nat) (v : Int), i ∈ [34, 38, 40, 41, 42, 43, 44, 47, 48, 54, 55, 56, 67] → ¬ i = 47 → ¬ i = 48 → FrB τ t → Xo x t → FrB τ (up2 t 0 i v) ∧ Xo x (up2 t 0 i v) := fun t i v hi h1 h2 ht hxt => ⟨ht.up (Or.inr (Or.inr (Or.inr ⟨rfl, hi⟩))), hxt.up (Or.inr (Or.inr (Or.inr ⟨rfl, h1, h2⟩)))⟩
  obtain ⟨a1, a2⟩ := u τ 54 e (by decide) (by omega) (by omega) ⟨fun _ _ _ => rfl, rfl, rfl, rfl, fun _ _ => rfl⟩ hx
  obtain ⟨b1, b2⟩ := u _ 40 0 (by decide) (by omega) (by omega) a1 a2
  obtain ⟨c1, c2⟩ := u _ 55 0 (by decide) (by omega) (by omega) b1 b2
  obtain ⟨d1, d2⟩ := u _ 56 0 (by decide) (by omega) (by omega) c1 c2
  have hnode := node_c (s := up2 (up2 (up2 (up2 τ 0 54 e) 0 40 0) 0 55 0) 0 56 0) (N := 0) (a := -1) (b := -9) (c := 0) (d := 0) (by rw [up2_at rfl rfl]; rfl) (by omega)
  obtain ⟨n1, n2, n3, n4, n5, n6, n7⟩ := ndS_at (s := up2 (up2 (up2 (up2 τ 0 54 e) 0 40 0) 0 55 0) 0 56 0) (N := 0) (a := -1) (b := -9) (c := 0) (d := 0)
  have no : ∀ r i, ¬ (r = 0 ∧ i = 56) → ¬ (40 ≤ r ∧ r ≤ 45) → ndS (up2 (up2 (up2 (up2 τ 0 54 e) 0 40 0) 0 55 0) 0 56 0) 0 (-1) (-9) 0 0 r i = (up2 (up2 (up2 (up2 τ 0 54 e) 0 40 0) 0 55 0) 0 56 0) r i := fun r i h0 hr => ndS_o (by omega) h0
  generalize ndS (up2 (up2 (up2 (up2 τ 0 54 e) 0 40 0) 0 55 0) 0 56 0) 0 (-1) (-9) 0 0 = t at *
  have hB : BI τ t m (fun _ => []) 1 0 := by
    clear hnode
    refine ⟨by rw [n7]; rfl, by omega, by omega, by omega, rfl, fun n hn => trivial, fun n n0 hn => by omega, fun n hn => by omega, fun n _ hn => ?_⟩
    obtain rfl : n = 0 := by omega
    exact ⟨n6, by rw [n5]; omega, Or.inl ⟨n2, rfl⟩⟩
  obtain ⟨s', x', r1, r2, r3, r4, r5, r6, r7⟩ := build_l hP hF hM hWW he 500 0 3000 t x (fun _ => []) 1 (by decide) (by decide) (d1.pt no) (d2.pt no) (by rw [no 0 40 (by decide) (by decide), up2_idx (by decide), up2_idx (by decide), up2_at rfl rfl]) (by rw [no 0 54 (by decide) (by decide), up2_idx (by decide), up2_idx (by decide), up2_idx (by decide), up2_at rfl rfl]) (by rw [no 0 55 (by decide) (by decide), up2_idx (by decide), up2_at rfl rfl]) hB
  refine ⟨s', x', ?_, r2, r3, r4, r6, ?_⟩
  · unfold F_X11_build
    rw [if_neg h54, bnd_eq, bnd_eq, bnd_eq, bnd_eq, hnode, Option.bind_some]
    dsimp only
    have r1' : iter (fun a : (Int × Sg) => L_X11_build_41 e a.1 a.2) 3000 (0, t) = some s' := r1
    rw [r1', Option.bind_some]
  · rcases r7 with ⟨z, pf, N, y⟩ | ⟨z, y⟩
    · exact Or.inl ⟨z, pf, N, r2.sm.eqp.bi hP hM y⟩
    · exact Or.inr ⟨z, r2.sm.eqp.large hP hM y.1, y.2⟩
