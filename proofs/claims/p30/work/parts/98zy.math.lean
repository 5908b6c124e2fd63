/-! the reference's run by a tree -/
theorem BI.len {τ s : Sg} {m : Bool} {pf : Nat → Pth} {N k : Nat} (h : BI τ s m pf N k) : ∀ (b n : Nat), n ≤ b → n < N → (pf n).length ≤ n
  | 0, n, hb, hn => by rw [show n = 0 by omega, h.p0]; exact Nat.le_refl _
  | b + 1, n, hb, hn => by
    by_cases g : n = 0
    · rw [g, h.p0]; exact Nat.le_refl _
    · obtain ⟨a, i, a1, a2, a3, a4, a5, a6⟩ := h.par n (by omega) hn
      have := h.len b a (by omega) (by omega)
      rw [a6, List.length_cons]; omega
/-- what a node asks, as its cells say -/
theorem ask_cells {s : Sg} {n : Nat} {a : Ask} (h : rAsk s n = a) (ha : 0 ≤ a.1 ∧ a.1 ≤ 5) : (s 41 n = 5 ↔ a.1 = 3) ∧ (s 41 n = 4 ↔ a.1 = 4) ∧ (s 41 n = 3 ↔ a.1 = 5) ∧ (s 41 n = 2 ↔ a.1 = 2) ∧ (s 41 n = 1 ↔ a.1 = 1) ∧ (s 41 n = 0 ↔ a.1 = 0) ∧ (0 ≤ s 41 n ∧ s 41 n ≤ 5) ∧ (a.1 = 3 → s 43 n = a.2.1 ∧ s 42 n = a.2.2) ∧ (a.1 = 4 → s 43 n = a.2.1 ∧ s 42 n = a.2.2) ∧ (a.1 = 5 ∨ a.1 = 0 ∨ a.1 = 1 → s 42 n = a.2.1) := by
  subst h
  unfold rAsk at *
  by_cases c5 : s 41 n = 5
  · rw [if_pos c5] at *
    dsimp only at *
    refine ⟨by omega, by omega, by omega, by omega, by omega, by omega, by omega, fun _ => ⟨rfl, rfl⟩, fun z => by omega, fun z => by omega⟩
  rw [if_neg c5] at *
  by_cases c4 : s 41 n = 4
  · rw [if_pos c4] at *
    dsimp only at *
    refine ⟨by omega, by omega, by omega, by omega, by omega, by omega, by omega, fun z => by omega, fun _ => ⟨rfl, rfl⟩, fun z => by omega⟩
  rw [if_neg c4] at *
  by_cases c3 : s 41 n = 3
  · rw [if_pos c3] at *
    dsimp only at *
    refine ⟨by omega, by omega, by omega, by omega, by omega, by omega, by omega, fun z => by omega, fun z => by omega, fun _ => rfl⟩
  rw [if_neg c3] at *
  by_cases c2 : s 41 n = 2
  · rw [if_pos c2] at *
    dsimp only at *
    refine ⟨by omega, by omega, by omega, by omega, by omega, by omega, by omega, fun z => by omega, fun z => by omega, fun z => by omega⟩
  rw [if_neg c2] at *
  dsimp only at *
  refine ⟨by omega, by omega, by omega, by omega, by omega, by omega, by omega, fun z => by omega, fun z => by omega, fun _ => rfl⟩
theorem tb_112 {τ s : Sg} {m : Bool} {pf : Nat → Pth} {N n br : Nat} (hB : BI τ τ m pf N N) (hn : n < N) (h : FrT τ s) (hbr : br < wid τ (qry τ m (pf n))) : ∃ c : Nat, c < N ∧ pf c = (qry τ m (pf n), br) :: pf n ∧ B_X11_runTree_112 n br s = some (.inl ((c : Int), s)) := by
  obtain ⟨-, -, f, f1, f2, f3⟩ := hB.fin n hn
  obtain ⟨g1, g2⟩ := f3 br hbr
  have h5 := hB.n500
  refine ⟨f + br, g1, g2, ?_⟩
  unfold B_X11_runTree_112
  rw [rdn_ok (by omega) (by omega), Option.bind_some, show ((n : Int)).toNat = n by omega, h.r (r := 44) (by omega) (by omega), f1, wrap_id (by omega) (by omega), bnd_eq, show (f : Int) + br = ((f + br : Nat) : Int) by omega]
set_option maxHeartbeats 4000000 in
theorem rtree_l {τ : Sg} {m : Bool} {pf : Nat → Pth} {N : Nat} (hT : CtxT τ) (hB : BI τ τ m pf N N) : ∀ (d n fu : Nat) (x : XS) (s : Sg), (pf n).length + d = 500 → n < N → d < fu → WI τ m (pf n) x → FrT τ s → Xo x s → ∃ (n' : Nat) (s' : Sg) (y : XS), iter (fun a : (Int × Sg) => L_X11_runTree_2 a.1 a.2) fu ((n : Int), s) = some ((n' : Int), s') ∧ n' < N ∧ FrT τ s' ∧ Xo y s' ∧ (qry τ m (pf n')).1 ≤ 2 ∧ wk τ m d (pf n) x = wk τ m 1 (pf n') y
  | 0, n, fu, x, s, hl, hn, hfu, hw, h, hx => by
    have := hB.len n n (Nat.le_refl _) hn
    have := hB.n500
    omega
  | d + 1, n, fu, x, s, hl, hn, hfu, hw, h, hx => by
    obtain ⟨fu, rfl⟩ : ∃ z, fu = z + 1 := ⟨fu - 1, by omega⟩
    obtain ⟨hF, hV, hP, hM, hWW, hG⟩ := id hT
    have h500 := hB.n500
    have hap := hB.ap n hn
    have hKP := AP.kp hP hF hM hWW hap
    obtain ⟨ok1, ok2, ok3, ok4⟩ := qry_ok hP hF hM hWW hap
    obtain ⟨u1, u2, u3⟩ := qry_unk hP hF hM hWW hap
    obtain ⟨f1, -, -⟩ := hB.fin n hn
    obtain ⟨a, ha⟩ : ∃ a, a = qry τ m (pf n) := ⟨_, rfl⟩
    rw [← ha] at ok1 ok2 ok3 ok4 u1 u2 u3 f1
    obtain ⟨c1, c2, c3, c4, c5, c6, c7, c8, c9, c10⟩ := ask_cells f1 ok1.1
    have s41 : s 41 n = τ 41 n := by rw [h.r (r := 41) (by omega) (by omega)]
    have s42 : ∀ s', FrT τ s' → s' 42 n = τ 42 n := fun s' h' => by rw [h'.r (r := 42) (by omega) (by omega)]
    have hnn : ((n : Int)).toNat = n := by omega
    by_cases g2 : a.1 ≤ 2
    · refine ⟨n, s, x, ?_, hn, h, hx, by rw [← ha]; exact g2, ?_⟩
      · rw [iter_r (b := ((n : Int), s)) (by
          show L_X11_runTree_2 n s = _
          unfold L_X11_runTree_2
          rw [rdn_ok (by omega) (by omega), Option.bind_some, hnn, s41, if_pos (by omega)])]
      · rw [wk_s, wk_s, ← ha]
        by_cases z0 : a.1 = 0
        · rw [if_pos z0, if_pos z0]
        rw [if_neg z0, if_neg z0]
        by_cases z1 : a.1 = 1
        · rw [if_pos z1, if_pos z1]
        rw [if_neg z1, if_neg z1, if_pos (show a.1 = 2 by omega), if_pos (show a.1 = 2 by omega)]
    have hgo : ∀ (s1 : Sg) (br : Nat) (y : XS), L_X11_runTree_2 n s = B_X11_runTree_112 n br s1 → br < wid τ a → FrT τ s1 → Xo y s1 → WI τ m ((a, br) :: pf n) y → ∃ (n' : Nat) (s' : Sg) (z : XS), iter (fun a : (Int × Sg) => L_X11_runTree_2 a.1 a.2) (fu + 1) ((n : Int), s) = some ((n' : Int), s') ∧ n' < N ∧ FrT τ s' ∧ Xo z s' ∧ (qry τ m (pf n')).1 ≤ 2 ∧ wk τ m d ((a, br) :: pf n) y = wk τ m 1 (pf n') z := fun s1 br y hstep hbr h1 hy hwi => by
      rw [ha] at hbr hwi ⊢
      obtain ⟨c, d1, d2, d3⟩ := tb_112 hB hn h1 hbr
      rw [d3] at hstep
      rw [iter_l (f := fun a : (Int × Sg) => L_X11_runTree_2 a.1 a.2) (a := ((n : Int), s)) hstep, ← d2]
      exact rtree_l hT hB d c fu y s1 (by rw [d2, List.length_cons]; omega) d1 (by omega) (by rw [d2]; exact hwi) h1 hy
    rw [wk_s, ← ha, if_neg (by omega), if_neg (by omega), if_neg (by omega)]
    by_cases g5 : a.1 = 5
    · obtain ⟨b1, b2⟩ := ok4 (Or.inl g5)
      obtain ⟨c, hc⟩ : ∃ c : Nat, a.2.1 = c := ⟨a.2.1.toNat, by omega⟩
      have hc42 := c10 (Or.inl g5)
      obtain ⟨w1, w2, w3⟩ := u3 g5
      rw [hc, Int.toNat_natCast] at w1 w2 w3
      obtain ⟨s1, e1, e2, e3⟩ := bindBy_m (c := c) hT hB hn h hx (by omega)
      obtain ⟨sF, sV, sP, sM, sW, sG⟩ := e2.ctx hT
      have hnum := tryB (E := envK (pf n)) (c := c) (x := x00) hP hF hM (hKP.hok hF hM) envB_K (by omega) w3 w2
      have hnumS : numP s1 (hdR s1) ((tryK τ (pf n) c).2.1 (s1 23 c).toNat) := by
        obtain ⟨n1, n2, n3⟩ := hnum
        rw [e2.r (r := 23) (by omega) (by omega)]
        refine ⟨n1, n2, ?_⟩
        have h4 : kd τ (hk (pf n)) ((tryK τ (pf n) c).2.1 (τ 23 c).toNat) = 4 := n3
        rw [e2.sm.eqp.kdE, e2.hd]
        show kd τ (hdR τ) ((tryK τ (pf n) c).2.1 (τ 23 c).toNat) = 4
        rw [hw.kd (by omega)]
        exact h4
      obtain ⟨s2, g1, g3⟩ := guarded_m (x := ((tryK τ (pf n) c).2.1, x.2)) sF sV sM sG (HOK_R sF sV sM sG) (by rw [e2.2 23 (by decide)]; omega) e3.rx (by rw [e2.r (r := 22) (by omega) (by omega)]; exact w3) hnumS
      rw [e2.hd, e2.gd] at g1
      obtain ⟨br, hbr⟩ : ∃ br : Nat, br = if grd τ (hdR τ) c ((tryK τ (pf n) c).2.1, x.2) = 0 then 0 else 1 := ⟨_, rfl⟩
      have hbr2 : br < 2 := by rw [hbr]; split <;> omega
      have r41 : rdn 512 s 41 (n : Int) = some (τ 41 n) := by rw [rdn_ok (by omega) (by omega), hnn, s41]
      have r42 : ∀ s', FrT τ s' → rdn 512 s' 42 (n : Int) = some (c : Int) := fun s' h' => by rw [rdn_ok (by omega) (by omega), hnn, s42 s' h', hc42, hc]
      have hstep : L_X11_runTree_2 n s = B_X11_runTree_112 n br s2 := by
        unfold L_X11_runTree_2
        rw [r41, Option.bind_some, if_neg (by omega), Option.bind_some, if_pos (by omega), r42 s h, Option.bind_some, e1, Option.bind_some, r42 s1 e2, Option.bind_some, g1, Option.bind_some]
        dsimp only
        unfold B_X11_runTree_53
        rw [hbr]
        by_cases g : grd τ (hdR τ) c ((tryK τ (pf n) c).2.1, x.2) = 0
        · rw [if_pos g, if_pos g]; rfl
        · rw [if_neg g, if_neg g]; rfl
      rw [if_pos g5, hc, Int.toNat_natCast, ← hbr]
      have hwi : WI τ m ((a, br) :: pf n) ((tryK τ (pf n) c).2.1, x.2) := by
        have := hw.guard (y := ((tryK τ (pf n) c).2.1, x.2)) (br := br) (by rw [← ha]; exact g5) hbr2 rfl
        rw [← ha] at this
        exact this
      exact hgo s2 br _ hstep (by rw [wid_g g5]; exact hbr2) (e2.fr g3.1) g3.xo hwi
    rw [if_neg g5]
    have h5 : FrT τ (up2 s 0 40 1) := h.up (Or.inl rfl)
    have hx5 : Xo x (up2 s 0 40 1) := hx.up (Or.inr (Or.inr (Or.inr ⟨rfl, by omega, by omega⟩)))
    have r41 : ∀ s', FrT τ s' → rdn 512 s' 41 (n : Int) = some (τ 41 n) := fun s' h' => by rw [rdn_ok (by omega) (by omega), hnn, h'.r (r := 41) (by omega) (by omega)]
    have r43 : ∀ s', FrT τ s' → rdn 512 s' 43 (n : Int) = some (τ 43 n) := fun s' h' => by rw [rdn_ok (by omega) (by omega), hnn, h'.r (r := 43) (by omega) (by omega)]
    have r42 : ∀ s', FrT τ s' → rdn 512 s' 42 (n : Int) = some (τ 42 n) := fun s' h' => by rw [rdn_ok (by omega) (by omega), hnn, s42 s' h']
    by_cases g4 : a.1 = 4
    · obtain ⟨k1, k2, k3, k4, k5, k6⟩ := hw.given hT (by rw [← ha]; exact g4)
      rw [← ha] at k1 k2 k3 k4 k5 k6
      obtain ⟨q43, q42⟩ := c9 g4
      obtain ⟨sF, sV, sP, sM, sW, sG⟩ := h5.ctx hT
      obtain ⟨s6, e1, e2, -⟩ := (envR_ok sF sV sM sW sG (by rw [up2_at rfl rfl]; omega)).2.1 a.2.2 a.2.1 x (up2 s 0 40 1) hx5.rx hw.2.2.2 k2.1 k2.2 k1.1 k1.2.1 (by
        show 0 ≤ kd (up2 s 0 40 1) (hdR (up2 s 0 40 1)) a.2.1
        rw [h5.sm.eqp.kdE, h5.hd]
        exact k1.2.2)
      have e1' : F_X11_gave a.2.2 a.2.1 (up2 s 0 40 1) = some ((gvR (up2 s 0 40 1) a.2.2 a.2.1 x).1, s6) := e1
      have e2' : RX (up2 s 0 40 1) (gvR (up2 s 0 40 1) a.2.2 a.2.1 x).2 s6 := e2
      rw [h5.gv] at e1' e2'
      have hgc : (gvR τ a.2.2 a.2.1 (cntX x)).1 = (gvR τ a.2.2 a.2.1 x).1 ∧ (gvR τ a.2.2 a.2.1 (cntX x)).2 = cntX (gvR τ a.2.2 a.2.1 x).2 := by
        unfold gvR
        by_cases z : lkR x.2.2 a.2.2 a.2.1 = -9
        · rw [if_pos z, if_pos (show lkR (cntX x).2.2 a.2.2 a.2.1 = -9 from z)]; exact ⟨rfl, rfl⟩
        · rw [if_neg z, if_neg (show ¬ lkR (cntX x).2.2 a.2.2 a.2.1 = -9 from z)]; exact ⟨rfl, rfl⟩
      obtain ⟨br, hbr⟩ : ∃ br : Nat, (gvR τ a.2.2 a.2.1 (cntX x)).1 = br := ⟨(gvR τ a.2.2 a.2.1 (cntX x)).1.toNat, by omega⟩
      have hstep : L_X11_runTree_2 n s = B_X11_runTree_112 n br (up2 s6 0 47 (wrap (s6 0 47 + 1))) := by
        unfold L_X11_runTree_2
        rw [r41 s h, Option.bind_some, if_neg (by omega), Option.bind_some, if_neg (by omega), bnd_eq, r41 _ h5, Option.bind_some, if_pos (by omega), r42 _ h5, Option.bind_some, r43 _ h5, Option.bind_some, q42, q43, e1', Option.bind_some]
        unfold B_X11_runTree_101
        rw [bnd_eq, ← hgc.1, hbr]
      rw [if_pos g4]
      rw [hbr] at k5 k6 ⊢
      rw [Int.toNat_natCast] at k5 k6 ⊢
      refine hgo _ br _ hstep k5 ((h5.fr e2'.1).up (Or.inr (Or.inr rfl))) ?_ k6
      rw [hgc.2]
      exact e2'.xo.cnt
    · have g3 : a.1 = 3 := by have := ok1.1; omega
      obtain ⟨k1, k2, k3, k4, k5⟩ := hw.head hT (by rw [← ha]; exact g3)
      rw [← ha] at k1 k2 k3 k4 k5
      obtain ⟨q43, q42⟩ := c8 g3
      have hpr := kd_pr hF (HOK_R hF hV hM hG) 3 a.2.1 k1.1 k1.2.1 k1.2.1 k1.2.2
      obtain ⟨s6, e1, e2⟩ := headAt_c (s := up2 s 0 40 1) hF hV hM hG (h5.r (by omega) (by omega)) (h5.r (by omega) (by omega)) (h5.r (by omega) (by omega)) (h5.r (by omega) (by omega)) k1.1 hpr k1.2.2
      obtain ⟨br, hbr⟩ : ∃ br : Nat, hdR τ a.2.1 = br := ⟨(hdR τ a.2.1).toNat, by omega⟩
      have hstep : L_X11_runTree_2 n s = B_X11_runTree_112 n br (up2 s6 0 47 (wrap (s6 0 47 + 1))) := by
        unfold L_X11_runTree_2
        rw [r41 s h, Option.bind_some, if_neg (by omega), Option.bind_some, if_neg (by omega), bnd_eq, r41 _ h5, Option.bind_some, if_neg (by omega), r43 _ h5, Option.bind_some, q43, e1, Option.bind_some]
        unfold B_X11_runTree_101
        rw [bnd_eq, hbr]
      rw [if_neg g4]
      rw [hbr] at k4 k5 ⊢
      rw [Int.toNat_natCast] at k4 k5 ⊢
      exact hgo _ br _ hstep k4 ((h5.o34 e2).up (Or.inr (Or.inr rfl))) (hx5.o34 e2).cnt k5
