theorem BI.rts' {τ s t : Sg} {m : Bool} {pf : Nat → Pth} {N k : Nat} (h : BI τ s m pf N k) (hr : ∀ r n, 40 ≤ r → r ≤ 45 → ¬ n = k → t r n = s r n) (h40 : t 40 = s 40) (h44 : t 44 = s 44) : RTs t pf N := by
  have h5 := h.n500
  refine ⟨by omega, h.p0, fun n n0 hn => ?_⟩
  obtain ⟨a, i, a1, a2, a3, a4, a5, a6⟩ := h.par n n0 hn
  obtain ⟨f1, f2, f, f3, f4, f5⟩ := h.fin a a2
  have er : rAsk t a = rAsk s a := by
    unfold rAsk
    rw [hr 41 a (by omega) (by omega) (by omega), hr 42 a (by omega) (by omega) (by omega), hr 43 a (by omega) (by omega) (by omega)]
  exact ⟨a, i, a1, by rw [h40]; exact a4, by rw [h44]; exact a5, by rw [h44]; omega, by rw [er, f1]; exact a6⟩
theorem lay208 {τ s t : Sg} {m : Bool} {pf : Nat → Pth} {N k : Nat} {x : XS} {c pl : Int} (hP : WFP τ) (hF : WFK (τ 1) (τ 2) (τ 3)) (hM : WFM τ) (hWW : WFW τ) (hB : BI τ s m pf N k) (hkN : k < N) (h3 : (qry τ m (pf k)).1 = 3) (hpl : pl = (qry τ m (pf k)).2.1) (hc : 0 ≤ c ∧ c < 8) (ht : FrB τ t) (hx : Xo x t) (hr : ∀ r n, 40 ≤ r → r ≤ 45 → ¬ n = k → t r n = s r n) (hr' : ∀ r, 40 ≤ r → r ≤ 45 → ¬ r = 42 → t r = s r) (h56 : t 0 56 = s 0 56) (h40 : t 0 40 = 0) (h41 : t 0 41 = k) : ∃ r s', B_X11_lay_208 k c 5 pl k t = some (r, s') ∧ FrB τ s' ∧ Xo x s' ∧ s' 0 40 = 0 ∧ s' 0 54 = t 0 54 ∧ ((r = true ∧ ∃ pf' N', BI τ s' m pf' N' (k + 1)) ∨ (r = false ∧ Large τ m ∧ 0 ≤ s' 0 56 ∧ s' 0 56 ≤ 500)) := by
  have h5 := hB.n500
  have hkk : ((k : Nat) : Int).toNat = k := by omega
  have hap := hB.ap k hkN
  have hkp := hap.kp hP hF hM hWW
  have hb := qry_b hP hF hM hWW hap
  have hqok : AskOK τ (pf k) (qry τ m (pf k)) := by
    have htodo := hB.todo k (Nat.le_refl _) hkN
    have : QOK τ (pf k) (seekM τ m (pf k)) := seekM_ok (m := m) hP hF hM (hkp.hok hF hM) (hkp.vok hWW)
    rcases htodo.2.2 with ⟨-, t2⟩ | ⟨t1, t2⟩
    · rw [← t2] at this
      rcases this with q | q | q | q
      · exact q
      · omega
      · rw [q] at h3; exact absurd h3 (by decide)
      · omega
    · rw [← t2] at h3
      rcases t1 with t1 | t1
      · have := rAsk_3.mp h3; omega
      · have := rAsk_3.mp h3; omega
  obtain ⟨g1, g2, g3, g4⟩ : (1 ≤ pl ∧ pl ≤ 468) ∧ 0 ≤ kd τ (hk (pf k)) pl ∧ hk (pf k) pl = -9 ∧ (qry τ m (pf k)).2.2 = kd τ (hk (pf k)) pl := by
    rw [hpl]
    rcases hqok with q | q
    · exact q.2
    · omega
  have h43 : FrB τ (up2 t 43 k pl) := ht.up (Or.inl (by omega))
  have r43 : ∀ r n, 40 ≤ r → r ≤ 45 → ¬ n = k → (up2 t 43 k pl) r n = s r n := fun r n r1 r2 hn => by rw [← hr r n r1 r2 hn]; unfold up2; rw [if_neg (by omega)]
  obtain ⟨s1, k1, k2⟩ := kindOf_m (τ := τ) (s := up2 t 43 k pl) (N := N) (n := k) hF hM (hB.rts' r43 (by rw [← hr' 40 (by omega) (by omega) (by omega)]; funext n; rw [up2_row (by omega)]) (by rw [← hr' 44 (by omega) (by omega) (by omega)]; funext n; rw [up2_row (by omega)])) hkN hkp (by rw [up2_row (by omega)]; exact h40) (by rw [up2_row (by omega)]; exact h41) (h43.1 3 (by omega) (by omega)) (h43.1 19 (by omega) (by omega)) g1.1 g1.2 g2
  have hs1 : FrB τ s1 := ⟨fun r r1 r2 => by rw [k2 r (by omega)]; exact h43.1 r r1 r2, by rw [k2 27 (by omega)]; exact h43.2.1, by rw [k2 35 (by omega)]; exact h43.2.2.1, by rw [k2 39 (by omega)]; exact h43.2.2.2.1, fun i hi => by rw [k2 0 (by omega)]; exact h43.2.2.2.2 i hi⟩
  have hx1 : Xo x s1 := (hx.up (r := 43) (i := k) (v := pl) (Or.inl (by omega))).fr (k2 33 (by omega)) (fun r r1 r2 => k2 r (by omega)) (by rw [k2 0 (by omega)]) (by rw [k2 0 (by omega)])
  have hs2 : FrB τ (up2 s1 42 k (kd τ (hk (pf k)) pl)) := hs1.up (Or.inl (by omega))
  have hx2 : Xo x (up2 s1 42 k (kd τ (hk (pf k)) pl)) := hx1.up (Or.inl (by omega))
  have e0 : ∀ i, (up2 s1 42 k (kd τ (hk (pf k)) pl)) 0 i = t 0 i := fun i => by rw [up2_row (by omega), k2 0 (by omega), up2_row (by omega)]
  have hA : qry τ m (pf k) = (3, pl, kd τ (hk (pf k)) pl) := by
    rw [← g4, hpl]; exact Prod.ext h3 rfl
  have h15 : 0 ≤ kd τ (hk (pf k)) pl ∧ kd τ (hk (pf k)) pl ≤ 5 := by rw [← g4]; exact hb.2.2.1
  have hgo : ∀ many : Nat, many = wid τ (qry τ m (pf k)) → ∃ r s', B_X11_lay_267 k c many 5 (up2 s1 42 k (kd τ (hk (pf k)) pl)) = some (r, s') ∧ FrB τ s' ∧ Xo x s' ∧ s' 0 40 = 0 ∧ s' 0 54 = t 0 54 ∧ ((r = true ∧ ∃ pf' N', BI τ s' m pf' N' (k + 1)) ∨ (r = false ∧ Large τ m ∧ 0 ≤ s' 0 56 ∧ s' 0 56 ≤ 500)) := fun many hm => by
    obtain ⟨r, s'', l1, l2, l3⟩ := lay_node (x7 := 5) (c := c) (t := up2 s1 42 k (kd τ (hk (pf k)) pl)) (many := many) hB hkN rfl hm hb.2.2.2.1 hc (by rw [e0]; exact h56) (fun r n r1 r2 hn => by
      rw [← r43 r n r1 r2 hn, ← k2 r (by omega)]; unfold up2; rw [if_neg (by omega)]) (by rw [up2_row (by omega), k2 40 (by omega), up2_row (by omega), hr' 40 (by omega) (by omega) (by omega)]) (hs2.1 22 (by omega) (by omega)) (Or.inr (Or.inr ⟨rfl, by rw [hA, up2_at rfl rfl, up2_row (by omega), k2 43 (by omega), up2_at rfl rfl]⟩))
    exact ⟨r, s'', l1, hs2.pt l2, hx2.pt l2, by rw [l2 0 40 (by omega) (by omega), e0]; exact h40, by rw [l2 0 54 (by omega) (by omega), e0], l3⟩
  have hwd : wid τ (qry τ m (pf k)) = (hds τ (kd τ (hk (pf k)) pl)).toNat := by
    unfold wid; rw [if_pos h3, g4]
  unfold B_X11_lay_208 B_X11_lay_265
  rw [wrn_ok (by omega) (by omega), Option.bind_some, rdn_ok (by omega) (by omega), Option.bind_some, hkk, up2_at rfl rfl, k1, Option.bind_some]
  clear k1
  dsimp only
  rw [wrn_ok (by omega) (by omega), Option.bind_some, rdn_ok (by omega) (by omega), Option.bind_some, hkk, up2_at rfl rfl, Option.bind_some]
  unfold hds at hwd
  by_cases q4 : kd τ (hk (pf k)) pl = 4
  · rw [if_pos q4] at hwd ⊢
    exact hgo 10 (by omega)
  · rw [if_neg q4] at hwd ⊢
    by_cases q5 : kd τ (hk (pf k)) pl = 5
    · rw [if_pos q5] at hwd
      rw [if_pos q5]
      exact hgo 4 (by omega)
    · rw [if_neg q5] at hwd
      have hf4 := hF.1 (kd τ (hk (pf k)) pl).toNat (by omega)
      rw [if_neg q5, Option.bind_some, rdn_ok (by omega) (by omega), Option.bind_some, hs2.1 1 (by omega) (by omega)]
      have := hgo (τ 1 (kd τ (hk (pf k)) pl).toNat).toNat hwd.symm
      rw [show (((τ 1 (kd τ (hk (pf k)) pl).toNat).toNat : Nat) : Int) = τ 1 (kd τ (hk (pf k)) pl).toNat by omega] at this
      exact this
theorem lay_c {τ s : Sg} {m : Bool} {e : Int} {pf : Nat → Pth} {N k : Nat} {x : XS} (hP : WFP τ) (hF : WFK (τ 1) (τ 2) (τ 3)) (hM : WFM τ) (hWW : WFW τ) (he : e = if m = true then 3 else 2) (hs : FrB τ s) (hx : Xo x s) (hB : BI τ s m pf N k) (hkN : k < N) (h41 : s 41 k = -9) (h40 : s 0 40 = 0) : ∃ r s' x', F_X11_lay k e s = some (r, s') ∧ FrB τ s' ∧ Xo x' s' ∧ x'.2 = x.2 ∧ s' 0 40 = 0 ∧ s' 0 54 = s 0 54 ∧ ((r = true ∧ ∃ pf' N', BI τ s' m pf' N' (k + 1)) ∨ (r = false ∧ Large τ m ∧ 0 ≤ s' 0 56 ∧ s' 0 56 ≤ 500)) := by
  have h8 := hM.2.1
  have h5 := hB.n500
  have hkk : ((k : Nat) : Int).toNat = k := by omega
  have hap := hB.ap k hkN
  have hkp := hap.kp hP hF hM hWW
  have hb := qry_b hP hF hM hWW hap
  have hq : qry τ m (pf k) = seekM τ m (pf k) := by
    obtain ⟨-, -, t3⟩ := hB.todo k (Nat.le_refl _) hkN
    rcases t3 with t | t
    · exact t.2
    · omega
  have hqok := seekM_ok (m := m) hP hF hM (hkp.hok hF hM) (hkp.vok hWW)
  rw [← hq] at hqok
  have hs1 : FrB τ (up2 s 0 41 k) := hs.up (Or.inr (Or.inr (Or.inr ⟨rfl, by decide⟩)))
  have hx1 : Xo x (up2 s 0 41 k) := hx.up (Or.inr (Or.inr (Or.inr ⟨rfl, by omega, by omega⟩)))
  have hsm := hs1.sm
  have heq := hsm.eqp
  have hP1 := hsm.wfp hP
  have hF1 := hsm.wfk hF
  have hM1 := hsm.wfm hP hM
  have hW1 := hsm.wfw hWW
  have hNode : NodeAt (up2 s 0 41 k) pf N k := ⟨hB.rts.fr (fun r r1 r2 => funext fun i => by rw [up2_row (by omega)]), hkN, heq.kpE.mpr hkp, by rw [up2_idx (by omega)]; exact h40, by rw [up2_at rfl rfl]⟩
  obtain ⟨x', s', hrx, hx2, hout⟩ := seek_l (m := (τ 0 23).toNat) hP1 hF1 hM1 hW1 hNode (by rw [hs1.2.2.2.2 23 (by decide)]; omega) (τ 0 23).toNat 0 3000 x (up2 s 0 41 k) (by omega) (by omega) hx1.rx
  rw [heq.seekSE hP hM (pf k) _ _ (by omega)] at hout
  have hs' : FrB τ s' := hs1.rx hrx
  have hx' : Xo x' s' := hrx.2
  have row : ∀ r, 40 ≤ r → r ≤ 50 → s' r = s r := fun r r1 r2 => by rw [hrx.1.row (by omega) (by omega)]; funext i; rw [up2_row (by omega)]
  have z40 : s' 0 40 = 0 := by rw [hrx.1.2 40 (by decide), up2_idx (by omega)]; exact h40
  have z41 : s' 0 41 = k := by rw [hrx.1.2 41 (by decide), up2_at rfl rfl]
  have z54 : s' 0 54 = s 0 54 := by rw [hrx.1.2 54 (by decide), up2_idx (by omega)]
  have z56 : s' 0 56 = s 0 56 := by rw [hrx.1.2 56 (by decide), up2_idx (by omega)]
  have htodo := hB.todo k (Nat.le_refl _) hkN
  have hz : ((0 : Nat) : Int) = 0 := rfl
  unfold F_X11_lay
  rw [bnd_eq]
  rcases hout with ⟨o1, o2⟩ | ⟨c', c1, o1, o2, o3⟩ | ⟨c', c1, o1, o2, o3⟩
  · -- nothing matches
    rw [hz] at o1
    rw [o1, Option.bind_some]
    clear o1
    dsimp only
    rw [if_pos rfl, wrn_ok (by omega) (by omega), Option.bind_some, hkk]
    have hA : qry τ m (pf k) = (2, 0, 0) := by
      rw [hq]; unfold seekM; rw [o2, if_neg (fun z => absurd z.2 (by show ¬ (2 : Int) = 3; omega))]
    refine ⟨true, _, x', rfl, hs'.up (Or.inl (by omega)), hx'.up (Or.inl (by omega)), hx2, by rw [up2_row (by omega)]; exact z40, by rw [up2_row (by omega)]; exact z54, Or.inl ⟨rfl, pf, N, hB.leaf hkN (by rw [up2_row (by omega)]; exact z56) (fun r n r1 r2 hn => ?_) ?_ ?_ ?_ ?_ ?_⟩⟩
    · rw [← row r r1 (by omega)]; unfold up2; rw [if_neg (by omega)]
    · rw [up2_row (by omega), row 40 (by omega) (by omega)]
    · rw [up2_row (by omega), row 44 (by omega) (by omega)]
    · rw [up2_row (by omega), row 45 (by omega) (by omega)]
    · rw [hA]; exact rAsk_m (by rw [up2_at rfl rfl])
    · rw [hA]; unfold wid; rw [if_neg (by show ¬ (2 : Int) = 3; omega), if_neg (by show ¬ (2 : Int) = 4; omega), if_neg (by show ¬ (2 : Int) = 5; omega)]; rfl
  · -- a case matches
    rw [hz] at o1
    rw [o1, Option.bind_some]
    clear o1
    dsimp only
    rw [if_neg (by simp), wrn_ok (by omega) (by omega), Option.bind_some, hkk, if_pos rfl, rdn_ok (by omega) (by omega), Option.bind_some, show ((c' : Nat) : Int).toNat = c' by omega, up2_row (by omega), hs'.1 22 (by omega) (by omega)]
    have e22 : (up2 s 0 41 k) 22 = τ 22 := hs1.1 22 (by omega) (by omega)
    rw [e22] at o3
    have hs2 : FrB τ (up2 s' 42 k c') := hs'.up (Or.inl (by omega))
    have hx2' : Xo x' (up2 s' 42 k c') := hx'.up (Or.inl (by omega))
    by_cases g : τ 22 c' = -1
    · rw [if_pos g] at o3 ⊢
      rw [wrn_ok (by omega) (by omega), Option.bind_some, hkk]
      have hA : qry τ m (pf k) = (0, (c' : Int), 0) := by
        rw [hq]; unfold seekM; rw [o3, if_neg (fun z => absurd z.2 (by show ¬ (0 : Int) = 3; omega))]
      refine ⟨true, _, x', rfl, hs2.up (Or.inl (by omega)), hx2'.up (Or.inl (by omega)), hx2, by rw [up2_row (by omega), up2_row (by omega)]; exact z40, by rw [up2_row (by omega), up2_row (by omega)]; exact z54, Or.inl ⟨rfl, pf, N, hB.leaf hkN (by rw [up2_row (by omega), up2_row (by omega)]; exact z56) (fun r n r1 r2 hn => ?_) ?_ ?_ ?_ ?_ ?_⟩⟩
      · rw [← row r r1 (by omega)]; unfold up2; rw [if_neg (by omega), if_neg (by omega)]
      · rw [up2_row (by omega), up2_row (by omega), row 40 (by omega) (by omega)]
      · rw [up2_row (by omega), up2_row (by omega), row 44 (by omega) (by omega)]
      · rw [up2_row (by omega), up2_row (by omega), row 45 (by omega) (by omega)]
      · rw [hA]; exact rAsk_l (by rw [up2_at rfl rfl]) (Or.inl rfl) (by rw [up2_row (by omega), up2_at rfl rfl])
      · rw [hA]; unfold wid; rw [if_neg (by show ¬ (0 : Int) = 3; omega), if_neg (by show ¬ (0 : Int) = 4; omega), if_neg (by show ¬ (0 : Int) = 5; omega)]; rfl
    · rw [if_neg g] at o3 ⊢
      have hA : qry τ m (pf k) = (5, (c' : Int), 0) := by
        rw [hq]; unfold seekM; rw [o3, if_neg (fun z => absurd z.2 (by show ¬ (5 : Int) = 3; omega))]
      have hw2 : 2 = wid τ (qry τ m (pf k)) := by
        rw [hA]; unfold wid; rw [if_neg (by show ¬ (5 : Int) = 3; omega), if_neg (by show ¬ (5 : Int) = 4; omega), if_pos (by show (5 : Int) = 5; omega)]; rfl
      obtain ⟨r, s'', l1, l2, l3⟩ := lay_node (x7 := 3) (c := (c' : Int)) (t := up2 s' 42 k c') (many := 2) hB hkN rfl hw2 hb.2.2.2.1 ⟨by omega, by omega⟩ (by rw [up2_row (by omega)]; exact z56) (fun r n r1 r2 hn => by rw [← row r r1 (by omega)]; unfold up2; rw [if_neg (by omega)]) (by rw [up2_row (by omega), row 40 (by omega) (by omega)]) (hs2.1 22 (by omega) (by omega)) (Or.inl ⟨rfl, hA, by rw [up2_at rfl rfl]⟩)
      refine ⟨r, s'', x', ?_, hs2.pt l2, hx2'.pt l2, hx2, by rw [l2 0 40 (by omega) (by omega), up2_row (by omega)]; exact z40, by rw [l2 0 54 (by omega) (by omega), up2_row (by omega)]; exact z54, l3⟩
      unfold B_X11_lay_119 B_X11_lay_135
      rw [if_pos rfl, if_neg (by omega), if_neg (by omega)]
      exact l1
  · -- something is asked
    rw [hz] at o1
    rw [o1, Option.bind_some]
    clear o1
    dsimp only
    rw [if_neg (by simp), wrn_ok (by omega) (by omega), Option.bind_some, hkk, if_neg (by omega)]
    have o3' := heq.askE.mp o3
    have hs2 : FrB τ (up2 s' 42 k c') := hs'.up (Or.inl (by omega))
    have hx2' : Xo x' (up2 s' 42 k c') := hx'.up (Or.inl (by omega))
    have rowk : ∀ r n, 40 ≤ r → r ≤ 45 → ¬ n = k → (up2 s' 42 k (c' : Int)) r n = s r n := fun r n r1 r2 hn => by rw [← row r r1 (by omega)]; unfold up2; rw [if_neg (by omega)]
    have rowo : ∀ r, 40 ≤ r → r ≤ 45 → ¬ r = 42 → (up2 s' 42 k (c' : Int)) r = s r := fun r r1 r2 hr => by rw [← row r r1 (by omega)]; funext n; rw [up2_row hr]
    unfold B_X11_lay_119 B_X11_lay_135
    rw [if_neg (by omega), up2_row (by omega)]
    by_cases h3 : (seekS τ (pf k) (τ 0 23).toNat 0).1 = 3
    · obtain ⟨d1, d2⟩ := o2.1 h3
      have hN2 : RTs (up2 s' 42 k (c' : Int)) pf N := hB.rts' rowk (rowo 40 (by omega) (by omega) (by omega)) (rowo 44 (by omega) (by omega) (by omega))
      rw [if_neg (by omega), if_pos d1]
      cases m with
      | true =>
        have he3 : e = 3 := he
        rw [if_pos he3]
        obtain ⟨x0, hx0⟩ := seek_pos hP hF hM (hkp.hok hF hM) (hkp.vok hWW) h3
        have hsm2 := hs2.sm
        have heq2 := hsm2.eqp
        obtain ⟨x3, s3, m1, m2, m3, m4⟩ := mostNeeded_c (x0 := x0) (s := up2 s' 42 k (c' : Int)) (hsm2.wfp hP) (hsm2.wfk hF) (hsm2.wfm hP hM) (hsm2.wfw hWW) ⟨hN2, hkN, heq2.kpE.mpr hkp, by rw [up2_row (by omega)]; exact z40, by rw [up2_row (by omega)]; exact z41⟩ FrW.rfl' hx2' (by rw [heq2.cntE hP hM]; exact hx0)
        rw [m1, Option.bind_some, heq2.bestE hP hM, d1]
        clear m1
        have hA : qry τ true (pf k) = (3, best τ (pf k), kd τ (hk (pf k)) (best τ (pf k))) := by
          rw [hq]; unfold seekM; rw [if_pos ⟨rfl, h3⟩]
        obtain ⟨r, s4, w1, w2, w3, w4, w5, w6⟩ := lay208 (c := (c' : Int)) hP hF hM hWW hB hkN (by rw [hA]) (show best τ (pf k) = (qry τ true (pf k)).2.1 by rw [hA]) ⟨by omega, by omega⟩ (hs2.w m2) m3 (fun r n r1 r2 hn => by rw [m2.2.1 r (by omega) (by omega)]; exact rowk r n r1 r2 hn) (fun r r1 r2 hr => by rw [m2.2.1 r (by omega) (by omega)]; exact rowo r r1 r2 hr) (by rw [m2.2.2.2.2 56 (by decide), up2_row (by omega)]; exact z56) (by rw [m2.2.2.2.2 40 (by decide), up2_row (by omega)]; exact z40) (by rw [m2.2.2.2.2 41 (by decide), up2_row (by omega)]; exact z41)
        exact ⟨r, s4, x3, w1, w2, w3, by rw [m4]; exact hx2, w4, by rw [w5, m2.2.2.2.2 54 (by decide), up2_row (by omega)]; exact z54, w6⟩
      | false =>
        have he2 : e = 2 := he
        rw [if_neg (by omega), up2_row (by omega), d1, d2]
        have hA : qry τ false (pf k) = seekS τ (pf k) (τ 0 23).toNat 0 := by
          rw [hq]; unfold seekM; rw [if_neg (fun z => absurd z.1 (by simp))]
        obtain ⟨r, s4, w1, w2, w3, w4, w5, w6⟩ := lay208 (c := (c' : Int)) hP hF hM hWW hB hkN (by rw [hA]; exact h3) (show (seekS τ (pf k) (τ 0 23).toNat 0).2.1 = (qry τ false (pf k)).2.1 by rw [hA]) ⟨by omega, by omega⟩ hs2 hx2' rowk rowo (by rw [up2_row (by omega)]; exact z56) (by rw [up2_row (by omega)]; exact z40) (by rw [up2_row (by omega)]; exact z41)
        exact ⟨r, s4, x', w1, w2, w3, hx2, w4, by rw [w5, up2_row (by omega)]; exact z54, w6⟩
    · have h4 : (seekS τ (pf k) (τ 0 23).toNat 0).1 = 4 := by
        rcases o3' with z | z
        · exact absurd z.1 h3
        · exact z.1
      obtain ⟨d1, d2, d3⟩ := o2.2 h4
      have hv : 0 ≤ (seekS τ (pf k) (τ 0 23).toNat 0).2.2 ∧ (seekS τ (pf k) (τ 0 23).toNat 0).2.2 ≤ 2 := by
        rcases o3' with z | z
        · exact absurd z.1 h3
        · exact z.2.2.2.1
      have hA : qry τ m (pf k) = seekS τ (pf k) (τ 0 23).toNat 0 := by
        rw [hq]; unfold seekM; rw [if_neg (fun z => h3 z.2)]
      generalize hS : seekS τ (pf k) (τ 0 23).toNat 0 = a at *
      have hv18 := hWW a.2.2.toNat (by omega)
      have e18 : (4 * a.2.2 + 3).toNat = 4 * a.2.2.toNat + 3 := by omega
      have hw2 : (τ 18 (4 * a.2.2.toNat + 3)).toNat = wid τ (qry τ m (pf k)) := by
        rw [hA]; unfold wid; rw [if_neg h3, if_pos h4, e18]
      have f1 : (up2 (up2 s' 42 k (c' : Int)) 42 k a.2.2) 0 44 = a.2.1 := by rw [up2_row (by omega), up2_row (by omega)]; exact d2
      have f2 : (up2 (up2 (up2 s' 42 k (c' : Int)) 42 k a.2.2) 43 k a.2.1) 0 43 = a.2.2 := by rw [up2_row (by omega), up2_row (by omega), up2_row (by omega)]; exact d3
      have hs4 : FrB τ (up2 (up2 (up2 s' 42 k (c' : Int)) 42 k a.2.2) 43 k a.2.1) := (hs2.up (Or.inl (by omega))).up (Or.inl (by omega))
      have hx4 : Xo x' (up2 (up2 (up2 s' 42 k (c' : Int)) 42 k a.2.2) 43 k a.2.1) := (hx2'.up (Or.inl (by omega))).up (Or.inl (by omega))
      obtain ⟨r, s'', l1, l2, l3⟩ := lay_node (x7 := 4) (c := (c' : Int)) (t := up2 (up2 (up2 s' 42 k (c' : Int)) 42 k a.2.2) 43 k a.2.1) (many := (τ 18 (4 * a.2.2.toNat + 3)).toNat) hB hkN rfl hw2 hb.2.2.2.1 ⟨by omega, by omega⟩ (by rw [up2_row (by omega), up2_row (by omega), up2_row (by omega)]; exact z56) (fun r n r1 r2 hn => by rw [← rowk r n r1 r2 hn]; unfold up2; rw [if_neg (by omega), if_neg (by omega)]) (by rw [up2_row (by omega), up2_row (by omega), rowo 40 (by omega) (by omega) (by omega)]) (hs4.1 22 (by omega) (by omega)) (Or.inr (Or.inl ⟨rfl, by rw [hA, up2_at rfl rfl, up2_row (by omega), up2_at rfl rfl]; exact Prod.ext h4 rfl⟩))
      rw [if_pos d1, wrn_ok (by omega) (by omega), Option.bind_some, hkk, show (up2 s' 42 k (c' : Int)) 0 43 = a.2.2 by rw [up2_row (by omega)]; exact d3, f1, wrn_ok (by omega) (by omega), Option.bind_some, hkk, f2, wrap_id (z := 4 * a.2.2) (by omega) (by omega), wrap_id (by omega) (by omega), rdn_ok (by omega) (by omega), Option.bind_some, e18, hs4.1 18 (by omega) (by omega), d1]
      refine ⟨r, s'', x', ?_, hs4.pt l2, hx4.pt l2, hx2, by rw [l2 0 40 (by omega) (by omega), up2_row (by omega), up2_row (by omega), up2_row (by omega)]; exact z40, by rw [l2 0 54 (by omega) (by omega), up2_row (by omega), up2_row (by omega), up2_row (by omega)]; exact z54, l3⟩
      rw [← l1]
      refine congrArg (fun z => B_X11_lay_267 k c' z 4 _) ?_
      omega
