/-! the walk again: the plain tests are few -/
def wOK2 (τ : Sg) (m : Bool) (W : Int × Nat × XS) : Prop := wOK τ m W ∧ (plS τ (τ 0 23).toNat 0 xI).2.2.2.1 ≤ 960
set_option maxHeartbeats 2000000 in
theorem wk_cmp2 {τ : Sg} {m : Bool} (hT : CtxT τ) (hlen : ∀ P, AP τ m P → P.length < 500) : ∀ (d : Nat) (P : Pth) (x : XS), 500 ≤ P.length + d → qry τ m P = seekM τ m P → WI τ m P x → x.2.2 = vwP P → x.2.1 = nH P + (vwP P).length → GVL τ (vwP P) → GRD τ P → wOK2 τ m (wk τ m d P x)
  | 0, P, x, hd, _, hw, _, _, _, _ => by
    have := hlen P hw.1
    omega
  | d + 1, P, x, hd, ho, hw, hv, ht, hg, hG => by
    obtain ⟨hF, hV, hW, hM, hWW, hGV⟩ := id hT
    have hl := hlen P hw.1
    have hn := nH_len P
    have hKP := AP.kp hW hF hM hWW hw.1
    obtain ⟨w1, w2, w3⟩ := way_ok hT P hw.1
    have hps := psT_seek w1 (τ 0 23).toNat 0 xI AgP.nil
    have hR : RealP τ P := ⟨hw.2.1, hg⟩
    have hN : ((0 + (τ 0 23).toNat : Nat) : Int) ≤ τ 0 23 := by have := hM.2.1.1; omega
    have hb := psT_bd (P := P) hW hM (τ 0 23).toNat 0 xI hN
    have h8 := hM.2.1.2
    have hS := psT_S (τ := τ) (P := P) (τ 0 23).toNat 0 xI
    have hS2 : 0 ≤ (psT τ P (τ 0 23).toNat 0 xI).2.2.1 := hS.2
    have hb2 : (psT τ P (τ 0 23).toNat 0 xI).2.2.1 ≤ 0 + 120 * (((τ 0 23).toNat : Nat) : Int) := hb
    have hwr : wrap (psT τ P (τ 0 23).toNat 0 xI).2.2.1 = (psT τ P (τ 0 23).toNat 0 xI).2.2.1 := wrap_id (by omega) (by omega)
    obtain ⟨A1, A2, A3⟩ := pl_cmp hR hG (τ 0 23).toNat 0 xI AgP.nil (by rw [w2]; exact List.suffix_refl _)
    rw [wXI] at A1 A2 A3
    obtain ⟨s1, s2, s3⟩ := seekM_k (τ := τ) (m := m) (P := P)
    -- what an end of kind k at case c' comes to
    have hend : ∀ (k : Int) (c' : Nat) (y : XS), y.2 = x.2 → plS τ (τ 0 23).toNat 0 xI = (k, c', wX (psT τ P (τ 0 23).toNat 0 xI).2) → (psT τ P (τ 0 23).toNat 0 xI).2.1 = y.1 → wOK2 τ m (k, c', y) := fun k c' y hy hp hbn => by
      unfold wOK2 wOK
      rw [hp]
      refine ⟨⟨rfl, Or.inr ⟨rfl, hbn.symm⟩, ?_, ?_, fun hm => ?_⟩, by show wrap (psT τ P (τ 0 23).toNat 0 xI).2.2.1 ≤ 960; rw [hwr]; omega⟩
      · show y.2.2 = (psT τ P (τ 0 23).toNat 0 xI).2.2.2
        rw [hy, w2, hv]
      · show (y.2.2.length : Int) ≤ y.2.1
        rw [hy, ht, hv]; omega
      · show y.2.1 ≤ wrap (psT τ P (τ 0 23).toNat 0 xI).2.2.1 + y.2.2.length
        rw [hwr, hy, ht, hv]
        have := w3 hm
        omega
    rcases seek_or (τ := τ) (P := P) (m := (τ 0 23).toNat) (τ 0 23).toNat 0 (by omega) with hS0 | ⟨c', c1, c2, c3, hS0⟩ | ⟨c', c1, c2, hS0⟩
    · have hq : qry τ m P = (2, 0, 0) := by
        rw [ho, s2 (fun z => ?_), hS0]
        have := s1 z
        rw [hS0] at this
        exact absurd this (by show ¬ (2 : Int) = 3; omega)
      rw [wk_1 hq, if_neg (show ¬ (2 : Int) = 0 by omega), if_neg (show ¬ (2 : Int) = 1 by omega), if_pos rfl]
      obtain ⟨a1, a2⟩ := A1 (by rw [hps, hS0])
      refine ⟨⟨a1.symm, Or.inl rfl, ?_, ?_, fun hm => ?_⟩, by rw [a2]; show wrap (psT τ P (τ 0 23).toNat 0 xI).2.2.1 ≤ 960; rw [hwr]; omega⟩
      · rw [a2]
        show x.2.2 = (psT τ P (τ 0 23).toNat 0 xI).2.2.2
        rw [w2, hv]
      · show (x.2.2.length : Int) ≤ x.2.1
        rw [ht, hv]; omega
      · rw [a2]
        show x.2.1 ≤ wrap (psT τ P (τ 0 23).toNat 0 xI).2.2.1 + x.2.2.length
        rw [hwr, ht, hv]
        have := w3 hm
        omega
    · by_cases hu : τ 22 c' = -1
      · rw [if_pos hu] at hS0
        have hq : qry τ m P = (0, (c' : Int), 0) := by
          rw [ho, s2 (fun z => ?_), hS0]
          have := s1 z
          rw [hS0] at this
          exact absurd this (by show ¬ (0 : Int) = 3; omega)
        rw [wk_1 hq, if_pos rfl]
        obtain ⟨b1, b2⟩ := A2 c' (by rw [hps, hS0])
        exact hend 0 c' ((tryK τ P c').2.1, x.2) rfl b1 b2
      · rw [if_neg hu] at hS0
        have hq : qry τ m P = (5, (c' : Int), 0) := by
          rw [ho, s2 (fun z => ?_), hS0]
          have := s1 z
          rw [hS0] at this
          exact absurd this (by show ¬ (5 : Int) = 3; omega)
        rw [wk_1 hq, if_neg (show ¬ (5 : Int) = 0 by omega), if_neg (show ¬ (5 : Int) = 1 by omega), if_neg (show ¬ (5 : Int) = 2 by omega), if_pos rfl]
        obtain ⟨b1, b2, b3⟩ := A3 c' (by rw [hps, hS0])
        have hgx : grd τ (hdR τ) c' (psT τ P (τ 0 23).toNat 0 xI).2 = grd τ (hdR τ) c' ((tryK τ P c').2.1, x.2) := grd_x b1
        rw [hgx] at b2 b3
        obtain ⟨g0, g1, g2, g3⟩ := grd_c (τ := τ) (H := hdR τ) (c := c') (x := ((tryK τ P c').2.1, x.2))
        show wOK2 τ m (wk τ m d (((5, (c' : Int), 0), if grd τ (hdR τ) c' ((tryK τ P c').2.1, x.2) = 0 then 0 else 1) :: P) ((tryK τ P c').2.1, x.2))
        have hwg : ∀ br, br < 2 → WI τ m (((5, (c' : Int), 0), br) :: P) ((tryK τ P c').2.1, x.2) := fun br hbr => by
          have := hw.guard (y := ((tryK τ P c').2.1, x.2)) (br := br) (by rw [hq]) hbr rfl
          rw [hq] at this; exact this
        have hmono : ∀ br c b, (tryK τ P c).1 = .inl b → (tryK τ (((5, (c' : Int), 0), br) :: P) c).1 = .inl b ∧ (tryK τ (((5, (c' : Int), 0), br) :: P) c).2.1 = (tryK τ P c).2.1 := fun br c b h => tryK_mono (q := ((5, (c' : Int), 0), br)) (fun z => absurd z (by show ¬ (5 : Int) = 3; omega)) (fun z => absurd z (by show ¬ (5 : Int) = 4; omega)) h
        have hd1 : ∀ br, br < 2 → ∃ d', d = d' + 1 := fun br hbr => by
          have := hlen _ (hwg br hbr).1
          rw [List.length_cons] at this
          exact ⟨d - 1, by omega⟩
        by_cases e0 : grd τ (hdR τ) c' ((tryK τ P c').2.1, x.2) = 0
        · rw [if_pos e0]
          obtain ⟨d', rfl⟩ := hd1 0 (by omega)
          have hq2 : qry τ m (((5, (c' : Int), 0), 0) :: P) = (0, (c' : Int), 0) := by rw [qry_c, if_pos ⟨rfl, rfl⟩]
          rw [wk_1 hq2, if_pos rfl]
          show wOK2 τ m (0, c', ((tryK τ (((5, (c' : Int), 0), 0) :: P) c').2.1, x.2))
          rw [(hmono 0 c' true c3).2]
          exact hend 0 c' ((tryK τ P c').2.1, x.2) rfl (b2 e0) b1
        · rw [if_neg e0]
          by_cases e3 : τ 22 c' = 3
          · obtain ⟨d', rfl⟩ := hd1 1 (by omega)
            have e2 : grd τ (hdR τ) c' ((tryK τ P c').2.1, x.2) = 2 := by have := g1 e3; omega
            have hq2 : qry τ m (((5, (c' : Int), 0), 1) :: P) = (1, (c' : Int), 0) := by rw [qry_c, if_neg (fun z => absurd z.2 (show ¬ (1 : Nat) = 0 by omega)), if_pos ⟨rfl, e3⟩]
            rw [wk_1 hq2, if_neg (show ¬ (1 : Int) = 0 by omega), if_pos rfl]
            show wOK2 τ m (1, c', ((tryK τ (((5, (c' : Int), 0), 1) :: P) c').2.1, x.2))
            rw [(hmono 1 c' true c3).2]
            exact hend 1 c' ((tryK τ P c').2.1, x.2) rfl (b3 e2) b1
          · have h22 := (hM.2.2.2.2 c' (by omega)).2.2.1
            have e1 : grd τ (hdR τ) c' ((tryK τ P c').2.1, x.2) = 1 := by
              have := g3 (by omega)
              omega
            refine wk_cmp2 hT hlen d _ _ (by rw [List.length_cons]; omega) ?_ (hwg 1 (by omega)) ?_ ?_ ?_ ?_
            · rw [qry_c, if_neg (fun z => absurd z.2 (show ¬ (1 : Nat) = 0 by omega)), if_neg (fun z => e3 z.2)]
            · rw [vw_n (show ¬ (5 : Int) = 4 by omega)]; exact hv
            · rw [vw_n (show ¬ (5 : Int) = 4 by omega)]
              show x.2.1 = nH P + (if (5 : Int) = 3 then 1 else 0) + _
              rw [if_neg (by omega), ht]; omega
            · rw [vw_n (show ¬ (5 : Int) = 4 by omega)]; exact hg
            · intro c hc z hz
              have hc2 : (decide ((5 : Int) = 5 ∧ (c' : Int) = (c : Int) ∧ 0 < 1) || fk P c) = true := hc
              by_cases k : fk P c = true
              · exact hG c k z (hz.trans (hmono 1 c true (w1 c k)).2)
              · have kf : fk P c = false := by cases q : fk P c with
                  | true => exact absurd q k
                  | false => rfl
                rw [kf, Bool.or_false, decide_eq_true_eq] at hc2
                have k2 : c' = c := by omega
                subst k2
                rw [grd_x (y := ((tryK τ P c').2.1, x.2)) (hz.trans (hmono 1 c' true c3).2)]
                exact e1
    · have hAO := try_ask hW hF hM (KP.hok hF hM hKP) (KP.vok hWW hKP) (by omega) hS0
      -- the child's bookkeeping
      have hkid : ∀ (a : Ask) (br : Nat) (y : XS), (a.1 = 3 ∨ a.1 = 4) → qry τ m P = a → WI τ m ((a, br) :: P) y → y.2.2 = vwP ((a, br) :: P) → y.2.1 = nH ((a, br) :: P) + (vwP ((a, br) :: P)).length → GVL τ (vwP ((a, br) :: P)) → wOK2 τ m (wk τ m d ((a, br) :: P) y) := fun a br y ha hqa hwi h1 h2 h3 => by
        have hk2 := AP.kp hW hF hM hWW hwi.1
        refine wk_cmp2 hT hlen d _ _ (by rw [List.length_cons]; omega) ?_ hwi h1 h2 h3 (hG.next w1 hk2.unk hk2.unv (by show ¬ a.1 = 5; omega))
        rw [qry_c, if_neg (fun z => absurd z.1 (by show ¬ a.1 = 5; omega)), if_neg (fun z => absurd z.1 (by show ¬ a.1 = 5; omega))]
      have hcnt : (cntX x).2.1 = nH P + (vwP P).length + 1 := by
        show wrap (x.2.1 + 1) = _
        rw [ht, wrap_id (by omega) (by omega)]
      rcases hAO with ⟨k3, -⟩ | ⟨k4, kp, -, kv, ku⟩
      · -- a head
        have hq3 : (qry τ m P).1 = 3 := by
          rw [ho]
          by_cases z : (seekM τ m P).1 = 3
          · exact z
          · rw [s2 z]; exact k3
        obtain ⟨-, v2, v3, v4, v5⟩ := hw.head hT hq3
        obtain ⟨a, ha⟩ : ∃ a, qry τ m P = a := ⟨_, rfl⟩
        rw [ha] at hq3 v2 v3 v4 v5
        rw [wk_1 ha, if_neg (by omega), if_neg (by omega), if_neg (by omega), if_neg (by omega), if_neg (by omega)]
        refine hkid a _ _ (Or.inl hq3) ha v5 ?_ ?_ ?_
        · rw [vw_n (by show ¬ a.1 = 4; omega)]; exact hv
        · rw [vw_n (by show ¬ a.1 = 4; omega), hcnt]
          show _ = nH P + (if a.1 = 3 then 1 else 0) + _
          rw [if_pos hq3]; omega
        · rw [vw_n (by show ¬ a.1 = 4; omega)]; exact hg
      · -- a view
        have hqs : qry τ m P = seekS τ P (τ 0 23).toNat 0 := by
          rw [ho]
          exact s2 (fun z => by have := s1 z; omega)
        have hq4 : (qry τ m P).1 = 4 := by rw [hqs]; exact k4
        obtain ⟨-, -, v2, v3, v4, v5⟩ := hw.given hT hq4
        obtain ⟨a, ha⟩ : ∃ a, qry τ m P = a := ⟨_, rfl⟩
        have has : seekS τ P (τ 0 23).toNat 0 = a := by rw [← hqs, ha]
        rw [has] at ku
        rw [ha] at hq4 v2 v3 v4 v5
        rw [wk_1 ha, if_neg (by omega), if_neg (by omega), if_neg (by omega), if_neg (by omega), if_pos hq4]
        have hlk : lkR (cntX x).2.2 a.2.2 a.2.1 = -9 := by
          have := hw.2.2.1 a.2.2 a.2.1
          show lkR x.2.2 a.2.2 a.2.1 = -9
          rw [← this]; exact ku
        have hgv : gvR τ a.2.2 a.2.1 (cntX x) = (nvR τ a.2.2 a.2.1 (vwP P).length, (x.1, (cntX x).2.1, (a.2.2, a.2.1, nvR τ a.2.2 a.2.1 (vwP P).length) :: vwP P)) := by
          unfold gvR
          rw [if_pos hlk]
          show (nvR τ a.2.2 a.2.1 x.2.2.length, (x.1, (cntX x).2.1, (a.2.2, a.2.1, nvR τ a.2.2 a.2.1 x.2.2.length) :: x.2.2)) = _
          rw [hv]
        rw [hgv] at v2 v3 v4 v5 ⊢
        dsimp only at v2 v3 v4 v5 ⊢
        have hc : ((nvR τ a.2.2 a.2.1 (vwP P).length).toNat : Int) = nvR τ a.2.2 a.2.1 (vwP P).length := by omega
        have e4 : vwP ((a, (nvR τ a.2.2 a.2.1 (vwP P).length).toNat) :: P) = (a.2.2, a.2.1, nvR τ a.2.2 a.2.1 (vwP P).length) :: vwP P := by
          rw [vw_4 (show a.1 = 4 from hq4)]
          show (a.2.2, a.2.1, ((nvR τ a.2.2 a.2.1 (vwP P).length).toNat : Int)) :: vwP P = _
          rw [hc]
        refine hkid a _ _ (Or.inr hq4) ha v5 e4.symm ?_ ?_
        · rw [e4, List.length_cons]
          show (cntX x).2.1 = nH P + (if a.1 = 3 then 1 else 0) + _
          rw [hcnt, if_neg (by omega)]; omega
        · rw [e4]
          exact ⟨⟨rfl, by show ¬ nvR τ a.2.2 a.2.1 (vwP P).length = -9; omega⟩, hg⟩
theorem wk_run2 {τ : Sg} {m : Bool} (hT : CtxT τ) (hlen : ∀ P, AP τ m P → P.length < 500) : wOK2 τ m (wk τ m 500 [] xI) :=
  wk_cmp2 hT hlen 500 [] xI (by show 500 ≤ 0 + 500; omega) rfl (WI.nil rfl) rfl rfl trivial (fun c h => by cases h)

