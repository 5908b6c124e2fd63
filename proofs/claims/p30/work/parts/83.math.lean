/-! merge, the call: the end -/
theorem ExtP.trans {τ τ' τ2 : Sg} (h : ExtP τ τ') (h' : ExtP τ' τ2) : ExtP τ τ2 := by
  have a := h.1
  have b := h'.1
  refine ⟨by omega, fun p hp => ⟨fun r hr => ?_, fun k hk => ?_⟩⟩
  · rw [(h'.2 p (by omega)).1 r hr, (h.2 p hp).1 r hr]
  · rw [(h'.2 p (by omega)).2 k hk, (h.2 p hp).2 k hk]
theorem alt_kind {τ τ1 : Sg} {a b v : Int} {n : Nat} (hW : WFP τ) (hN : τ 0 9 = n) (hn : n < 60) (ha : pl τ a) (hb : pl τ b) (he : F_X11_alternatives a b (up2 τ 0 0 0) = some (v, τ1)) : τ1 0 9 = (n : Int) + 1 ∧ τ1 12 n = if τ 12 a.toNat = -1 then τ 12 b.toNat else τ 12 a.toNat := by
  have w2 := hW.2.1
  have a60 : a < (60 : Nat) := by have := ha.2; omega
  have b60 : b < (60 : Nat) := by have := hb.2; omega
  obtain ⟨τ', em, hM⟩ := patM (τ := up2 τ 0 0 0) (n := n) (fm := 4) (hd := 0) (rs := 0) (p0 := a) (p1 := b) (p2 := -1) (kd := if τ 12 a.toNat = -1 then τ 12 b.toNat else τ 12 a.toNat) (by rw [up2_idx (by omega)]; exact hN) hn (Or.inr ⟨ha.1, by have := ha.2; omega⟩) (Or.inr ⟨hb.1, by have := hb.2; omega⟩) (Or.inl rfl) (fun p hp => by
      show 0 ≤ szo τ p ∧ szo τ p ≤ 40
      unfold szo
      split
      · omega
      · have := szo_b hW p.toNat (by rcases hp with h | h <;> omega); omega) (fun j hj => dpo_b hW j (by omega)) (fun r hr j hj => by
      have w := hW.2.2 j (by omega)
      simp only [List.mem_cons, List.not_mem_nil, or_false] at hr
      rcases hr with rfl | rfl
      · exact w.2.2.2.2.2.2.2.2.1
      · exact w.2.2.2.2.2.2.2.2.2.1) (fun q => by omega)
  have e2 : F_X11_alternatives a b (up2 τ 0 0 0) = some ((n : Int), τ') := by
    unfold F_X11_alternatives B_X11_alternatives_32
    rw [rdn_ok ha.1 a60, Option.bind_some, rdn_ok hb.1 b60, Option.bind_some]
    show (if τ 12 a.toNat = -1 then ((F_X11_pattern 4 0 0 a b (-1) (τ 12 b.toNat) (up2 τ 0 0 0)).bind fun q5 => some (q5.1, q5.2)) else ((some (τ 12 a.toNat)).bind fun v3 => (F_X11_pattern 4 0 0 a b (-1) v3 (up2 τ 0 0 0)).bind fun q5 => some (q5.1, q5.2))) = _
    by_cases c : τ 12 a.toNat = -1
    · rw [if_pos c] at em ⊢; rw [em]; rfl
    · rw [if_neg c] at em ⊢; rw [Option.bind_some, em]; rfl
  rw [he] at e2
  cases e2
  exact ⟨hM.2.2.1, hM.2.2.2.2.2.2.2.2.1⟩
set_option maxHeartbeats 4000000 in
theorem op_merge {σ τ : Sg} (a1 a2 : Int) (hF : WFK (τ 1) (τ 2) (τ 3)) (h : RP σ τ) (hM : RM σ τ) : Thr [(0, 1), (2, 2)] (F_X10_merge a1 a2 σ) (F_X11_merge a1 a2 τ) σ τ ∨ ∃ v σ' τ', Okk (F_X10_merge a1 a2 σ) (F_X11_merge a1 a2 τ) v σ' τ' ∧ (∀ r, (r < 10 ∨ 21 < r) → r ∉ [24, 26, 33, 43, 49] → σ' r = σ r) ∧ (∀ r, r ∉ [0, 8, 9, 10, 11, 12, 13, 14, 15, 16, 17, 20, 21, 22, 23, 24, 25] → τ' r = τ r) ∧ (∀ i, i ∉ [0, 9, 23, 54] → τ' 0 i = τ 0 i) ∧ ExtP τ τ' ∧ RP σ' τ' ∧ RM σ' τ' ∧ NoEng σ σ' τ' := by
  have hW := h.2.1
  obtain ⟨h1, h2, h3, h4, h5⟩ := id hM
  obtain ⟨w1, w2, w3, w4, w5⟩ := id h4
  have hw9 := hW.2.1
  have hthrow : ∀ (t : Int), ¬ t = 0 → B_X11_merge_220 a1 a2 t τ = some (0, up2 τ 0 0 t) := fun t ht => by
    unfold B_X11_merge_220; rw [bnd_eq, refused_n ht]; rfl
  have hfalse : ∀ x3 : Bool, B_X11_merge_82 a1 a2 x3 false τ = if x3 = true then B_X11_merge_220 a1 a2 2 τ else B_X11_merge_220 a1 a2 1 τ := fun x3 => by
    unfold B_X11_merge_82
    have hi : L_X11_merge_87 a1 a2 τ false 0 = some (.inr false) := by
      unfold L_X11_merge_87
      by_cases c : τ 0 21 ≤ 0
      · rw [if_pos c]
      · rw [if_neg c, if_neg (by simp)]
    rw [iter_r (f := fun x : (Bool × Int) => L_X11_merge_87 a1 a2 τ x.1 x.2) hi, Option.bind_some]
    cases x3
    · rw [if_neg (by simp), if_neg (by simp)]
    · rw [if_pos rfl, if_pos rfl, if_neg (by simp)]
  unfold F_X10_merge F_X11_merge B_X10_merge_39 B_X11_merge_32 F_X4_count
  have bad : Thr [(0, 1), (2, 2)] (B_X10_merge_40 a1 a2 false σ) (B_X11_merge_33 a1 a2 false τ) σ τ := by
    refine ⟨0, 1, ?_, ?_, rfl, by decide, by decide⟩
    · unfold B_X10_merge_40; rw [if_neg (by simp)]
    · unfold B_X11_merge_33 B_X11_merge_81
      rw [if_neg (by simp), hfalse, if_neg (by simp), hthrow 1 (by omega)]
  rw [h2, wrap_id (z := τ 0 23 - 1) (by omega) (by omega), wrap_id (z := τ 0 23 - 2) (by omega) (by omega)]
  by_cases c1 : 0 ≤ a1 ∧ a1 + 1 < τ 0 23
  · rw [if_pos ((has4 hM).mpr ⟨c1.1, by omega⟩), if_neg (by omega), if_pos (in_iff.mpr ⟨c1.1, by omega⟩)]
    by_cases c2 : 0 ≤ a2 ∧ a2 < τ 0 21
    · rw [if_pos ((hasCol4 hM).mpr c2), if_pos ((inCol h4).mpr c2)]
      obtain ⟨a, ha⟩ : ∃ a : Nat, a1 = a := ⟨a1.toNat, by omega⟩
      obtain ⟨k, hk⟩ : ∃ k : Nat, a2 = k := ⟨a2.toNat, by omega⟩
      subst ha; subst hk
      have p1 := ((w5 a (by omega)).1 k (by omega)).1 c2.2
      have p2 := ((w5 (a + 1) (by omega)).1 k (by omega)).1 c2.2
      have l1 : pl τ (cpt τ a k) := ⟨p1.1, p1.2.1⟩
      have l2 : pl τ (cpt τ (a + 1) k) := ⟨p2.1, p2.2.1⟩
      have b1 := p1.2.1
      have b2 := p2.2.1
      obtain ⟨q1, hq1⟩ : ∃ q1 : Nat, cpt τ a k = q1 := ⟨(cpt τ a k).toNat, by have := p1.1; omega⟩
      obtain ⟨q2, hq2⟩ : ∃ q2 : Nat, cpt τ (a + 1) k = q2 := ⟨(cpt τ (a + 1) k).toNat, by have := p2.1; omega⟩
      rw [hq1] at b1 l1 p1
      rw [hq2] at b2 l2 p2
      obtain ⟨n, hn⟩ : ∃ n : Nat, τ 0 23 = n := ⟨(τ 0 23).toNat, by omega⟩
      obtain ⟨y, y1, y2⟩ := alikeC (k := k) hM c1.2
      obtain ⟨z, z1, z2⟩ := mergeM (k := k) hW h4 c1.2
      have v1 := hasView5 h b1
      have v2 := hasView5 h b2
      have u1 := (hW.2.2 q1 b1).2.2.2.2.2.2.2.2.1
      have u2 := (hW.2.2 q2 b2).2.2.2.2.2.2.2.2.1
      have alt := canAlt5 h l1 l2
      -- the reference's answer
      have dcd : Decidable (alkS τ a k ∧ τ 16 q1 = 0 ∧ τ 16 q2 = 0 ∧ altS τ q1 q2 ∧ ¬ τ 0 9 = 60) := Classical.propDecidable _
      have m82 : B_X11_merge_33 a k true τ = if alkS τ a k ∧ τ 16 q1 = 0 ∧ τ 16 q2 = 0 ∧ altS τ q1 q2 ∧ ¬ τ 0 9 = 60 then B_X11_merge_220 a k 0 τ else some (0, up2 τ 0 0 2) := by
        unfold B_X11_merge_33 B_X11_merge_81
        rw [if_pos rfl, rdn_ok (by omega) (by omega), Option.bind_some, wrap_id (z := (a : Int) + 1) (by omega) (by omega), show ((a : Int)).toNat = a by omega, hfalse, if_pos rfl, hthrow 2 (by omega)]
        by_cases e1 : τ 22 a = -1
        · rw [if_pos e1, rdn_ok (by omega) (by omega), Option.bind_some, show ((a : Int) + 1).toNat = a + 1 by omega]
          by_cases e2 : τ 22 (a + 1) = -1
          · rw [if_pos e2, rdn_ok (by omega) (by omega), Option.bind_some, rdn_ok (by omega) (by omega), Option.bind_some, show ((a : Int) + 1).toNat = a + 1 by omega, show ((a : Int)).toNat = a by omega]
            by_cases e3 : τ 21 a = τ 21 (a + 1)
            · rw [if_pos e3]
              unfold B_X11_merge_82
              rw [z1, Option.bind_some, if_pos rfl, hthrow 2 (by omega)]
              have hz : z = true ↔ (alkS τ a k ∧ τ 16 q1 = 0 ∧ τ 16 q2 = 0 ∧ altS τ q1 q2 ∧ ¬ τ 0 9 = 60) := by
                rw [z2]
                constructor
                · intro g
                  have gk := g k (by omega) c2.2
                  unfold mgP at gk
                  rw [if_pos rfl, hq1, hq2] at gk
                  refine ⟨⟨fun i i3 ik => ?_, e1, e2, e3⟩, gk⟩
                  by_cases ic : (i : Int) < τ 0 21
                  · have gi := g i (by omega) ic
                    unfold mgP at gi
                    rw [if_neg (by omega)] at gi
                    exact gi
                  · rw [((w5 a (by omega)).1 i i3).2 (by omega), ((w5 (a + 1) (by omega)).1 i i3).2 (by omega)]
                · rintro ⟨⟨g1, -⟩, g2⟩ j j0 j1
                  unfold mgP
                  by_cases e : j = k
                  · rw [if_pos e, hq1, hq2]; exact g2
                  · rw [if_neg e]; exact g1 j.toNat (by omega) (by omega)
              by_cases d : z = true
              · rw [if_pos d, if_pos (hz.mp d)]
              · rw [if_neg d, if_neg (fun g => d (hz.mpr g))]
            · rw [if_neg e3, if_neg (fun g => e3 g.1.2.2.2)]
          · rw [if_neg e2, if_neg (fun g => e2 g.1.2.2.1)]
        · rw [if_neg e1, if_neg (fun g => e1 g.1.2.1)]
      have m82p : (alkS τ a k ∧ τ 16 q1 = 0 ∧ τ 16 q2 = 0 ∧ altS τ q1 q2 ∧ ¬ τ 0 9 = 60) → B_X11_merge_33 a k true τ = B_X11_merge_220 a k 0 τ := fun c => by rw [m82, if_pos c]
      have m82n : ¬ (alkS τ a k ∧ τ 16 q1 = 0 ∧ τ 16 q2 = 0 ∧ altS τ q1 q2 ∧ ¬ τ 0 9 = 60) → B_X11_merge_33 a k true τ = some (0, up2 τ 0 0 2) := fun c => by rw [m82, if_neg c]
      have b111 : B_X10_merge_111 a k ((a : Int) + 1) q1 q2 false σ = some (.inr 2, σ) := by unfold B_X10_merge_111; rw [if_neg (by simp)]
      have no : ∀ f, f = some (.inr 2, σ) → Thr [(0, 1), (2, 2)] f (some (0, up2 τ 0 0 2)) σ τ := fun f hf => ⟨2, 2, hf, rfl, rfl, by decide, by decide⟩
      unfold B_X10_merge_40 B_X10_merge_110
      rw [if_pos rfl, bnd_eq, wrap_id (z := (a : Int) + 1) (by omega) (by omega), bnd_eq, get4 hM ⟨c1.1, by omega⟩ (by omega), bnd_eq, get4 hM ⟨by omega, by omega⟩ (by omega), show ((a : Int)).toNat = a by omega, show ((a : Int) + 1).toNat = a + 1 by omega, show ((k : Int)).toNat = k by omega, (h5 a (by omega)).1 k (by omega), (h5 (a + 1) (by omega)).1 k (by omega), hq1, hq2, y1, Option.bind_some, b111]
      by_cases d1 : alkS τ a k
      · rw [if_pos (y2.mpr d1)]
        by_cases d2 : τ 16 q1 = 0
        · rw [if_neg (fun q => by have := v1.mp q; omega)]
          by_cases d3 : τ 16 q2 = 0
          · rw [if_neg (fun q => by have := v2.mp q; omega)]
            unfold B_X10_merge_111
            rw [if_pos rfl]
            by_cases d4 : altS τ q1 q2
            · rw [if_pos (alt.mpr d4), bnd_eq, kindBoth5 h l1 l2]
              by_cases d5 : τ 0 9 = 60
              · rw [full_c h d5, m82n (fun g => g.2.2.2.2 d5)]
                exact Or.inl (no _ rfl)
              · rw [m82p ⟨d1, d2, d3, d4, d5⟩]
                obtain ⟨m, hm⟩ : ∃ m : Nat, τ 0 9 = m := ⟨(τ 0 9).toNat, by omega⟩
                obtain ⟨σ1, τ1, e1, e2, e3, f1, f2, f3, f4, f5⟩ := push_alt h hF hm (by omega) l1 l2 d4
                rw [e1]
                have hr0 : ∀ r, r ≠ 0 → ∀ i, (up2 τ 0 0 0) r i = τ r i := fun r hr i => up2_row hr
                have k1 : τ1 0 21 = τ 0 21 := f3 21 (by omega) (by omega)
                have k2 : τ1 0 23 = τ 0 23 := f3 23 (by omega) (by omega)
                have hM1 : RM σ1 τ1 := hM.mono hW (ExtK.same (fun r r1 r2 => f2 r (by simp; omega))) f4 (fun r r1 r2 => f1 r (by omega)) (fun r r1 r2 => f2 r (by simp; omega)) k1 k2
                -- the new pattern fits
                obtain ⟨x1, x2⟩ := alt_kind hW hm (by omega) l1 l2 e2
                have hx : fitsK τ1 (m : Int) (τ1 19 k) := by
                  refine ⟨by omega, by omega, ?_⟩
                  rw [show ((m : Int)).toNat = m by omega, x2, f2 19 (by decide)]
                  have g1 := p1.2.2
                  have g2 := p2.2.2
                  by_cases c : τ 12 (q1 : Int).toNat = -1
                  · rw [if_pos c]; exact g2
                  · rw [if_neg c]; exact g1
                have g22 : τ1 22 a = -1 := by rw [f2 22 (by decide)]; exact d1.2.1
                have hmg := RM.merge (a := a) (k := k) (x := m) hM1 (k2.trans hn) (by omega) (by omega) (by omega) (by omega) g22 hx
                have n24 : (F_X10_forgetEngines σ1) 24 1 = n := by rw [forget_eq, up2_row (by omega), up2_row (by omega), up2_row (by omega), f1 24 (by omega)]; omega
                have d24 : drC (F_X10_forgetEngines σ1) (a + 1) n 24 1 = (n : Int) - 1 := by rw [drC_row (by omega), if_pos ⟨rfl, rfl⟩]
                refine Or.inr ⟨(n : Int) - 1, cMg σ1 a n k m, mMg τ1 a n k m, ⟨?_, ?_, ?_⟩, ?_, ?_, ?_, ?_, ?_, hmg, ?_⟩
                · show (bnd (F_X10_forgetEngines σ1) fun q14 => (F_X4_dropCase ((a : Int) + 1) q14).bind fun q16 => bnd (F_X4_set a k m q16) fun q18 => bnd (F_X4_set a 7 0 q18) fun q20 => some (Sum.inl (F_X4_count q20), q20)) = _
                  have s1 : F_X4_set a k m (drC (F_X10_forgetEngines σ1) (a + 1) n) = up2 (drC (F_X10_forgetEngines σ1) (a + 1) n) 26 (8 * a + k) m := by
                    rw [set4 ⟨by omega, by omega⟩ (by omega) (by omega), show ((a : Int) * 8 + k).toNat = 8 * a + k by omega]
                  have s2 : F_X4_set a 7 0 (up2 (drC (F_X10_forgetEngines σ1) (a + 1) n) 26 (8 * a + k) m) = cMg σ1 a n k m := by
                    rw [set4 ⟨by omega, by rw [up2_row (by omega), d24]; omega⟩ (by omega) (by omega), show ((a : Int) * 8 + 7).toNat = 8 * a + 7 by omega]; rfl
                  rw [bnd_eq, show ((a : Int) + 1) = ((a + 1 : Nat) : Int) by omega, dropC n24 (by omega) (by omega), Option.bind_some, bnd_eq, s1, bnd_eq, s2]
                  unfold F_X4_count
                  rw [cMg_24, if_pos rfl]
                · unfold B_X11_merge_220
                  have e20 : ∀ i, (up2 τ 0 0 0) 20 i = τ 20 i := fun i => up2_row (by omega)
                  have c20 : τ 20 (3 * a + k) = q1 := hq1
                  have c21 : τ 20 (3 * a + 3 + k) = q2 := hq2
                  rw [bnd_eq, refused_0, if_neg (by simp)]
                  dsimp only
                  rw [wrap_id (z := 3 * (a : Int)) (by omega) (by omega), wrap_id (z := 3 * (a : Int) + k) (by omega) (by omega), rdn_ok (by omega) (by omega), Option.bind_some, wrap_id (z := 3 * (a : Int) + 3) (by omega) (by omega), wrap_id (z := 3 * (a : Int) + 3 + k) (by omega) (by omega), rdn_ok (by omega) (by omega), Option.bind_some, e20, e20, show (3 * (a : Int) + k).toNat = 3 * a + k by omega, show (3 * (a : Int) + 3 + k).toNat = 3 * a + 3 + k by omega, c20, c21, e2, Option.bind_some]
                  rw [wrn_ok (by omega) (by omega), Option.bind_some, wrn_ok (by omega) (by omega), Option.bind_some, bnd_eq, wrap_id (by omega) (by omega), show (3 * (a : Int) + k).toNat = 3 * a + k by omega, show ((a : Int)).toNat = a by omega]
                  have hs : (up2 (up2 τ1 20 (3 * a + k) m) 25 a 0) 0 23 = n := by rw [up2_row (by omega), up2_row (by omega)]; omega
                  have hd : smD (up2 (up2 τ1 20 (3 * a + k) m) 25 a 0) (a + 1) (n - 1) 0 23 = n := by
                    unfold smD; rw [if_neg (by omega), if_neg (by omega)]; exact hs
                  rw [show ((a : Int) + 1) = ((a + 1 : Nat) : Int) by omega, downM hs (by omega) (by omega), Option.bind_some, bnd_eq, hd, wrap_id (by omega) (by omega), bnd_eq]
                  show some (mMg τ1 a n k m 0 23, mMg τ1 a n k m) = _
                  rw [mMg_0, if_neg (by omega), if_pos rfl]
                · rw [mMg_0, if_neg (by omega), if_neg (by omega)]; exact e3
                · intro r r1 r2; funext i; rw [cMg_row r2, f1 r r1]
                · intro r hr
                  have hr' := hr
                  simp only [List.mem_cons, List.not_mem_nil, or_false, not_or] at hr'
                  rw [mMg_row (by simp only [List.mem_cons, List.not_mem_nil, or_false, not_or]; omega), f2 r (by simp only [List.mem_cons, List.not_mem_nil, or_false, not_or]; omega)]
                · intro i hi
                  simp only [List.mem_cons, List.not_mem_nil, or_false, not_or] at hi
                  rw [mMg_0, if_neg (by omega), if_neg (by omega), f3 i (by omega) (by omega)]
                · have hX : ExtP τ1 (mMg τ1 a n k m) := ExtP.same (by rw [mMg_0, if_neg (by omega), if_neg (by omega)]) (fun r r1 r2 => mMg_row (by simp only [List.mem_cons, List.not_mem_nil, or_false, not_or]; omega))
                  exact f4.trans hX
                · refine RP.fr f5 (by rw [f2 1 (by decide), f2 2 (by decide), f2 3 (by decide)]; exact hF) (fun r r1 r2 => ?_) (fun r r1 r2 => mMg_row (by simp only [List.mem_cons, List.not_mem_nil, or_false, not_or]; omega)) (by rw [mMg_0, if_neg (by omega), if_neg (by omega)])
                  funext i; exact cMg_row (by simp only [List.mem_cons, List.not_mem_nil, or_false, not_or]; omega)
                · obtain ⟨z1, z2, z3, z4, z5⟩ := cMg_eng (σ := σ1) (a := a) (n := n) (k := k) (x := m)
                  exact ⟨z1, z2, z3, by rw [mMg_0, if_pos rfl], by rw [z4, f1 43 (by omega)], by rw [z5, f1 49 (by omega)]⟩
            · rw [if_neg (fun q => d4 (alt.mp q)), m82n (fun g => d4 g.2.2.2.1)]
              exact Or.inl (no _ rfl)
          · rw [if_pos (v2.mpr (by omega)), m82n (fun g => d3 g.2.2.1)]
            exact Or.inl (no _ rfl)
        · rw [if_pos (v1.mpr (by omega)), m82n (fun g => d2 g.2.1)]
          exact Or.inl (no _ rfl)
      · rw [if_neg (fun q => d1 (y2.mp q)), m82n (fun g => d1 g.1)]
        exact Or.inl (no _ rfl)
    · rw [if_neg (fun q => c2 ((hasCol4 hM).mp q)), if_neg (fun q => c2 ((inCol h4).mp q))]
      exact Or.inl bad
  · have hin : ¬ F_X11_in a1 0 (τ 0 23 - 2) = true := fun q => c1 (by have := in_iff.mp q; omega)
    rw [if_neg (c := F_X11_in a1 0 (τ 0 23 - 2) = true) hin]
    by_cases g : 0 ≤ a1 ∧ a1 < τ 0 23
    · rw [if_pos ((has4 hM).mpr g), if_pos (by omega)]
      exact Or.inl bad
    · rw [if_neg (fun q => g ((has4 hM).mp q))]
      exact Or.inl bad
