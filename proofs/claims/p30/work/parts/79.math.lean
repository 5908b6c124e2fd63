/-! split, the call -/
theorem hasCol4 {σ τ : Sg} {a : Int} (h : RM σ τ) : F_X4_hasColumn a σ = true ↔ 0 ≤ a ∧ a < τ 0 21 := by
  obtain ⟨h1, h2, h3, ⟨w1, w2, w3, w4, w5⟩, h5⟩ := h
  unfold F_X4_hasColumn
  rw [h1, wrap_id (by omega) (by omega), isIn_iff]
  omega
theorem inCol {τ : Sg} {a : Int} (h : WFM τ) : F_X11_in a 0 (wrap (τ 0 21 - 1)) = true ↔ 0 ≤ a ∧ a < τ 0 21 := by
  obtain ⟨w1, w2, w3, w4, w5⟩ := h
  rw [wrap_id (by omega) (by omega), in_iff]
  omega
theorem hasView5 {σ τ : Sg} {p : Nat} (h : RP σ τ) (hp : (p : Int) < τ 0 9) : F_X5_hasView p σ = true ↔ τ 16 p = 1 := by
  obtain ⟨r1, ⟨w1, w2, w3⟩, r3, r4⟩ := h
  have := (r3 p hp).2.2.2.2.2.2.2.2.2.1
  unfold F_X5_hasView
  rw [rdD_ok (by omega) (by omega), show ((p : Int)).toNat = p by omega, this]
  split
  · rename_i q; simp [q]
  · rename_i q; simp [q]
set_option maxHeartbeats 4000000 in
theorem op_split {σ τ : Sg} (a1 a2 : Int) (hF : WFK (τ 1) (τ 2) (τ 3)) (h : RP σ τ) (hM : RM σ τ) : Thr [(0, 1), (2, 2)] (F_X10_split a1 a2 σ) (F_X11_split a1 a2 τ) σ τ ∨ ∃ v σ' τ', Okk (F_X10_split a1 a2 σ) (F_X11_split a1 a2 τ) v σ' τ' ∧ (∀ k, k ∉ [24, 26, 33, 43, 49] → σ' k = σ k) ∧ (∀ k, k ∉ [0, 20, 21, 22, 23, 24, 25] → τ' k = τ k) ∧ (∀ i, i ∉ [0, 23, 54] → τ' 0 i = τ 0 i) ∧ RM σ' τ' ∧ NoEng σ σ' τ' := by
  have hW := h.2.1
  obtain ⟨h1, h2, h3, h4, h5⟩ := id hM
  obtain ⟨w1, w2, w3, w4, w5⟩ := id h4
  have hthrow : ∀ (x : Int) (t : Int), ¬ t = 0 → B_X11_split_118 a1 a2 x t τ = some (0, up2 τ 0 0 t) := fun x t ht => by
    unfold B_X11_split_118; rw [bnd_eq, refused_n ht]; rfl
  unfold F_X10_split F_X11_split B_X10_split_26 B_X11_split_26
  have bad : Thr [(0, 1), (2, 2)] (B_X10_split_27 a1 a2 false σ) (B_X11_split_27 a1 a2 false τ) σ τ := by
    refine ⟨0, 1, ?_, ?_, rfl, by decide, by decide⟩
    · unfold B_X10_split_27; rw [if_neg (by simp)]
    · unfold B_X11_split_27 B_X11_split_46 B_X11_split_96 B_X11_split_97
      rw [if_neg (by simp), if_neg (by simp), if_neg (by simp), hthrow 0 1 (by omega)]
  by_cases c1 : 0 ≤ a1 ∧ a1 < τ 0 23
  · rw [if_pos ((has4 hM).mpr c1), if_pos ((isCase_iff h4).mpr c1)]
    by_cases c2 : 0 ≤ a2 ∧ a2 < τ 0 21
    · rw [if_pos ((hasCol4 hM).mpr c2), if_pos ((inCol h4).mpr c2)]
      obtain ⟨a, ha⟩ : ∃ a : Nat, a1 = a := ⟨a1.toNat, by omega⟩
      obtain ⟨k, hk⟩ : ∃ k : Nat, a2 = k := ⟨a2.toNat, by omega⟩
      subst ha; subst hk
      have hpf := ((w5 a c1.2).1 k (by omega)).1 c2.2
      obtain ⟨p, hp⟩ : ∃ p : Nat, cpt τ a k = p := ⟨(cpt τ a k).toNat, by have := hpf.1; omega⟩
      have hpn : (p : Int) < τ 0 9 := by have := hpf.2.1; omega
      obtain ⟨n, hn⟩ : ∃ n : Nat, τ 0 23 = n := ⟨(τ 0 23).toNat, by omega⟩
      have hw9 := hW.2.1
      have r16 := (hW.2.2 p hpn).2.2.2.2.2.2.2.2.1
      unfold B_X10_split_27 B_X11_split_27
      rw [if_pos rfl, if_pos rfl, bnd_eq, get4 hM c1 (by omega), get4 hM c1 (by omega), show ((a : Int)).toNat = a by omega, show ((k : Int)).toNat = k by omega, (h5 a c1.2).1 k (by omega), show ((4 : Int)).toNat = 4 from rfl, (h5 a c1.2).2.2.1, hp]
      rw [wrap_id (z := 3 * (a : Int)) (by omega) (by omega), wrap_id (by omega) (by omega), rdn_ok (by omega) (by omega), Option.bind_some, show (3 * (a : Int) + k).toNat = 3 * a + k by omega]
      have hp' : τ 20 (3 * a + k) = p := hp
      rw [hp']
      unfold B_X11_split_46
      rw [if_pos rfl, rdn_ok (by omega) (by omega), Option.bind_some, show ((a : Int)).toNat = a by omega, rdn_ok (by omega) (by omega), Option.bind_some, show ((p : Int)).toNat = p by omega, rdn_ok (by omega) (by omega), Option.bind_some, show ((p : Int)).toNat = p by omega]
      have b109 : B_X10_split_109 a k p false σ = some (.inr 2, σ) := by unfold B_X10_split_109; rw [if_neg (by simp)]
      have b89 : B_X10_split_89 a k p false σ = some (.inr 2, σ) := by unfold B_X10_split_89; rw [if_neg (by simp)]
      have b58 : B_X10_split_58 a k p false σ = some (.inr 2, σ) := by unfold B_X10_split_58; rw [if_neg (by simp)]
      have m96 : B_X11_split_96 a k true p τ = some (0, up2 τ 0 0 2) := by
        unfold B_X11_split_96 B_X11_split_97
        rw [if_pos rfl, if_neg (by simp), hthrow p 2 (by omega)]
      have bad2 : ∀ f, f = some (.inr 2, σ) → Thr [(0, 1), (2, 2)] f (B_X11_split_96 a k true p τ) σ τ := fun f hf => ⟨2, 2, hf, m96, rfl, by decide, by decide⟩
      by_cases g1 : τ 22 a = -1
      · rw [if_pos g1, if_pos g1]
        unfold B_X10_split_58 B_X10_split_88
        rw [if_pos rfl, sortOf5 h hpn]
        by_cases g2 : τ 8 p = 4
        · rw [if_pos (show sortOf τ p = 4 by unfold sortOf; rw [if_neg (by omega)]; exact g2), if_pos g2]
          by_cases g3 : τ 16 p = 0
          · rw [if_neg (fun q => by have := (hasView5 h hpn).mp q; omega), if_pos g3]
            unfold B_X10_split_89 F_X4_count
            rw [if_pos rfl, h2, hn]
            by_cases g4 : 8 ≤ (n : Int)
            · rw [if_pos g4, if_pos g4, b109]
              exact Or.inl (bad2 _ rfl)
            · rw [if_neg g4, if_neg g4]
              have hsp := RM.split (k := k) hW hM hn (by omega) (by omega) (by omega) c2.2 g1 hp g2
              have q3 : (F_X10_forgetEngines σ) 24 1 = n := by rw [forget_eq, up2_row (by omega), up2_row (by omega), up2_row (by omega)]; omega
              have hRP : RP (dbC (F_X10_forgetEngines σ) a n) τ := RP.fr h hF (fun r r1 r2 => by
                funext i; rw [dbC_row (by omega), if_neg (by omega), forget_eq, up2_row (by omega), up2_row (by omega), up2_row (by omega)]) (fun r _ _ => rfl) rfl
              have hRP2 : RP (up2 (dbC (F_X10_forgetEngines σ) a n) 26 (8 * a + k) (prt τ p 0)) τ := RP.fr hRP hF (fun r r1 r2 => by
                funext i; rw [up2_row (by omega)]) (fun r _ _ => rfl) rfl
              have d24 : dbC (F_X10_forgetEngines σ) a n 24 1 = (n : Int) + 1 := by rw [dbC_row (by omega), if_pos ⟨rfl, rfl⟩]
              refine Or.inr ⟨(n : Int) + 1, cS σ a n k (prt τ p 0) (prt τ p 1), mS τ a n k (prt τ p 0) (prt τ p 1), ⟨?_, ?_, ?_⟩, ?_, ?_, ?_, hsp, ?_⟩
              · unfold B_X10_split_109
                have e0 := partOf5 (k := 0) hRP hpn (by omega)
                have e1 := partOf5 (k := 1) hRP2 hpn (by omega)
                have e0' : F_X5_partOf p 0 (dbC (F_X10_forgetEngines σ) a n) = prt τ p 0 := e0
                have e1' : F_X5_partOf p 1 (up2 (dbC (F_X10_forgetEngines σ) a n) 26 (8 * a + k) (prt τ p 0)) = prt τ p 1 := e1
                have s1 : F_X4_set a k (prt τ p 0) (dbC (F_X10_forgetEngines σ) a n) = up2 (dbC (F_X10_forgetEngines σ) a n) 26 (8 * a + k) (prt τ p 0) := by
                  rw [set4 ⟨by omega, by omega⟩ (by omega) (by omega), show ((a : Int) * 8 + k).toNat = 8 * a + k by omega]
                have s2 : F_X4_set ((a : Int) + 1) k (prt τ p 1) (up2 (dbC (F_X10_forgetEngines σ) a n) 26 (8 * a + k) (prt τ p 0)) = up2 (up2 (dbC (F_X10_forgetEngines σ) a n) 26 (8 * a + k) (prt τ p 0)) 26 (8 * a + 8 + k) (prt τ p 1) := by
                  rw [set4 ⟨by omega, by rw [up2_row (by omega), d24]; omega⟩ (by omega) (by omega), show (((a : Int) + 1) * 8 + k).toNat = 8 * a + 8 + k by omega]
                rw [if_pos rfl, bnd_eq, doubleC q3 (by omega) (by omega), Option.bind_some, bnd_eq, e0', s1, bnd_eq, e1', wrap_id (by omega) (by omega), s2]
                show some (Sum.inl (F_X4_count (cS σ a n k (prt τ p 0) (prt τ p 1))), cS σ a n k (prt τ p 0) (prt τ p 1)) = _
                unfold F_X4_count
                rw [cS_24, if_pos rfl]
              · unfold B_X11_split_97 B_X11_split_118
                have s0 : (up2 τ 0 0 0) 0 23 = n := by rw [up2_idx (by omega)]; exact hn
                have r11 : ∀ i, mpA (opM (up2 τ 0 0 0) a n) (a + 1) a 11 i = τ 11 i := fun i => by
                  have := congrFun (mS_row (τ := τ) (a := a) (n := n) (k := k) (r := 11) (lo := 0) (hi := 0) (by decide)) i
                  unfold mS at this
                  rw [up2_row (by omega), up2_row (by omega), up2_row (by omega), up2_row (by omega)] at this
                  exact this
                rw [if_pos rfl, if_pos rfl, bnd_eq, refused_0, if_neg (by simp), openM s0 (by omega) (by omega), Option.bind_some, wrap_id (z := (a : Int) + 1) (by omega) (by omega), show ((a : Int) + 1) = ((a + 1 : Nat) : Int) by omega, copyM ⟨by omega, by omega⟩ (by omega), Option.bind_some]
                rw [wrn_ok (by omega) (by omega), Option.bind_some, wrn_ok (by omega) (by omega), Option.bind_some, wrap_id (z := 3 * (p : Int)) (by omega) (by omega), rdn_ok (by omega) (by omega), Option.bind_some, wrap_id (z := 3 * (a : Int)) (by omega) (by omega), wrap_id (by omega) (by omega), wrn_ok (by omega) (by omega), Option.bind_some, wrap_id (by omega) (by omega), rdn_ok (by omega) (by omega), Option.bind_some, wrap_id (z := 3 * (a : Int) + 3) (by omega) (by omega), wrap_id (by omega) (by omega), wrn_ok (by omega) (by omega), Option.bind_some]
                rw [show ((a : Int)).toNat = a by omega, show (((a + 1 : Nat) : Int)).toNat = a + 1 by omega, show (3 * (a : Int) + k).toNat = 3 * a + k by omega, show (3 * (a : Int) + 3 + k).toNat = 3 * a + 3 + k by omega, show (3 * (p : Int)).toNat = 3 * p by omega, show (3 * (p : Int) + 1).toNat = 3 * p + 1 by omega]
                have v0 : up2 (up2 (mpA (opM (up2 τ 0 0 0) a n) (a + 1) a) 25 a 0) 25 (a + 1) 0 11 (3 * p) = prt τ p 0 := by
                  rw [up2_row (by omega), up2_row (by omega), r11]; rfl
                have v1 : ∀ x, up2 (up2 (up2 (mpA (opM (up2 τ 0 0 0) a n) (a + 1) a) 25 a 0) 25 (a + 1) 0) 20 (3 * a + k) x 11 (3 * p + 1) = prt τ p 1 := fun x => by
                  rw [up2_row (by omega), up2_row (by omega), up2_row (by omega), r11]; rfl
                rw [v0, v1]
                show some (mS τ a n k (prt τ p 0) (prt τ p 1) 0 23, mS τ a n k (prt τ p 0) (prt τ p 1)) = _
                rw [mS_0, if_neg (by omega), if_pos rfl]
              · rw [mS_0, if_neg (by omega), if_neg (by omega), if_pos rfl]
              · intro r hr; funext i; exact cS_row hr
              · intro r hr; exact mS_row hr
              · intro i hi
                simp only [List.mem_cons, List.not_mem_nil, or_false, not_or] at hi
                rw [mS_0, if_neg (by omega), if_neg (by omega), if_neg (by omega)]
              · obtain ⟨x1, x2, x3, x4, x5⟩ := cS_eng (σ := σ) (a := a) (n := n) (k := k) (lo := prt τ p 0) (hi := prt τ p 1)
                exact ⟨x1, x2, x3, by rw [mS_0, if_pos rfl], x4, x5⟩
          · rw [if_pos ((hasView5 h hpn).mpr (by omega)), if_neg g3, b89]
            exact Or.inl (bad2 _ rfl)
        · rw [if_neg (show ¬ sortOf τ p = 4 by unfold sortOf; split <;> omega), if_neg g2, b89]
          exact Or.inl (bad2 _ rfl)
      · rw [if_neg g1, if_neg g1, b58]
        exact Or.inl (bad2 _ rfl)
    · rw [if_neg (fun q => c2 ((hasCol4 hM).mp q)), if_neg (fun q => c2 ((inCol h4).mp q))]
      exact Or.inl bad
  · rw [if_neg (fun q => c1 ((has4 hM).mp q)), if_neg (fun q => c1 ((isCase_iff h4).mp q))]
    exact Or.inl bad
