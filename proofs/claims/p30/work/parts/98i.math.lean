/-! codes written: all patterns -/
def pszs (τ : Sg) (p : Nat) : Nat → Nat → Int
  | 0, _ => 0
  | d + 1, k => szo τ (prt τ p k) + pszs τ p d (k + 1)
theorem pszs_all {τ : Sg} {p m : Nat} (hW : WFP τ) (hF : WFK (τ 1) (τ 2) (τ 3)) (hp : (p : Int) < τ 0 9) (hm : pcOf τ p = m) : pszs τ p m 0 + 1 = τ 14 p := by
  obtain ⟨h0, h3, h⟩ := pc_spec hW hF hp
  have a0 := h 0 (by omega)
  have a1 := h 1 (by omega)
  have a2 := h 2 (by omega)
  have hs := (hW.sz hp).1
  have z : ∀ k, prt τ p k = -1 → szo τ (prt τ p k) = 0 := fun k hk => by unfold szo; rw [if_pos (by omega)]
  have : m = 0 ∨ m = 1 ∨ m = 2 ∨ m = 3 := by omega
  rcases this with rfl | rfl | rfl | rfl
  · have := z 0 (a0.mpr (by omega)); have := z 1 (a1.mpr (by omega)); have := z 2 (a2.mpr (by omega))
    show (0 : Int) + 1 = _; omega
  · have := z 1 (a1.mpr (by omega)); have := z 2 (a2.mpr (by omega))
    show szo τ (prt τ p 0) + 0 + 1 = _; omega
  · have := z 2 (a2.mpr (by omega))
    show szo τ (prt τ p 0) + (szo τ (prt τ p 1) + 0) + 1 = _; omega
  · show szo τ (prt τ p 0) + (szo τ (prt τ p 1) + (szo τ (prt τ p 2) + 0)) + 1 = _; omega
def WrP (τ : Sg) (n : Nat) : Prop := ∀ (p dp : Nat) (ch lev : Int) (σ : Sg) (a : Nat) (Lc : List Nat), (p : Int) < τ 0 9 → τ 14 p ≤ n → 0 ≤ lev → lev + τ 14 p ≤ 41 → (dp : Int) + τ 13 p ≤ 4 → RP σ τ → σ 33 4 = a → (a : Int) + 2 * τ 14 p ≤ 1970 → chn σ ch Lc → (∀ x ∈ Lc, x < a) → ∃ (c' : Int) (σ' : Sg) (b : Nat) (L : List Nat), F_X0_writePattern n p dp ch lev σ = some (c', σ') ∧ sgP τ σ' n p dp a b L ∧ chn σ' c' (L ++ Lc) ∧ WF a b σ σ' ∧ σ' 33 4 = b ∧ (b : Int) + 1 ≤ a + 2 * τ 14 p
theorem pszs_nn {τ : Sg} {p : Nat} (hW : WFP τ) (hp : (p : Int) < τ 0 9) : ∀ d k : Nat, k + d ≤ 3 → 0 ≤ pszs τ p d k
  | 0, k, _ => Int.le_refl _
  | d + 1, k, h => by
    have ih := pszs_nn hW hp d (k + 1) (by omega)
    have hb := hW.pb hp (k := k) (by omega)
    show 0 ≤ szo τ (prt τ p k) + pszs τ p d (k + 1)
    have : 0 ≤ szo τ (prt τ p k) := by
      unfold szo
      split
      · omega
      · have := hW.ge (p := (prt τ p k).toNat) (by omega); omega
    omega
set_option maxHeartbeats 4000000 in
theorem wL_c {τ : Sg} (hF : WFK (τ 1) (τ 2) (τ 3)) {n : Nat} (ih : WrP τ n) {p dp : Nat} {lev : Int} {M : Nat} (hp : (p : Int) < τ 0 9) (hM : pcOf τ p = M) (hn : τ 14 p ≤ n + 1) (hl : 0 ≤ lev) (hl2 : lev + τ 14 p ≤ 41) (hdp : (dp : Int) + τ 13 p ≤ 4) (c0 : ¬ τ 8 p = 0) (c1 : ¬ τ 8 p = 1) (c4 : ¬ τ 8 p = 4) (c5 : ¬ τ 8 p = 5) : ∀ (d k N : Nat) (ch : Int) (σ : Sg) (a : Nat) (Lc : List Nat), k + d = M → d < N → RP σ τ → σ 33 4 = a → (a : Int) + 2 * pszs τ p d k ≤ 1969 → chn σ ch Lc → (∀ x ∈ Lc, x < a) → ∃ (c' : Int) (σ' : Sg) (b : Nat) (L : List Nat), iter (fun z : (Int × Int × Sg) => L_X0_writeParts_16 (F_X0_writePattern n) p dp lev M z.1 z.2.1 z.2.2) N (ch, (k : Int), σ) = some (c', σ') ∧ sgL (fun k => sgP τ σ' n (prt τ p k).toNat (dp + 1)) σ' (cPart τ p dp) d k a b L ∧ chn σ' c' (L ++ Lc) ∧ WF a b σ σ' ∧ σ' 33 4 = b ∧ (b : Int) ≤ a + 2 * pszs τ p d k ∧ a ≤ b
  | 0, k, N, ch, σ, a, Lc, hk, hN, hR, hcnt, hcap, hch, hLc => by
    obtain ⟨N, rfl⟩ : ∃ z, N = z + 1 := ⟨N - 1, by omega⟩
    refine ⟨ch, σ, a, [], iter_r (f := fun z : (Int × Int × Sg) => L_X0_writeParts_16 (F_X0_writePattern n) p dp lev M z.1 z.2.1 z.2.2) (a := (ch, (k : Int), σ)) (by
      show L_X0_writeParts_16 (F_X0_writePattern n) p dp lev M ch k σ = _
      unfold L_X0_writeParts_16
      rw [if_pos (by omega)]), ⟨rfl, rfl⟩, hch, WF.rfl', hcnt, by show (a : Int) ≤ a + 2 * 0; omega, Nat.le_refl _⟩
  | d + 1, k, N, ch, σ, a, Lc, hk, hN, hR, hcnt, hcap, hch, hLc => by
    obtain ⟨N, rfl⟩ : ∃ z, N = z + 1 := ⟨N - 1, by omega⟩
    have hW := hR.2.1
    obtain ⟨h0, h3, hpc⟩ := pc_spec hW hF hp
    have k3 : k < 3 := by omega
    have kn : ¬ prt τ p k = -1 := fun q => by have := (hpc k k3).mp q; omega
    have hb := hW.pb hp k3
    obtain ⟨-, -, hsz⟩ := sz_part hW hp k3 kn
    have hd := dp_part hW hp k3 kn
    rw [if_neg (show ¬ (τ 8 p = 1 ∨ τ 8 p = 4 ∨ τ 8 p = 5) by omega)] at hd
    have hdd : (dp : Int) + 1 + τ 13 (prt τ p k).toNat ≤ 4 := by omega
    have hge := hW.ge (p := (prt τ p k).toNat) (by omega)
    have hszo : szo τ (prt τ p k) = τ 14 (prt τ p k).toNat := by unfold szo; rw [if_neg (by omega)]
    have hnn := pszs_nn hW hp d (k + 1) (by omega)
    have hcap' : (a : Int) + 2 * (τ 14 (prt τ p k).toNat + pszs τ p d (k + 1)) ≤ 1969 := by
      have : pszs τ p (d + 1) k = szo τ (prt τ p k) + pszs τ p d (k + 1) := rfl
      omega
    have hd13 : 0 ≤ τ 13 (prt τ p k).toNat := (dpo_b hW _ (by omega)).1
    -- the way to the part
    have hstep0 : L_X0_writeParts_16 (F_X0_writePattern n) p dp lev M ch k σ = B_X0_writeParts_64 (F_X0_writePattern n) p dp lev ch k (wrC σ a (cPart τ p dp k : Nat) (-1)) := by
      unfold L_X0_writeParts_16
      rw [if_neg (by omega), sortOf5 hR hp]
      by_cases c7 : sortOf τ p = 7
      · have hw : F_X0_write 3 dp (wrap ((M : Int) - k)) 0 (-1) σ = ((a : Int), wrC σ a (cPart τ p dp k : Nat) (-1)) := by
          have := write_c (op := 3) (d := dp) (a := M - k) (b := 0) (e := -1) hcnt (by omega) (by omega) (by omega) (by omega) (by omega)
          rw [wrap_id (by omega) (by omega), show (M : Int) - k = ((M - k : Nat) : Int) by omega]
          unfold cPart
          rw [if_pos c7, hM]
          exact this
        rw [if_pos c7, hw, bnd_eq]
      · have hw : F_X0_write 2 dp k 0 (-1) σ = ((a : Int), wrC σ a (cPart τ p dp k : Nat) (-1)) := by
          have := write_c (op := 2) (d := dp) (a := k) (b := 0) (e := -1) hcnt (by omega) (by omega) (by omega) (by omega) (by omega)
          unfold cPart
          rw [if_neg c7]
          exact this
        rw [if_neg c7, hw, bnd_eq]
    have w1 : WF a (a + 1) σ (wrC σ a (cPart τ p dp k : Nat) (-1)) := WF.one
    have f34 : ∀ i, wrC σ a (cPart τ p dp k : Nat) (-1) 34 i = if i = a then ((cPart τ p dp k : Nat) : Int) else σ 34 i := fun i => wrC_34
    have n1 : wrC σ a (cPart τ p dp k : Nat) (-1) 33 4 = ((a + 1 : Nat) : Int) := by rw [wrC_4]; omega
    have hR1 := w1.rp hR hF
    have k1 : chn (wrC σ a (cPart τ p dp k : Nat) (-1)) ch Lc := chn_congr (fun x hx => (w1.2.2 x (by have := hLc x hx; omega)).2) hch
    have hpo : F_X5_partOf p k (wrC σ a (cPart τ p dp k : Nat) (-1)) = prt τ p k := partOf5 hR1 hp k3
    unfold B_X0_writeParts_64 at hstep0
    rw [hpo, wrap_id (z := (dp : Int) + 1) (by omega) (by omega), wrap_id (z := lev + 1) (by omega) (by omega), wrap_id (z := (k : Int) + 1) (by omega) (by omega)] at hstep0
    clear hpo
    generalize wrC σ a (cPart τ p dp k : Nat) (-1) = σ1 at *
    obtain ⟨c1', σ2, m, L1, e2, s2, k2, w2, n2, l2⟩ := ih (prt τ p k).toNat (dp + 1) ch (lev + 1) σ1 (a + 1) Lc (by omega) (by omega) (by omega) (by omega) (by omega) hR1 n1 (by omega) k1 (fun x hx => by have := hLc x hx; omega)
    have i2 := sgP_ok s2
    have e2' : F_X0_writePattern n (prt τ p k) ((dp : Int) + 1) ch (lev + 1) σ1 = some (c1', σ2) := by
      rw [show (((prt τ p k).toNat : Nat) : Int) = prt τ p k by omega] at e2
      exact e2
    rw [e2', Option.bind_some] at hstep0
    clear e2 e2'
    have hR2 := w2.rp hR1 hF
    obtain ⟨c3, σ3, b, L2, e3, s3, k3', w3, n3, l3, l3'⟩ := wL_c hF ih hp hM hn hl hl2 hdp c0 c1 c4 c5 d (k + 1) N c1' σ2 m (L1 ++ Lc) (by omega) (by omega) hR2 n2 (by omega) k2 (fun x hx => by
      rcases List.mem_append.mp hx with z | z
      · have := i2.2.1 x z; omega
      · have := hLc x z; have := i2.1; omega)
    refine ⟨c3, σ3, b, L2 ++ L1, ?_, ?_, ?_, ?_, n3, ?_, by have := i2.1; omega⟩
    · rw [iter_l (f := fun z : (Int × Int × Sg) => L_X0_writeParts_16 (F_X0_writePattern n) p dp lev M z.1 z.2.1 z.2.2) (a := (ch, (k : Int), σ)) hstep0, show (k : Int) + 1 = ((k + 1 : Nat) : Int) by omega]
      exact e3
    · refine ⟨?_, m, L1, L2, sgP_congr s2 (fun i i1 i2' => (w3.2.2 i (by omega)).1) (fun i i1 i2' _ => (w3.2.2 i (by omega)).2), s3, rfl⟩
      have := i2.1
      rw [(w3.2.2 a (by omega)).1, (w2.2.2 a (by omega)).1, f34, if_pos rfl]
    · rw [List.append_assoc]; exact k3'
    · exact (WF.join (a := a) (b := b) w1 w2 ⟨by omega, by have := i2.1; omega⟩ ⟨by omega, by omega⟩).join w3 ⟨by omega, by omega⟩ ⟨by have := i2.1; omega, by omega⟩
    · have : pszs τ p (d + 1) k = szo τ (prt τ p k) + pszs τ p d (k + 1) := rfl
      omega
set_option maxHeartbeats 4000000 in
theorem wP_c {τ : Sg} (hF : WFK (τ 1) (τ 2) (τ 3)) : ∀ n, WrP τ n
  | 0 => fun p dp ch lev σ a Lc hp h1 _ _ _ hR _ _ _ _ => by have := hR.2.1.ge hp; omega
  | n + 1 => fun p dp ch lev σ a Lc hp h1 hl hl2 hdp hR hcnt hcap hch hLc => by
    have ih := wP_c hF n
    have hW := hR.2.1
    have hge := hW.ge hp
    have hform := hW.form hp
    have hd13 : 0 ≤ τ 13 p := (dpo_b hW _ hp).1
    show ∃ (c' : Int) (σ' : Sg) (b : Nat) (L : List Nat), G_X0_writePattern (F_X0_writePattern n) p dp ch lev σ = some (c', σ') ∧ _
    by_cases c0 : τ 8 p = 0
    · unfold G_X0_writePattern
      rw [if_pos (show lev ≤ 40 by omega), bnd_eq, sortOf5 hR hp, if_pos (show sortOf τ p = 0 by unfold sortOf; rw [if_neg (by omega)]; exact c0)]
      exact ⟨ch, σ, a, [], rfl, by unfold sgP; rw [if_pos c0]; exact ⟨rfl, rfl⟩, hch, WF.rfl', hcnt, by omega⟩
    by_cases c1 : τ 8 p = 1
    · obtain ⟨g1, g2, -⟩ := hW.g1 hp c1
      have hb := hW.pb hp (k := 0) (by omega)
      obtain ⟨-, -, hsz⟩ := sz_part hW hp (k := 0) (by omega) (by omega)
      have hd := dp_part hW hp (k := 0) (by omega) (by omega)
      rw [if_pos (Or.inl c1)] at hd
      have hlow : lowOf τ p = τ 9 p := by unfold lowOf; rw [if_neg (by omega)]
      have hw : F_X0_write 4 dp (τ 9 p) 0 (-1) σ = ((a : Int), wrC σ a (pk 4 dp (τ 9 p).toNat 0 : Nat) (-1)) := by
        have := write_c (op := 4) (d := dp) (a := (τ 9 p).toNat) (b := 0) (e := -1) hcnt (by omega) (by omega) (by omega) (by omega) (by omega)
        rw [show (((τ 9 p).toNat : Nat) : Int) = τ 9 p by omega] at this
        exact this
      have w1 : WF a (a + 1) σ (wrC σ a (pk 4 dp (τ 9 p).toNat 0 : Nat) (-1)) := WF.one
      have hR1 := w1.rp hR hF
      have hunf : G_X0_writePattern (F_X0_writePattern n) p dp ch lev σ = (F_X0_writePattern n (prt τ p 0) dp ch (lev + 1) (wrC σ a (pk 4 dp (τ 9 p).toNat 0 : Nat) (-1))).bind fun q6 => some (q6.1, q6.2) := by
        unfold G_X0_writePattern
        rw [if_pos (show lev ≤ 40 by omega), bnd_eq, sortOf5 hR hp, show sortOf τ p = 1 by unfold sortOf; rw [if_neg (by omega)]; exact c1, if_neg (by decide), if_pos rfl, lowOf5 hR hp, hlow, hw, bnd_eq]
        dsimp only
        rw [show F_X5_partOf p 0 (wrC σ a (pk 4 dp (τ 9 p).toNat 0 : Nat) (-1)) = prt τ p 0 from partOf5 (k := 0) hR1 hp (by decide), wrap_id (by omega) (by omega)]
      clear hw
      have f34 : ∀ i, wrC σ a (pk 4 dp (τ 9 p).toNat 0 : Nat) (-1) 34 i = if i = a then ((pk 4 dp (τ 9 p).toNat 0 : Nat) : Int) else σ 34 i := fun i => wrC_34
      have n1 : wrC σ a (pk 4 dp (τ 9 p).toNat 0 : Nat) (-1) 33 4 = ((a + 1 : Nat) : Int) := by rw [wrC_4]; omega
      have k1 : chn (wrC σ a (pk 4 dp (τ 9 p).toNat 0 : Nat) (-1)) ch Lc := chn_congr (fun x hx => (w1.2.2 x (by have := hLc x hx; omega)).2) hch
      generalize wrC σ a (pk 4 dp (τ 9 p).toNat 0 : Nat) (-1) = σ1 at *
      obtain ⟨c', σ2, b, L, e2, s2, k2, w2, n2, l2⟩ := ih (prt τ p 0).toNat dp ch (lev + 1) σ1 (a + 1) Lc (by omega) (by omega) (by omega) (by omega) (by omega) hR1 n1 (by omega) k1 (fun x hx => by have := hLc x hx; omega)
      rw [show (((prt τ p 0).toNat : Nat) : Int) = prt τ p 0 by omega] at e2
      have i2 := sgP_ok s2
      refine ⟨c', σ2, b, L, ?_, ?_, k2, WF.join w1 w2 ⟨by omega, by have := i2.1; omega⟩ ⟨by omega, by omega⟩, n2, by omega⟩
      · rw [hunf, e2, Option.bind_some]
      · unfold sgP
        rw [if_neg c0, if_pos c1]
        exact ⟨by rw [(w2.2.2 a (by omega)).1, f34, if_pos rfl], s2⟩
    by_cases c4 : τ 8 p = 4
    · obtain ⟨g0, g1, -⟩ := hW.g4 hp c4
      have b0 := hW.pb hp (k := 0) (by omega)
      have b1 := hW.pb hp (k := 1) (by omega)
      have hs := (hW.sz hp).1
      have z0 : szo τ (prt τ p 0) = τ 14 (prt τ p 0).toNat := by unfold szo; rw [if_neg (by omega)]
      have z1 : szo τ (prt τ p 1) = τ 14 (prt τ p 1).toNat := by unfold szo; rw [if_neg (by omega)]
      have z2 : 0 ≤ szo τ (prt τ p 2) := by
        unfold szo
        split
        · omega
        · have := hW.pb hp (k := 2) (by omega)
          have := hW.ge (p := (prt τ p 2).toNat) (by omega); omega
      rw [z0, z1] at hs
      have hge0 := hW.ge (p := (prt τ p 0).toNat) (by omega)
      have hge1 := hW.ge (p := (prt τ p 1).toNat) (by omega)
      have hd0 := dp_part hW hp (k := 0) (by omega) (by omega)
      have hd1 := dp_part hW hp (k := 1) (by omega) (by omega)
      rw [if_pos (Or.inr (Or.inl c4))] at hd0 hd1
      -- the first alternative
      obtain ⟨c1', σ1, m1, L0, e1, s1, k1, w1, n1, l1⟩ := ih (prt τ p 0).toNat dp (-1) (lev + 1) σ a [] (by omega) (by omega) (by omega) (by omega) (by omega) hR hcnt (by omega) rfl (fun x hx => by cases hx)
      have i1 := sgP_ok s1
      rw [List.append_nil] at k1
      have hwr : F_X0_write 8 0 0 0 (-1) σ1 = ((m1 : Int), wrC σ1 m1 (pk 8 0 0 0 : Nat) (-1)) := write_c (op := 8) (d := 0) (a := 0) (b := 0) n1 (by omega) (by omega) (by omega) (by omega) (by omega)
      have k2 : chn (wrC σ1 m1 (pk 8 0 0 0 : Nat) (-1)) c1' L0 := chn_congr (fun x hx => by rw [wrC_35, if_neg (by have := i1.2.1 x hx; omega)]) k1
      have hld : F_X0_land c1' (wrC σ1 m1 (pk 8 0 0 0 : Nat) (-1)) = some (ldC (wrC σ1 m1 (pk 8 0 0 0 : Nat) (-1)) L0) := land_c k2 i1.2.2 (fun x hx => by have := i1.2.1 x hx; omega)
      have wl := WF.ld (a := a) (b := m1) (σ := wrC σ1 m1 (pk 8 0 0 0 : Nat) (-1)) i1.2.1
      have n3 : ldC (wrC σ1 m1 (pk 8 0 0 0 : Nat) (-1)) L0 33 4 = ((m1 + 1 : Nat) : Int) := by rw [ldC_row (by omega), wrC_4]; omega
      have f34 : ∀ i, ldC (wrC σ1 m1 (pk 8 0 0 0 : Nat) (-1)) L0 34 i = if i = m1 then ((pk 8 0 0 0 : Nat) : Int) else σ1 34 i := fun i => by rw [ldC_row (by omega), wrC_34]
      have f35 : ∀ i, ldC (wrC σ1 m1 (pk 8 0 0 0 : Nat) (-1)) L0 35 i = if i ∈ L0 then (m1 : Int) + 1 else if i = m1 then -1 else σ1 35 i := fun i => by rw [ldC_35, wrC_4, wrC_35]
      have w2 : WF a (m1 + 1) σ (ldC (wrC σ1 m1 (pk 8 0 0 0 : Nat) (-1)) L0) := (WF.join (a := a) (b := m1 + 1) w1 WF.one ⟨by omega, by omega⟩ ⟨i1.1, by omega⟩).join wl ⟨by omega, by omega⟩ ⟨by omega, by omega⟩
      have hR2 := w2.rp hR hF
      have k3 : chn (ldC (wrC σ1 m1 (pk 8 0 0 0 : Nat) (-1)) L0) ch Lc := chn_congr (fun x hx => (w2.2.2 x (by have := hLc x hx; omega)).2) hch
      have hpo1 : F_X5_partOf p 1 (ldC (wrC σ1 m1 (pk 8 0 0 0 : Nat) (-1)) L0) = prt τ p 1 := partOf5 (k := 1) hR2 hp (by decide)
      have hunf : G_X0_writePattern (F_X0_writePattern n) p dp ch lev σ = (F_X0_writePattern n (prt τ p 1) dp ch (lev + 1) (ldC (wrC σ1 m1 (pk 8 0 0 0 : Nat) (-1)) L0)).bind fun q15 => (F_X0_land m1 q15.2).bind fun q17 => some (q15.1, q17) := by
        have e1' : F_X0_writePattern n (prt τ p 0) dp (-1) (lev + 1) σ = some (c1', σ1) := by
          rw [show (((prt τ p 0).toNat : Nat) : Int) = prt τ p 0 by omega] at e1; exact e1
        have hlv : wrap (lev + 1) = lev + 1 := wrap_id (by omega) (by omega)
        have hcm : wrap (ldC (wrC σ1 m1 (pk 8 0 0 0 : Nat) (-1)) L0 33 4 - 1) = (m1 : Int) := by rw [n3, wrap_id (by omega) (by omega)]; omega
        unfold G_X0_writePattern G_X0_writePatternAndGo
        rw [if_pos (show lev ≤ 40 by omega), bnd_eq, sortOf5 hR hp, show sortOf τ p = 4 by unfold sortOf; rw [if_neg (by omega)]; exact c4, if_neg (by decide), if_neg (by decide), if_pos rfl, hlv, show F_X5_partOf p 0 σ = prt τ p 0 from partOf5 (k := 0) hR hp (by decide), e1', Option.bind_some]
        dsimp only
        rw [hwr, bnd_eq, Option.bind_some]
        dsimp only
        rw [hld, Option.bind_some, hcm, bnd_eq, hpo1]
      clear hwr hld hpo1 e1
      generalize ldC (wrC σ1 m1 (pk 8 0 0 0 : Nat) (-1)) L0 = σ3 at *
      obtain ⟨c4', σ4, b, L, e4, s4, k4, w4, n4, l4⟩ := ih (prt τ p 1).toNat dp ch (lev + 1) σ3 (m1 + 1) Lc (by omega) (by omega) (by omega) (by omega) (by omega) hR2 n3 (by omega) k3 (fun x hx => by have := hLc x hx; have := i1.1; omega)
      have i4 := sgP_ok s4
      have g35 : σ4 35 m1 = -1 := by rw [(w4.2.2 m1 (by omega)).2, f35, if_neg (fun q => by have := i1.2.1 m1 q; omega), if_pos rfl]
      have hld2 : F_X0_land m1 σ4 = some (ldC σ4 [m1]) := land_c (c := (m1 : Int)) (L := [m1]) ⟨rfl, g35⟩ (by simp) (fun x hx => by simp at hx; omega)
      have wl2 := WF.ld (a := m1) (b := m1 + 1) (σ := σ4) (L := [m1]) (fun x hx => by simp at hx; omega)
      have o34 : ∀ i, ldC σ4 [m1] 34 i = σ4 34 i := fun i => by rw [ldC_row (by omega)]
      have o35 : ∀ i, ldC σ4 [m1] 35 i = if i = m1 then σ4 33 4 else σ4 35 i := fun i => by
        rw [ldC_35]
        by_cases q : i = m1
        · rw [if_pos (by simp [q]), if_pos q]
        · rw [if_neg (by simp [q]), if_neg q]
      refine ⟨c4', ldC σ4 [m1], b, L, ?_, ?_, ?_, ?_, ?_, by omega⟩
      · rw [hunf]
        rw [show (((prt τ p 1).toNat : Nat) : Int) = prt τ p 1 by omega] at e4
        rw [e4, Option.bind_some]
        dsimp only
        rw [hld2, Option.bind_some]
      · unfold sgP
        rw [if_neg c0, if_neg c1, if_pos c4]
        refine ⟨m1, L0, sgP_congr s1 (fun i i1' i2 => ?_) (fun i i1' i2 hL => ?_), fun x hx => ?_, ?_, ?_, sgP_congr s4 (fun i i1' i2 => o34 i) (fun i i1' i2 hL => by rw [o35, if_neg (by omega)])⟩
        · rw [o34, (w4.2.2 i (by omega)).1, f34, if_neg (by omega)]
        · rw [o35, if_neg (by omega), (w4.2.2 i (by omega)).2, f35, if_neg hL, if_neg (by omega)]
        · have := i1.2.1 x hx
          rw [o35, if_neg (by omega), (w4.2.2 x (by omega)).2, f35, if_pos hx]
        · rw [o34, (w4.2.2 m1 (by omega)).1, f34, if_pos rfl]
        · rw [o35, if_pos rfl, n4]
      · refine chn_congr (fun x hx => ?_) k4
        rw [o35, if_neg]
        rcases List.mem_append.mp hx with z | z
        · have := i4.2.1 x z; omega
        · have := hLc x z; have := i1.1; omega
      · exact (WF.join (a := a) (b := b) w2 w4 ⟨by omega, by have := i4.1; omega⟩ ⟨by have := i1.1; omega, by omega⟩).join wl2 ⟨by omega, by omega⟩ ⟨i1.1, i4.1⟩
      · rw [ldC_row (by omega)]; exact n4
    by_cases c5 : τ 8 p = 5
    · obtain ⟨g1, g2, g3, g4, g5, g6, g7⟩ := hW.g5 hp c5
      have hb := hW.pb hp (k := 0) (by omega)
      obtain ⟨-, -, hsz⟩ := sz_part hW hp (k := 0) (by omega) (by omega)
      have hge0 := hW.ge (p := (prt τ p 0).toNat) (by omega)
      have hlow : lowOf τ p = τ 9 p := by unfold lowOf; rw [if_neg (by omega)]
      have hw : F_X0_write 6 dp (τ 9 p) 0 (-1) σ = ((a : Int), wrC σ a (pk 6 dp (τ 9 p).toNat 0 : Nat) (-1)) := by
        have := write_c (op := 6) (d := dp) (a := (τ 9 p).toNat) (b := 0) (e := -1) hcnt (by omega) (by omega) (by omega) (by omega) (by omega)
        rw [show (((τ 9 p).toNat : Nat) : Int) = τ 9 p by omega] at this
        exact this
      have w1 : WF a (a + 1) σ (wrC σ a (pk 6 dp (τ 9 p).toNat 0 : Nat) (-1)) := WF.one
      have hR1 := w1.rp hR hF
      have hunf : G_X0_writePattern (F_X0_writePattern n) p dp ch lev σ = (F_X0_writeNumbers 50 (prt τ p 0) ch (lev + 1) (wrC σ a (pk 6 dp (τ 9 p).toNat 0 : Nat) (-1))).bind fun q6 => some (q6.1, q6.2) := by
        unfold G_X0_writePattern
        rw [if_pos (show lev ≤ 40 by omega), bnd_eq, sortOf5 hR hp, show sortOf τ p = 5 by unfold sortOf; rw [if_neg (by omega)]; exact c5, if_neg (by decide), if_neg (by decide), if_neg (by decide), if_pos rfl, lowOf5 hR hp, hlow, hw, bnd_eq]
        dsimp only
        rw [show F_X5_partOf p 0 (wrC σ a (pk 6 dp (τ 9 p).toNat 0 : Nat) (-1)) = prt τ p 0 from partOf5 (k := 0) hR1 hp (by decide), wrap_id (by omega) (by omega)]
      clear hw
      have f34 : ∀ i, wrC σ a (pk 6 dp (τ 9 p).toNat 0 : Nat) (-1) 34 i = if i = a then ((pk 6 dp (τ 9 p).toNat 0 : Nat) : Int) else σ 34 i := fun i => wrC_34
      have n1 : wrC σ a (pk 6 dp (τ 9 p).toNat 0 : Nat) (-1) 33 4 = ((a + 1 : Nat) : Int) := by rw [wrC_4]; omega
      have k1 : chn (wrC σ a (pk 6 dp (τ 9 p).toNat 0 : Nat) (-1)) ch Lc := chn_congr (fun x hx => (w1.2.2 x (by have := hLc x hx; omega)).2) hch
      generalize wrC σ a (pk 6 dp (τ 9 p).toNat 0 : Nat) (-1) = σ1 at *
      obtain ⟨c', σ2, b, L, e2, s2, k2, w2, n2, l2⟩ := wN_c hF 50 n (prt τ p 0).toNat ch (lev + 1) σ1 (a + 1) Lc (by omega) g7 (by omega) (by omega) (by omega) (by omega) hR1 n1 (by omega) k1 (fun x hx => by have := hLc x hx; omega)
      rw [show (((prt τ p 0).toNat : Nat) : Int) = prt τ p 0 by omega] at e2
      have i2 := sgN_ok s2
      refine ⟨c', σ2, b, L, ?_, ?_, k2, WF.join w1 w2 ⟨by omega, by have := i2.1; omega⟩ ⟨by omega, by omega⟩, n2, by omega⟩
      · rw [hunf, e2, Option.bind_some]
      · unfold sgP
        rw [if_neg c0, if_neg c1, if_neg c4, if_pos c5]
        exact ⟨by rw [(w2.2.2 a (by omega)).1, f34, if_pos rfl], s2⟩
    · obtain ⟨lh1, lh2⟩ := lowhigh hW hp c0 c1 c4 c5
      have hso : ¬ sortOf τ p = 0 ∧ ¬ sortOf τ p = 1 ∧ ¬ sortOf τ p = 4 ∧ ¬ sortOf τ p = 5 := by unfold sortOf; split <;> omega
      obtain ⟨s0, s1, s4, s5⟩ := hso
      obtain ⟨M, hM⟩ : ∃ M : Nat, pcOf τ p = M := ⟨(pcOf τ p).toNat, by have := (pc_spec hW hF hp).1; omega⟩
      have hsum := pszs_all hW hF hp hM
      have hw : F_X0_write 5 dp (lowOf τ p) (highOf τ p) ch σ = ((a : Int), wrC σ a (cHold τ 5 p dp : Nat) ch) := by
        have := write_c (op := 5) (d := dp) (a := (lowOf τ p).toNat) (b := (highOf τ p).toNat) (e := ch) hcnt (by omega) (by omega) (by omega) (by omega) (by omega)
        rw [show (((lowOf τ p).toNat : Nat) : Int) = lowOf τ p by omega, show (((highOf τ p).toNat : Nat) : Int) = highOf τ p by omega] at this
        exact this
      have w1 : WF a (a + 1) σ (wrC σ a (cHold τ 5 p dp : Nat) ch) := WF.one
      have hR1 := w1.rp hR hF
      have hunf : G_X0_writePattern (F_X0_writePattern n) p dp ch lev σ = (iter (fun z : (Int × Int × Sg) => L_X0_writeParts_16 (F_X0_writePattern n) p dp lev M z.1 z.2.1 z.2.2) 3000 ((a : Int), 0, wrC σ a (cHold τ 5 p dp : Nat) ch)) := by
        unfold G_X0_writePattern B_X0_writePattern_178 G_X0_writeParts
        rw [if_pos (show lev ≤ 40 by omega), bnd_eq, sortOf5 hR hp, if_neg s0, if_neg s1, if_neg s4, if_neg s5, lowOf5 hR hp, highOf5 hR hp, hw, bnd_eq, bnd_eq]
        dsimp only
        rw [show F_X5_partCount p (wrC σ a (cHold τ 5 p dp : Nat) ch) = (M : Int) from (partCount5 hR1 hp).trans hM]
        cases iter (fun z : (Int × Int × Sg) => L_X0_writeParts_16 (F_X0_writePattern n) p dp lev M z.1 z.2.1 z.2.2) 3000 ((a : Int), 0, wrC σ a (cHold τ 5 p dp : Nat) ch) <;> rfl
      clear hw
      have f34 : ∀ i, wrC σ a (cHold τ 5 p dp : Nat) ch 34 i = if i = a then ((cHold τ 5 p dp : Nat) : Int) else σ 34 i := fun i => wrC_34
      have n1 : wrC σ a (cHold τ 5 p dp : Nat) ch 33 4 = ((a + 1 : Nat) : Int) := by rw [wrC_4]; omega
      have k1 : chn (wrC σ a (cHold τ 5 p dp : Nat) ch) (a : Int) ([a] ++ Lc) := by
        refine ⟨rfl, ?_⟩
        rw [wrC_35, if_pos rfl]
        exact chn_congr (fun x hx => (w1.2.2 x (by have := hLc x hx; omega)).2) hch
      generalize wrC σ a (cHold τ 5 p dp : Nat) ch = σ1 at *
      obtain ⟨c', σ2, b, L, e2, s2, k2, w2, n2, l2, l2'⟩ := wL_c hF ih hp hM (by omega) hl hl2 hdp c0 c1 c4 c5 M 0 3000 a σ1 (a + 1) ([a] ++ Lc) (by omega) (by have := (pc_spec hW hF hp).2.1; omega) hR1 n1 (by omega) k1 (fun x hx => by
        rcases List.mem_append.mp hx with z | z
        · simp at z; omega
        · have := hLc x z; omega)
      refine ⟨c', σ2, b, L ++ [a], ?_, ?_, ?_, WF.join w1 w2 ⟨by omega, by omega⟩ ⟨by omega, by omega⟩, n2, by omega⟩
      · rw [hunf]; exact e2
      · unfold sgP
        rw [if_neg c0, if_neg c1, if_neg c4, if_neg c5, hM]
        exact ⟨by rw [(w2.2.2 a (by omega)).1, f34, if_pos rfl], L, s2, rfl⟩
      · rw [List.append_assoc]; exact k2
