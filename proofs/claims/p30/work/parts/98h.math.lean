/-! codes written: patterns for numbers, and all patterns -/
theorem lowhigh {τ : Sg} {p : Nat} (hW : WFP τ) (hp : (p : Int) < τ 0 9) (c0 : ¬ τ 8 p = 0) (c1 : ¬ τ 8 p = 1) (c4 : ¬ τ 8 p = 4) (c5 : ¬ τ 8 p = 5) : (0 ≤ lowOf τ p ∧ lowOf τ p ≤ 9) ∧ (0 ≤ highOf τ p ∧ highOf τ p ≤ 9) := by
  have hform := hW.form hp
  have hc : τ 8 p = 2 ∨ τ 8 p = 3 ∨ τ 8 p = 6 := by omega
  rcases hc with c | c | c
  · obtain ⟨g, -⟩ := hW.g2 hp c
    have e1 : lowOf τ p = τ 9 p := by unfold lowOf; rw [if_neg (by omega)]
    have e2 : highOf τ p = τ 10 p := by unfold highOf; rw [if_pos c]
    omega
  · have e1 : lowOf τ p = jrem (τ 9 p) 4 := by unfold lowOf; rw [if_pos c]
    have e2 : highOf τ p = jrem (τ 9 p) 4 := by unfold highOf; rw [if_neg (by omega), if_pos c]
    have h9 : 0 ≤ τ 9 p := by obtain ⟨t, cc, _, _, q, _⟩ := hW.g3 hp c; omega
    have : jrem (τ 9 p) 4 = τ 9 p % 4 := by unfold jrem; exact Int.tmod_eq_emod_of_nonneg h9
    omega
  · obtain ⟨g, -⟩ := hW.g6 hp c
    have e1 : lowOf τ p = τ 9 p := by unfold lowOf; rw [if_neg (by omega)]
    have e2 : highOf τ p = τ 9 p ∨ highOf τ p = 3 := by
      unfold highOf
      rw [if_neg (by omega), if_neg (by omega), if_pos c]
      split
      · exact Or.inl rfl
      · exact Or.inr rfl
    omega
theorem highOf5 {σ τ : Sg} {p : Nat} (h : RP σ τ) (hp : (p : Int) < τ 0 9) : F_X5_highOf p σ = highOf τ p := by
  obtain ⟨r1, ⟨w1, w2, w3⟩, r3, r4⟩ := h
  unfold F_X5_highOf
  rw [rdD_ok (by omega) (by omega), show ((p : Int)).toNat = p by omega]
  exact (r3 p hp).2.2.2.1
set_option maxHeartbeats 4000000 in
theorem wN_c {τ : Sg} (hF : WFK (τ 1) (τ 2) (τ 3)) : ∀ (n m p : Nat) (ch lev : Int) (σ : Sg) (a : Nat) (Lc : List Nat), (p : Int) < τ 0 9 → τ 17 p = 1 → τ 14 p ≤ n → τ 14 p ≤ m → 0 ≤ lev → lev + τ 14 p ≤ 41 → RP σ τ → σ 33 4 = a → (a : Int) + 2 * τ 14 p ≤ 1970 → chn σ ch Lc → (∀ x ∈ Lc, x < a) → ∃ (c' : Int) (σ' : Sg) (b : Nat) (L : List Nat), F_X0_writeNumbers n p ch lev σ = some (c', σ') ∧ sgN τ σ' m p a b L ∧ chn σ' c' (L ++ Lc) ∧ WF a b σ σ' ∧ σ' 33 4 = b ∧ (b : Int) + 1 ≤ a + 2 * τ 14 p
  | 0, m, p, ch, lev, σ, a, Lc, hp, _, h1, _, _, _, hR, _, _, _, _ => by have := hR.2.1.ge hp; omega
  | n, 0, p, ch, lev, σ, a, Lc, hp, _, _, h1, _, _, hR, _, _, _, _ => by have := hR.2.1.ge hp; omega
  | n + 1, m + 1, p, ch, lev, σ, a, Lc, hp, hb, h1, h2, hl, hl2, hR, hcnt, hcap, hch, hLc => by
    have hW := hR.2.1
    have hge := hW.ge hp
    have hform := hW.form hp
    show ∃ (c' : Int) (σ' : Sg) (b : Nat) (L : List Nat), G_X0_writeNumbers (F_X0_writeNumbers n) p ch lev σ = some (c', σ') ∧ _
    by_cases c0 : τ 8 p = 0
    · unfold G_X0_writeNumbers
      rw [if_neg (show ¬ 40 < lev by omega), sortOf5 hR hp, if_pos (show sortOf τ p = 0 by unfold sortOf; rw [if_neg (by omega)]; exact c0)]
      exact ⟨ch, σ, a, [], rfl, by unfold sgN; rw [if_pos c0]; exact ⟨rfl, rfl⟩, hch, WF.rfl', hcnt, by omega⟩
    by_cases c4 : τ 8 p = 4
    · obtain ⟨g0, g1, -, -, -, -, g6⟩ := hW.g4 hp c4
      have bb := g6.mp hb
      clear g6
      have b0 := hW.pb hp (k := 0) (by omega)
      have b1 := hW.pb hp (k := 1) (by omega)
      have hs := (hW.sz hp).1
      have z0 : szo τ (prt τ p 0) = τ 14 (prt τ p 0).toNat := by unfold szo; rw [if_neg (by omega)]
      have z1 : szo τ (prt τ p 1) = τ 14 (prt τ p 1).toNat := by unfold szo; rw [if_neg (by omega)]
      have z2 : 0 ≤ szo τ (prt τ p 2) := by
        unfold szo
        split
        · omega
        · have := hW.pb hp (k := 2) (by omega)
          have := hW.ge (p := (prt τ p 2).toNat) (by omega); omega
      rw [z0, z1] at hs
      have hge0 := hW.ge (p := (prt τ p 0).toNat) (by omega)
      have hge1 := hW.ge (p := (prt τ p 1).toNat) (by omega)
      -- the first alternative
      obtain ⟨c1, σ1, m1, L0, e1, s1, k1, w1, n1, l1⟩ := wN_c hF n m (prt τ p 0).toNat (-1) (lev + 1) σ a [] (by omega) bb.1 (by omega) (by omega) (by omega) (by omega) hR hcnt (by omega) rfl (fun x hx => by cases hx)
      have i1 := sgN_ok s1
      rw [List.append_nil] at k1
      -- the way around the second one
      have hwr : F_X0_write 8 0 0 0 (-1) σ1 = ((m1 : Int), wrC σ1 m1 (pk 8 0 0 0 : Nat) (-1)) := write_c (op := 8) (d := 0) (a := 0) (b := 0) n1 (by omega) (by omega) (by omega) (by omega) (by omega)
      have k2 : chn (wrC σ1 m1 (pk 8 0 0 0 : Nat) (-1)) c1 L0 := chn_congr (fun x hx => by rw [wrC_35, if_neg (by have := i1.2.1 x hx; omega)]) k1
      have hld : F_X0_land c1 (wrC σ1 m1 (pk 8 0 0 0 : Nat) (-1)) = some (ldC (wrC σ1 m1 (pk 8 0 0 0 : Nat) (-1)) L0) := land_c k2 i1.2.2 (fun x hx => by have := i1.2.1 x hx; omega)
      have wl := WF.ld (a := a) (b := m1) (σ := wrC σ1 m1 (pk 8 0 0 0 : Nat) (-1)) i1.2.1
      have n3 : ldC (wrC σ1 m1 (pk 8 0 0 0 : Nat) (-1)) L0 33 4 = ((m1 + 1 : Nat) : Int) := by rw [ldC_row (by omega), wrC_4]; omega
      have f34 : ∀ i, ldC (wrC σ1 m1 (pk 8 0 0 0 : Nat) (-1)) L0 34 i = if i = m1 then ((pk 8 0 0 0 : Nat) : Int) else σ1 34 i := fun i => by rw [ldC_row (by omega), wrC_34]
      have f35 : ∀ i, ldC (wrC σ1 m1 (pk 8 0 0 0 : Nat) (-1)) L0 35 i = if i ∈ L0 then (m1 : Int) + 1 else if i = m1 then -1 else σ1 35 i := fun i => by rw [ldC_35, wrC_4, wrC_35]
      have w2 : WF a (m1 + 1) σ (ldC (wrC σ1 m1 (pk 8 0 0 0 : Nat) (-1)) L0) := (WF.join (a := a) (b := m1 + 1) w1 WF.one ⟨by omega, by omega⟩ ⟨i1.1, by omega⟩).join wl ⟨by omega, by omega⟩ ⟨by omega, by omega⟩
      have hR2 := w2.rp hR hF
      have k3 : chn (ldC (wrC σ1 m1 (pk 8 0 0 0 : Nat) (-1)) L0) ch Lc := chn_congr (fun x hx => (w2.2.2 x (by have := hLc x hx; omega)).2) hch
      have hpo1 : F_X5_partOf p 1 (ldC (wrC σ1 m1 (pk 8 0 0 0 : Nat) (-1)) L0) = prt τ p 1 := partOf5 (k := 1) hR2 hp (by decide)
      have hunf : G_X0_writeNumbers (F_X0_writeNumbers n) p ch lev σ = (F_X0_writeNumbers n (prt τ p 1) ch (lev + 1) (ldC (wrC σ1 m1 (pk 8 0 0 0 : Nat) (-1)) L0)).bind fun q7 => (F_X0_land m1 q7.2).bind fun q9 => some (q7.1, q9) := by
        have e1' : F_X0_writeNumbers n (prt τ p 0) (-1) (lev + 1) σ = some (c1, σ1) := by
          rw [show (((prt τ p 0).toNat : Nat) : Int) = prt τ p 0 by omega] at e1; exact e1
        have hs4 : F_X5_sortOf p σ = 4 := by rw [sortOf5 hR hp]; unfold sortOf; rw [if_neg (by omega)]; exact c4
        have hlv : wrap (lev + 1) = lev + 1 := wrap_id (by omega) (by omega)
        unfold G_X0_writeNumbers
        rw [if_neg (show ¬ 40 < lev by omega), hs4, if_neg (by decide), if_pos rfl, hlv, show F_X5_partOf p 0 σ = prt τ p 0 from partOf5 (k := 0) hR hp (by decide), e1', Option.bind_some]
        dsimp only
        rw [hwr, bnd_eq]
        dsimp only
        rw [hld, Option.bind_some, hpo1]
      clear hwr hld hpo1 e1
      generalize ldC (wrC σ1 m1 (pk 8 0 0 0 : Nat) (-1)) L0 = σ3 at *
      obtain ⟨c4', σ4, b, L, e4, s4, k4, w4, n4, l4⟩ := wN_c hF n m (prt τ p 1).toNat ch (lev + 1) σ3 (m1 + 1) Lc (by omega) bb.2 (by omega) (by omega) (by omega) (by omega) hR2 n3 (by omega) k3 (fun x hx => by have := hLc x hx; have := i1.1; omega)
      have i4 := sgN_ok s4
      have g35 : σ4 35 m1 = -1 := by rw [(w4.2.2 m1 (by omega)).2, f35, if_neg (fun q => by have := i1.2.1 m1 q; omega), if_pos rfl]
      have hld2 : F_X0_land m1 σ4 = some (ldC σ4 [m1]) := land_c (c := (m1 : Int)) (L := [m1]) ⟨rfl, g35⟩ (by simp) (fun x hx => by simp at hx; omega)
      have wl2 := WF.ld (a := m1) (b := m1 + 1) (σ := σ4) (L := [m1]) (fun x hx => by simp at hx; omega)
      have o34 : ∀ i, ldC σ4 [m1] 34 i = σ4 34 i := fun i => by rw [ldC_row (by omega)]
      have o35 : ∀ i, ldC σ4 [m1] 35 i = if i = m1 then σ4 33 4 else σ4 35 i := fun i => by
        rw [ldC_35]
        by_cases q : i = m1
        · rw [if_pos (by simp [q]), if_pos q]
        · rw [if_neg (by simp [q]), if_neg q]
      refine ⟨c4', ldC σ4 [m1], b, L, ?_, ?_, ?_, ?_, ?_, by omega⟩
      · rw [hunf]
        rw [show (((prt τ p 1).toNat : Nat) : Int) = prt τ p 1 by omega] at e4
        rw [e4, Option.bind_some]
        dsimp only
        rw [hld2, Option.bind_some]
      · unfold sgN
        rw [if_neg c0, if_pos c4]
        refine ⟨m1, L0, sgN_congr s1 (fun i i1' i2 => ?_) (fun i i1' i2 hL => ?_), fun x hx => ?_, ?_, ?_, sgN_congr s4 (fun i i1' i2 => o34 i) (fun i i1' i2 hL => by rw [o35, if_neg (by omega)])⟩
        · rw [o34, (w4.2.2 i (by omega)).1, f34, if_neg (by omega)]
        · rw [o35, if_neg (by omega), (w4.2.2 i (by omega)).2, f35, if_neg hL, if_neg (by omega)]
        · have := i1.2.1 x hx
          rw [o35, if_neg (by omega), (w4.2.2 x (by omega)).2, f35, if_pos hx]
        · rw [o34, (w4.2.2 m1 (by omega)).1, f34, if_pos rfl]
        · rw [o35, if_pos rfl, n4]
      · refine chn_congr (fun x hx => ?_) k4
        rw [o35, if_neg]
        rcases List.mem_append.mp hx with z | z
        · have := i4.2.1 x z; omega
        · have := hLc x z; have := i1.1; omega
      · exact (WF.join (a := a) (b := b) w2 w4 ⟨by omega, by have := i4.1; omega⟩ ⟨by have := i1.1; omega, by omega⟩).join wl2 ⟨by omega, by omega⟩ ⟨i1.1, i4.1⟩
      · rw [ldC_row (by omega)]; exact n4
    · have c2 : ¬ τ 8 p = 1 ∧ ¬ τ 8 p = 5 := ⟨fun q => by have := (hW.g1 hp q).2.2.2.2.2; omega, fun q => by have := (hW.g5 hp q).2.2.2.2.2.1; omega⟩
      obtain ⟨lh1, lh2⟩ := lowhigh hW hp c0 c2.1 c4 c2.2
      have hso : ¬ sortOf τ p = 0 ∧ ¬ sortOf τ p = 4 := by unfold sortOf; split <;> omega
      have hwr : F_X0_write 7 0 (lowOf τ p) (highOf τ p) ch σ = ((a : Int), wrC σ a (cHold τ 7 p 0 : Nat) ch) := by
        have := write_c (op := 7) (d := 0) (a := (lowOf τ p).toNat) (b := (highOf τ p).toNat) (e := ch) hcnt (by omega) (by omega) (by omega) (by omega) (by omega)
        rw [show (((lowOf τ p).toNat : Nat) : Int) = lowOf τ p by omega, show (((highOf τ p).toNat : Nat) : Int) = highOf τ p by omega] at this
        exact this
      unfold G_X0_writeNumbers
      rw [if_neg (show ¬ 40 < lev by omega), sortOf5 hR hp, if_neg hso.1, if_neg hso.2, lowOf5 hR hp, highOf5 hR hp, hwr, bnd_eq]
      clear hwr
      refine ⟨(a : Int), wrC σ a (cHold τ 7 p 0 : Nat) ch, a + 1, [a], rfl, ?_, ⟨rfl, ?_⟩, WF.one, by rw [wrC_4]; omega, by omega⟩
      · unfold sgN
        rw [if_neg c0, if_neg c4]
        exact ⟨by rw [wrC_34, if_pos rfl], rfl, rfl⟩
      · show chn _ (wrC σ a (cHold τ 7 p 0 : Nat) ch 35 a) Lc
        rw [wrC_35, if_pos rfl]
        exact chn_congr (fun x hx => by rw [wrC_35, if_neg (by have := hLc x hx; omega)]) hch
