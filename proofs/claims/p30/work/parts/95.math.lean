/-! what a matching binds -/
theorem parts_kd {τ : Sg} {H : Int → Int} {p k : Nat} {pl : Int} (hW : WFP τ) (hF : WFK (τ 1) (τ 2) (τ 3)) (hH : HOK τ H) (h : okP τ H p pl) (c0 : ¬ τ 8 p = 0) (c1 : ¬ τ 8 p = 1) (c4 : ¬ τ 8 p = 4) (c5 : ¬ τ 8 p = 5) (hpl : 1 ≤ pl) (hf : ¬ H pl = -9) (hr : isR τ p (H pl) = true) (k3 : k < 3) (kn : ¬ prt τ p k = -1) : kd τ H (5 * pl + skipE τ p (H pl) + k + 1) = pkd τ p (kd τ H pl) k := by
  have hp := h.1
  have hform := hW.form hp
  have hc : τ 8 p = 2 ∨ τ 8 p = 3 ∨ τ 8 p = 6 := by omega
  have hg : 1 ≤ pl ∧ pl ≤ PB (τ 13 p) ∧ 0 ≤ kd τ H pl ∧ (τ 12 p = -1 ∨ τ 12 p = kd τ H pl) := by
    rcases h.2 with g | g
    · omega
    · exact g
  have h468 := PB_468 (d := τ 13 p)
  obtain ⟨h1, h2, h3, h4⟩ := hH pl hpl (by omega) hg.2.2.1 hf
  rcases hc with c | c | c
  · obtain ⟨a1, a2, a3, a4, -⟩ := hW.g2 hp c
    exfalso
    have : k = 0 ∨ k = 1 ∨ k = 2 := by omega
    rcases this with rfl | rfl | rfl <;> omega
  · obtain ⟨t, cc, t1, t2, t3, t4, t5, t6⟩ := hW.g3 hp c
    have hf4 := hF.1 t t1
    have hkd : kd τ H pl = t := by omega
    have hH2 : H pl = cc := by
      unfold isR at hr
      rw [if_neg (by omega), if_pos c] at hr
      have := of_decide_eq_true hr
      rw [this, t3]
      unfold jrem
      rw [Int.tmod_eq_emod_of_nonneg (by omega)]
      omega
    have hkf : (k : Int) < τ 2 (4 * t + cc) := Classical.byContradiction fun g => kn ((t6 k k3).2 (by omega))
    have hsk : skipE τ p (H pl) = 0 := by unfold skipE; rw [if_neg (by omega)]
    rw [hsk, show 5 * pl + 0 + (k : Int) + 1 = 5 * pl + k + 1 by omega, kd_in hpl (by omega), hkd]
    unfold kdG pkd
    rw [if_pos c, if_neg (by omega), if_pos (by omega), if_pos ⟨h1, by rw [show ((t : Int)).toNat = t by omega, hH2]; exact t2, by rw [hH2, show (4 * (t : Int) + cc).toNat = 4 * t + cc by omega]; exact hkf⟩, hH2]
    exact congrArg (τ 3) (by omega)
  · obtain ⟨a1, a2, a3, a4, a5, a6⟩ := hW.g6 hp c
    have hkd : kd τ H pl = 5 := by omega
    have hk2 : k < 2 := by
      have : k = 0 ∨ k = 1 ∨ k = 2 := by omega
      rcases this with rfl | rfl | rfl
      · omega
      · omega
      · exact absurd a5 kn
    have hkm : (k : Int) < τ 9 p := Classical.byContradiction fun g => kn ((a6 k hk2).2 (by omega))
    have hm : τ 9 p ≤ H pl := by
      unfold isR at hr
      rw [if_neg (by omega), if_neg (by omega)] at hr
      split at hr
      · have := of_decide_eq_true hr; omega
      · exact of_decide_eq_true hr
    have hsk : 0 ≤ skipE τ p (H pl) ∧ skipE τ p (H pl) + τ 9 p ≤ H pl := by unfold skipE; split <;> omega
    have := h3 hkd
    rw [show 5 * pl + skipE τ p (H pl) + (k : Int) + 1 = 5 * pl + (skipE τ p (H pl) + k) + 1 by omega, kd_in hpl (by omega), hkd]
    unfold kdG pkd
    rw [if_pos rfl, if_pos (by omega), if_neg (by omega), if_pos c]
/-- views and tests bind nothing -/
def EnvB (E : EnvQ) : Prop := (∀ v pl x, (E.2.1 v pl x).2.1 = x.1) ∧ ∀ x, (E.2.2 x).1 = x.1
def tb (τ : Sg) (p nm : Nat) : Bool := (τ 15 p).toNat.testBit nm
theorem tb_bn {τ : Sg} {p : Nat} {nm : Nat} {kdp : Int} (hW : WFP τ) (hp : (p : Int) < τ 0 9) (hn : nm ≤ 5) : (bnS τ nm 61 p kdp).1 = tb τ p nm := by
  have w2 := hW.2.1
  have := occ_iff (nm := (nm : Int)) hW ⟨by omega, by omega⟩ p hp 61 kdp (by omega)
  rw [this]; rfl
theorem seqU {f : Nat → Int → XS → Res} {nm : Nat} : ∀ {L : List (Nat × Int)} {x : XS}, (∀ q ∈ L, ∀ x, (f q.1 q.2 x).2.1 nm = x.1 nm) → (seqM f L x).2.1 nm = x.1 nm
  | [], x, _ => rfl
  | q :: l, x, h => by
    have hq := h q List.mem_cons_self x
    unfold seqM
    split
    · rw [seqU (fun q' hq' x => h q' (List.mem_cons_of_mem _ hq') x), hq]
    · exact hq
/-- a part binds nothing that the pattern doesn't bind -/
theorem tb_part {τ : Sg} {p k nm : Nat} (hW : WFP τ) (hp : (p : Int) < τ 0 9) (hk : k < 3) (kn : ¬ prt τ p k = -1) (hn : nm ≤ 5) (h : tb τ p nm = false) : tb τ (prt τ p k).toNat nm = false := by
  have w2 := hW.2.1
  have hb := hW.pb hp hk
  have h1 := tb_bn (kdp := 0) hW hp hn
  rw [bnS_s, h] at h1
  have h2 : (bnSub τ nm 60 p 0 k).1 = false := by
    dsimp only at h1
    simp only [Bool.or_eq_false_iff] at h1
    obtain ⟨⟨⟨-, b0⟩, b1⟩, b2⟩ := h1
    have : k = 0 ∨ k = 1 ∨ k = 2 := by omega
    rcases this with rfl | rfl | rfl
    · exact b0
    · exact b1
    · exact b2
  unfold bnSub at h2
  rw [if_neg kn, bnS_fuel hW (prt τ p k).toNat (by omega) 60 61 _ (by omega) (by omega), tb_bn hW (by omega) hn] at h2
  exact h2
theorem mtU {τ : Sg} {E : EnvQ} {nm : Nat} (hW : WFP τ) (hB : EnvB E) (hn : nm ≤ 5) : ∀ (n p : Nat) (pl : Int) (x : XS), (p : Int) < τ 0 9 → tb τ p nm = false → (mt τ E n p pl x).2.1 nm = x.1 nm
  | 0, p, pl, x, hp, h => rfl
  | n + 1, p, pl, x, hp, h => by
    have w2 := hW.2.1
    show (mtG τ E (mt τ E n) p pl x).2.1 nm = x.1 nm
    have sub : ∀ k : Nat, k < 3 → 0 ≤ prt τ p k → ∀ pl x, (mt τ E n (prt τ p k).toNat pl x).2.1 nm = x.1 nm := fun k k3 hk pl x => by
      have hb := hW.pb hp k3
      exact mtU hW hB hn n _ pl x (by omega) (tb_part hW hp k3 (by omega) hn h)
    unfold mtG
    by_cases c0 : τ 8 p = 0
    · rw [if_pos c0]
    rw [if_neg c0]
    by_cases c1 : τ 8 p = 1
    · rw [if_pos c1, sub 0 (by omega) (hW.g1 hp c1).2.1]
      have h1 := tb_bn (kdp := 0) hW hp hn
      rw [bnS_s, h] at h1
      dsimp only at h1
      simp only [Bool.or_eq_false_iff, decide_eq_false_iff_not] at h1
      have hne : ¬ nm = (τ 9 p).toNat := fun q => h1.1.1.1 ⟨c1, by have := (hW.g1 hp c1).1; omega⟩
      unfold bindX
      dsimp only
      rw [if_neg hne]
    rw [if_neg c1]
    by_cases c4 : τ 8 p = 4
    · obtain ⟨a1, a2, -⟩ := hW.g4 hp c4
      rw [if_pos c4]
      split
      · rw [sub 1 (by omega) a2, sub 0 (by omega) a1]
      · exact sub 0 (by omega) a1 _ _
    rw [if_neg c4]
    by_cases c5 : τ 8 p = 5
    · rw [if_pos c5]
      split
      · show (E.2.1 _ _ _).2.1 nm = _; rw [hB.1]
      · rw [sub 0 (by omega) (hW.g5 hp c5).2.1, hB.1]
    rw [if_neg c5]
    split
    · rfl
    · split
      · rw [seqU (fun q hq x => by
          obtain ⟨k, k3, kn, q1, q2⟩ := partsL_mem hq
          have hb := hW.pb hp k3
          rw [q1]
          exact sub k k3 (by omega) _ _), hB.2]
      · show (E.2.2 x).1 nm = _; rw [hB.2]
/-- a place that holds a number -/
def numP (τ : Sg) (H : Int → Int) (q : Int) : Prop := 1 ≤ q ∧ q ≤ 468 ∧ kd τ H q = 4
def BindAt (τ : Sg) (E : EnvQ) (nm n : Nat) : Prop := ∀ (p : Nat) (pl : Int) (x : XS), okP τ E.1 p pl → τ 14 p ≤ n → (bnS τ nm 61 p (kd τ E.1 pl)).2 = true → (mt τ E n p pl x).1 = .inl true → (numP τ E.1 (x.1 nm) ∨ tb τ p nm = true) → numP τ E.1 ((mt τ E n p pl x).2.1 nm)
theorem seqB {τ : Sg} {E : EnvQ} {nm n : Nat} (hW : WFP τ) (hB : EnvB E) (hn : nm ≤ 5) (ih : BindAt τ E nm n) : ∀ (L : List (Nat × Int)) (x : XS), (∀ q ∈ L, okP τ E.1 q.1 q.2 ∧ τ 14 q.1 ≤ n ∧ (bnS τ nm 61 q.1 (kd τ E.1 q.2)).2 = true) → (seqM (mt τ E n) L x).1 = .inl true → (numP τ E.1 (x.1 nm) ∨ ∃ q ∈ L, tb τ q.1 nm = true) → numP τ E.1 ((seqM (mt τ E n) L x).2.1 nm)
  | [], x, _, _, h => by
    rcases h with h | ⟨q, hq, -⟩
    · exact h
    · cases hq
  | q :: L, x, ho, hf, h => by
    have hq := ho q List.mem_cons_self
    unfold seqM at hf ⊢
    by_cases c : (mt τ E n q.1 q.2 x).1 = .inl true
    · rw [if_pos c] at hf ⊢
      refine seqB hW hB hn ih L _ (fun z hz => ho z (List.mem_cons_of_mem _ hz)) hf ?_
      by_cases ct : tb τ q.1 nm = true
      · exact Or.inl (ih q.1 q.2 x hq.1 hq.2.1 hq.2.2 c (Or.inr ct))
      · rcases h with h | ⟨z, hz, hzt⟩
        · refine Or.inl ?_
          rw [mtU hW hB hn n q.1 q.2 x hq.1.1 (by simpa using ct)]
          exact h
        · rcases List.mem_cons.mp hz with rfl | hz
          · exact absurd hzt ct
          · exact Or.inr ⟨z, hz, hzt⟩
    · rw [if_neg c] at hf
      exact absurd hf c
theorem bn2_part {τ : Sg} {p k : Nat} {nm : Int} {kdp : Int} (hW : WFP τ) (hp : (p : Int) < τ 0 9) (hk : k < 3) (kn : ¬ prt τ p k = -1) (h : (bnS τ nm 61 p kdp).2 = true) : (bnS τ nm 61 (prt τ p k).toNat (pkd τ p kdp k)).2 = true := by
  have w2 := hW.2.1
  have hb := hW.pb hp hk
  rw [bnS_s] at h
  have h2 : (bnSub τ nm 60 p kdp k).2 = true := by
    dsimp only at h
    simp only [Bool.and_eq_true] at h
    obtain ⟨⟨⟨-, b0⟩, b1⟩, b2⟩ := h
    have : k = 0 ∨ k = 1 ∨ k = 2 := by omega
    rcases this with rfl | rfl | rfl
    · exact b0
    · exact b1
    · exact b2
  unfold bnSub at h2
  rw [if_neg kn, bnS_fuel hW (prt τ p k).toNat (by omega) 60 61 _ (by omega) (by omega)] at h2
  exact h2
theorem tb_some {τ : Sg} {p nm : Nat} (hW : WFP τ) (hp : (p : Int) < τ 0 9) (hn : nm ≤ 5) (h : tb τ p nm = true) : (τ 8 p = 1 ∧ τ 9 p = nm) ∨ ∃ k : Nat, k < 3 ∧ ¬ prt τ p k = -1 ∧ tb τ (prt τ p k).toNat nm = true := by
  have w2 := hW.2.1
  have h1 := tb_bn (kdp := 0) hW hp hn
  rw [bnS_s, h] at h1
  dsimp only at h1
  have sub : ∀ k : Nat, k < 3 → (bnSub τ nm 60 p 0 k).1 = true → ¬ prt τ p k = -1 ∧ tb τ (prt τ p k).toNat nm = true := fun k hk q => by
    have hb := hW.pb hp hk
    unfold bnSub at q
    by_cases c : prt τ p k = -1
    · rw [if_pos c] at q; cases q
    · rw [if_neg c, bnS_fuel hW (prt τ p k).toNat (by omega) 60 61 _ (by omega) (by omega), tb_bn hW (by omega) hn] at q
      exact ⟨c, q⟩
  simp only [Bool.or_eq_true, decide_eq_true_eq] at h1
  rcases h1 with ((h1 | h1) | h1) | h1
  · exact Or.inl h1
  · exact Or.inr ⟨0, by omega, sub 0 (by omega) h1⟩
  · exact Or.inr ⟨1, by omega, sub 1 (by omega) h1⟩
  · exact Or.inr ⟨2, by omega, sub 2 (by omega) h1⟩
set_option maxHeartbeats 4000000 in
theorem mtB {τ : Sg} {E : EnvQ} {nm : Nat} (hW : WFP τ) (hF : WFK (τ 1) (τ 2) (τ 3)) (hH : HOK τ E.1) (hB : EnvB E) (hn : nm ≤ 5) : ∀ n, BindAt τ E nm n
  | 0 => fun p pl x ho hs _ _ _ => by have := hW.ge ho.1; omega
  | n + 1 => fun p pl x ho hs hb2 hf h => by
    have ih := mtB hW hF hH hB hn n
    have w2 := hW.2.1
    have hp := ho.1
    change (mtG τ E (mt τ E n) p pl x).1 = .inl true at hf
    show numP τ E.1 ((mtG τ E (mt τ E n) p pl x).2.1 nm)
    have sz : ∀ k : Nat, k < 3 → ¬ prt τ p k = -1 → τ 14 (prt τ p k).toNat ≤ n := fun k k3 kn => by
      have := (sz_part hW hp k3 kn).2.2; omega
    unfold mtG at hf ⊢
    by_cases c0 : τ 8 p = 0
    · rw [if_pos c0]
      rcases h with h | h
      · exact h
      · exfalso
        obtain ⟨-, -, g0, g1, g2, -⟩ := hW.g0 hp c0
        rcases tb_some hW hp hn h with q | ⟨k, k3, kn, -⟩
        · omega
        · have : k = 0 ∨ k = 1 ∨ k = 2 := by omega
          rcases this with rfl | rfl | rfl <;> omega
    rw [if_neg c0] at hf ⊢
    by_cases c1 : τ 8 p = 1
    · rw [if_pos c1] at hf ⊢
      obtain ⟨g1, g2, g3, g4, g5, g6⟩ := hW.g1 hp c1
      have hpk : pkd τ p (kd τ E.1 pl) 0 = kd τ E.1 pl := by unfold pkd; rw [if_neg (by omega), if_neg (by omega)]
      have hb2' := bn2_part (k := 0) hW hp (by omega) (by omega) hb2
      rw [hpk] at hb2'
      refine ih _ pl _ (ho.name hW c1) (sz 0 (by omega) (by omega)) hb2' hf ?_
      by_cases own : nm = (τ 9 p).toNat
      · refine Or.inl ?_
        unfold bindX
        dsimp only
        rw [if_pos own]
        have hop := ho.pl (by omega)
        rw [bnS_s] at hb2
        dsimp only at hb2
        simp only [Bool.and_eq_true, Bool.or_eq_true, Bool.not_eq_true', decide_eq_false_iff_not, decide_eq_true_eq] at hb2
        rcases hb2.1.1.1 with q | q
        · exact absurd ⟨c1, by omega⟩ q
        · exact ⟨hop.1, hop.2.1, q⟩
      · unfold bindX
        dsimp only
        rw [if_neg own]
        rcases h with h | h
        · exact Or.inl h
        · rcases tb_some hW hp hn h with q | ⟨k, k3, kn, kt⟩
          · omega
          · have : k = 0 := by
              have : k = 0 ∨ k = 1 ∨ k = 2 := by omega
              rcases this with rfl | rfl | rfl <;> omega
            subst this
            exact Or.inr kt
    rw [if_neg c1] at hf ⊢
    by_cases c4 : τ 8 p = 4
    · rw [if_pos c4] at hf ⊢
      obtain ⟨g0, g1, g2, g3, g4, g5, g6⟩ := hW.g4 hp c4
      have hpk : ∀ k, pkd τ p (kd τ E.1 pl) k = kd τ E.1 pl := fun k => by unfold pkd; rw [if_neg (by omega), if_neg (by omega)]
      have hba := bn2_part (k := 0) hW hp (by omega) (by omega) hb2
      have hbb := bn2_part (k := 1) hW hp (by omega) (by omega) hb2
      rw [hpk] at hba hbb
      have hnames : tb τ p nm = true → tb τ (prt τ p 0).toNat nm = true ∧ tb τ (prt τ p 1).toNat nm = true := fun q => by
        have e : tb τ (prt τ p 0).toNat nm = tb τ (prt τ p 1).toNat nm := by unfold tb; rw [g5]
        rcases tb_some hW hp hn q with z | ⟨k, k3, kn, kt⟩
        · omega
        · have : k = 0 ∨ k = 1 ∨ k = 2 := by omega
          rcases this with rfl | rfl | rfl
          · exact ⟨kt, by rw [← e]; exact kt⟩
          · exact ⟨by rw [e]; exact kt, kt⟩
          · omega
      have hb0 := hW.pb hp (k := 0) (by omega)
      by_cases cf : (mt τ E n (prt τ p 0).toNat pl x).1 = .inl false
      · rw [if_pos cf] at hf ⊢
        refine ih _ pl _ (ho.alt hW c4 (k := 1) (by omega)) (sz 1 (by omega) (by omega)) hbb hf ?_
        by_cases ct : tb τ p nm = true
        · exact Or.inr (hnames ct).2
        · rcases h with h | h
          · refine Or.inl ?_
            rw [mtU hW hB hn n _ pl x (by omega) (tb_part hW hp (k := 0) (by omega) (by omega) hn (by simpa using ct))]
            exact h
          · exact absurd h ct
      · rw [if_neg cf] at hf ⊢
        refine ih _ pl _ (ho.alt hW c4 (k := 0) (by omega)) (sz 0 (by omega) (by omega)) hba hf ?_
        rcases h with h | h
        · exact Or.inl h
        · exact Or.inr (hnames h).1
    rw [if_neg c4] at hf ⊢
    by_cases c5 : τ 8 p = 5
    · rw [if_pos c5] at hf ⊢
      obtain ⟨g1, g2, g3, g4, g5, g6, g7⟩ := hW.g5 hp c5
      have hb0 := hW.pb hp (k := 0) (by omega)
      have hbare := bare_no hW (prt τ p 0).toNat (by omega) g7
      have hnt : tb τ (prt τ p 0).toNat nm = false := by unfold tb; rw [hbare]; exact tb_0 nm
      have hx : numP τ E.1 (x.1 nm) := by
        rcases h with h | h
        · exact h
        · exfalso
          rcases tb_some hW hp hn h with z | ⟨k, k3, kn, kt⟩
          · omega
          · have : k = 0 ∨ k = 1 ∨ k = 2 := by omega
            rcases this with rfl | rfl | rfl
            · rw [hnt] at kt; cases kt
            · omega
            · omega
      by_cases c9 : (E.2.1 (τ 9 p) pl x).1 = -9
      · rw [if_pos c9] at hf; cases hf
      · rw [if_neg c9] at hf ⊢
        rw [mtU hW hB hn n _ _ _ (by omega) hnt, hB.1]
        exact hx
    rw [if_neg c5] at hf ⊢
    by_cases c9 : factE E pl = -9
    · rw [if_pos c9] at hf; cases hf
    rw [if_neg c9] at hf ⊢
    by_cases cr : isR τ p (factE E pl) = true
    · rw [if_pos cr] at hf ⊢
      by_cases c2 : τ 8 p = 2
      · obtain ⟨-, g0, g1, g2, -⟩ := hW.g2 hp c2
        have hL : partsL τ p pl (factE E pl) = [] := by unfold partsL part1; rw [if_pos g0, if_pos g1, if_pos g2]; rfl
        rw [hL]
        show numP τ E.1 ((E.2.2 x).1 nm)
        rw [hB.2]
        rcases h with h | h
        · exact h
        · exfalso
          rcases tb_some hW hp hn h with q | ⟨k, k3, kn, -⟩
          · omega
          · have : k = 0 ∨ k = 1 ∨ k = 2 := by omega
            rcases this with rfl | rfl | rfl <;> omega
      · have hform := hW.form hp
        have hnb : ¬ τ 17 p = 1 := fun q => by
          have h36 : τ 8 p = 3 ∨ τ 8 p = 6 := by omega
          rcases h36 with z | z
          · obtain ⟨_, _, _, _, _, _, z2, _⟩ := hW.g3 hp z; omega
          · have := (hW.g6 hp z).2.2.2.1; omega
        have hop := ho.pl hnb
        have hfe : factE E pl = E.1 pl := by unfold factE; rw [if_neg (by omega)]
        rw [hfe] at c9 cr hf ⊢
        refine seqB hW hB hn ih _ _ (fun q hq => ?_) hf ?_
        · have z := parts_lt hW hp hq
          have hok := ho.parts hW hF hH c0 c1 c4 c5 hop.1 c9 cr q hq
          obtain ⟨k, k3, kn, q1, q2⟩ := partsL_mem hq
          refine ⟨hok, by omega, ?_⟩
          rw [q2, parts_kd hW hF hH ho c0 c1 c4 c5 hop.1 c9 cr k3 kn, q1]
          exact bn2_part hW hp k3 kn hb2
        · rw [hB.2]
          rcases h with h | h
          · exact Or.inl h
          · rcases tb_some hW hp hn h with q | ⟨k, k3, kn, kt⟩
            · omega
            · refine Or.inr ⟨((prt τ p k).toNat, 5 * pl + skipE τ p (E.1 pl) + k + 1), ?_, kt⟩
              unfold partsL
              rw [List.mem_append, List.mem_append]
              have hm : ((prt τ p k).toNat, 5 * pl + skipE τ p (E.1 pl) + (k : Int) + 1) ∈ part1 τ p pl (E.1 pl) k := by
                unfold part1; rw [if_neg kn]; exact List.mem_cons_self
              have : k = 0 ∨ k = 1 ∨ k = 2 := by omega
              rcases this with rfl | rfl | rfl
              · exact Or.inl hm
              · exact Or.inr (Or.inl hm)
              · exact Or.inr (Or.inr hm)
    · rw [if_neg cr] at hf; cases hf
/-- the name of a guard is bound to a number -/
theorem tryB {τ : Sg} {E : EnvQ} {c : Nat} {x : XS} (hW : WFP τ) (hF : WFK (τ 1) (τ 2) (τ 3)) (hM : WFM τ) (hH : HOK τ E.1) (hB : EnvB E) (hc : (c : Int) < τ 0 23) (hg : ¬ τ 22 c = -1) (hf : (tryS τ E c x).1 = .inl true) : numP τ E.1 ((tryS τ E c x).2.1 (τ 23 c).toNat) := by
  obtain ⟨f1, f2, f3, f4⟩ := hM.2.2.2.2 c hc
  obtain ⟨g1, g2, g3⟩ := f4 hg
  obtain ⟨w1, w2, w3, w4, w5⟩ := id hM
  obtain ⟨nm, hnm⟩ : ∃ nm : Nat, τ 23 c = nm := ⟨(τ 23 c).toNat, by omega⟩
  rw [hnm] at g1 g3 ⊢
  rw [show ((nm : Int)).toNat = nm by omega]
  have b1 : (bnC τ c nm).1 = true := by rw [g3]
  have b2 : (bnC τ c nm).2 = true := by rw [g3]
  unfold bnC at b1 b2
  dsimp only at b1 b2
  simp only [Bool.or_eq_true] at b1
  simp only [Bool.and_eq_true] at b2
  have hk : ∀ k : Nat, (k : Int) < τ 0 21 → k < 3 → kd τ E.1 ((k : Int) + 1) = τ 19 k := fun k k1 k3 => by
    rw [kd_col ⟨by omega, by omega⟩ (by omega)]
    exact congrArg (τ 19) (by omega)
  have s2 : ∀ k : Nat, k < 3 → (k : Int) < τ 0 21 → (bnS τ nm 61 (cpt τ c k).toNat (τ 19 k)).2 = true := fun k k3 k1 => by
    have : k = 0 ∨ k = 1 ∨ k = 2 := by omega
    rcases this with rfl | rfl | rfl
    · have := b2.1.1; rw [if_neg (by omega)] at this; exact this
    · have := b2.1.2; rw [if_neg (by omega)] at this; exact this
    · have := b2.2; rw [if_neg (by omega)] at this; exact this
  have s1 : ∃ k : Nat, k < 3 ∧ (k : Int) < τ 0 21 ∧ (bnS τ nm 61 (cpt τ c k).toNat (τ 19 k)).1 = true := by
    rcases b1 with (q | q) | q
    · refine ⟨0, by omega, ?_⟩
      split at q
      · cases q
      · exact ⟨by omega, q⟩
    · refine ⟨1, by omega, ?_⟩
      split at q
      · cases q
      · exact ⟨by omega, q⟩
    · refine ⟨2, by omega, ?_⟩
      split at q
      · cases q
      · exact ⟨by omega, q⟩
  refine seqB hW hB (by omega) (mtB hW hF hH hB (by omega) 60) (colsL τ c) (clrX x) (fun q hq => ?_) hf (Or.inr ?_)
  · have hok := cols_ok (H := E.1) hM hc q hq
    obtain ⟨k, k3, k1, q1, q2⟩ := colsL_mem hq
    refine ⟨hok, by have := hW.ge hok.1; omega, ?_⟩
    rw [q1, q2, hk k k1 k3]
    exact s2 k k3 k1
  · obtain ⟨k, k3, k1, kt⟩ := s1
    have ff := (f1 k k3).1 k1
    rw [tb_bn hW (by have := ff.1; have := ff.2.1; omega) (by omega)] at kt
    refine ⟨((cpt τ c k).toNat, (k : Int) + 1), ?_, kt⟩
    have hm : ((cpt τ c k).toNat, (k : Int) + 1) ∈ col1L τ c k := by
      unfold col1L; rw [if_pos k1]; exact List.mem_cons_self
    unfold colsL
    rw [List.mem_append, List.mem_append]
    have : k = 0 ∨ k = 1 ∨ k = 2 := by omega
    rcases this with rfl | rfl | rfl
    · exact Or.inl hm
    · exact Or.inr (Or.inl hm)
    · exact Or.inr (Or.inr hm)
