/-! what binds a name: the class's way -/
theorem tb_jor {x y : Int} {k : Nat} (hx : 0 ≤ x ∧ x < 64) (hy : 0 ≤ y ∧ y < 64) : (jor x y).toNat.testBit k = (x.toNat.testBit k || y.toNat.testBit k) := by
  rw [(jor64 hx hy).1, Int.toNat_natCast, Nat.testBit_or]
theorem tb_shl {h nm : Int} (hh : 0 ≤ h ∧ h ≤ 5) (hn : 0 ≤ nm) : (jshl 1 h).toNat.testBit nm.toNat = decide (h = nm) := by
  have := bit_a ⟨h.toNat, by omega⟩
  simp only at this
  rw [show ((h.toNat : Nat) : Int) = h by omega] at this
  rw [this, Int.toNat_natCast, Nat.testBit_two_pow]
  by_cases e : h = nm
  · subst e; simp
  · rw [decide_eq_false e, decide_eq_false (by omega)]
theorem tb_0 (k : Nat) : (0 : Int).toNat.testBit k = false := by simp
/-- a part's flags -/
def bnSub (τ : Sg) (nm : Int) (n p : Nat) (kd : Int) (k : Nat) : Bool × Bool := if prt τ p k = -1 then (false, true) else bnS τ nm n (prt τ p k).toNat (if τ 8 p = 3 then τ 3 (3 * (τ 9 p).toNat + k) else if τ 8 p = 6 then 4 else kd)
theorem bnS_s {τ : Sg} {nm : Int} {n p : Nat} {kd : Int} : bnS τ nm (n + 1) p kd = (decide (τ 8 p = 1 ∧ τ 9 p = nm) || (bnSub τ nm n p kd 0).1 || (bnSub τ nm n p kd 1).1 || (bnSub τ nm n p kd 2).1, (!decide (τ 8 p = 1 ∧ τ 9 p = nm) || decide (kd = 4)) && (bnSub τ nm n p kd 0).2 && (bnSub τ nm n p kd 1).2 && (bnSub τ nm n p kd 2).2) := rfl
theorem occ_iff {τ : Sg} {nm : Int} (hW : WFP τ) (hn : 0 ≤ nm ∧ nm ≤ 5) : ∀ (p : Nat), (p : Int) < τ 0 9 → ∀ (N : Nat) (kd : Int), p < N → ((bnS τ nm N p kd).1 = (τ 15 p).toNat.testBit nm.toNat) := by
  intro p
  induction p using Nat.strongRecOn with
  | _ p ih =>
    intro hp N kd hN
    obtain ⟨N, rfl⟩ : ∃ x, N = x + 1 := ⟨N - 1, by omega⟩
    have w := hW.2.2 p hp
    obtain ⟨w1, w2, w3, w4, w5, w6, w7, w8, w9, w10, f0, f1, f2, f3, f4, f5, f6⟩ := w
    have sub : ∀ k : Nat, k < 3 → (bnSub τ nm N p kd k).1 = (nmo τ (prt τ p k)).toNat.testBit nm.toNat ∧ 0 ≤ nmo τ (prt τ p k) ∧ nmo τ (prt τ p k) < 64 := by
      intro k hk
      have hb := w2 k hk
      have h64 := nmo64 (x := prt τ p k) hW (by
        by_cases e : prt τ p k = -1
        · exact Or.inl e
        · exact Or.inr ⟨by omega, by omega⟩)
      refine ⟨?_, h64⟩
      unfold bnSub nmo
      by_cases e : prt τ p k = -1
      · rw [if_pos e, if_pos (by omega), tb_0]
      · rw [if_neg e, if_neg (show ¬ prt τ p k < 0 by omega)]
        exact ih (prt τ p k).toNat (by omega) (by omega) N _ (by omega)
    obtain ⟨s0, b0⟩ := sub 0 (by omega)
    obtain ⟨s1, b1⟩ := sub 1 (by omega)
    obtain ⟨s2, b2⟩ := sub 2 (by omega)
    rw [bnS_s, s0, s1, s2, w8]
    by_cases c : τ 8 p = 1
    · have hd := (f1 c).1
      have hs := shl_b hd
      rw [if_pos c, tb_jor (jor64 (jor64 hs b0).2 b1).2 b2, tb_jor (jor64 hs b0).2 b1, tb_jor hs b0, tb_shl hd hn.1]
      simp [c]
    · rw [if_neg c, tb_jor (jor64 (jor64 (by omega) b0).2 b1).2 b2, tb_jor (jor64 (by omega) b0).2 b1, tb_jor (by omega) b0, tb_0]
      simp [c]
/-- where a name does not occur, it is bound to numbers alone -/
theorem occ_no {τ : Sg} {nm : Int} : ∀ (n p : Nat) (kd : Int), (bnS τ nm n p kd).1 = false → (bnS τ nm n p kd).2 = true
  | 0, p, kd, _ => rfl
  | n + 1, p, kd, h => by
    rw [bnS_s] at h ⊢
    simp only [Bool.or_eq_false_iff] at h
    obtain ⟨⟨⟨h0, h1⟩, h2⟩, h3⟩ := h
    have sub : ∀ k, (bnSub τ nm n p kd k).1 = false → (bnSub τ nm n p kd k).2 = true := by
      intro k hk
      unfold bnSub at hk ⊢
      split
      · rfl
      · rename_i e
        rw [if_neg e] at hk
        exact occ_no n _ _ hk
    rw [sub 0 h1, sub 1 h2, sub 2 h3, h0]
    rfl
theorem partOf5 {σ τ : Sg} {p k : Nat} (h : RP σ τ) (hp : (p : Int) < τ 0 9) (hk : k < 3) : F_X5_partOf p k σ = prt τ p k := by
  have w2 := h.2.1.2.1
  unfold F_X5_partOf
  rw [if_neg (by omega), if_pos (isIn_iff.mpr (by omega)), wrap_id (z := (p : Int) * 3) (by omega) (by omega), wrap_id (by omega) (by omega), rdD_ok (by omega) (by omega), show ((p : Int) * 3 + (k : Int)).toNat = 3 * p + k by omega]
  exact (h.2.2.1 p hp).2.2.2.2.1 k hk
theorem sortOf5 {σ τ : Sg} {p : Nat} (h : RP σ τ) (hp : (p : Int) < τ 0 9) : F_X5_sortOf p σ = sortOf τ p := by
  have w2 := h.2.1.2.1
  unfold F_X5_sortOf
  rw [rdD_ok (by omega) (by omega), show ((p : Int)).toNat = p by omega]
  exact (h.2.2.1 p hp).1
theorem lowOf5 {σ τ : Sg} {p : Nat} (h : RP σ τ) (hp : (p : Int) < τ 0 9) : F_X5_lowOf p σ = lowOf τ p := by
  have w2 := h.2.1.2.1
  unfold F_X5_lowOf
  rw [rdD_ok (by omega) (by omega), show ((p : Int)).toNat = p by omega]
  exact (h.2.2.1 p hp).2.2.1
theorem partCount5 {σ τ : Sg} {p : Nat} (h : RP σ τ) (hp : (p : Int) < τ 0 9) : F_X5_partCount p σ = pcOf τ p := by
  have w2 := h.2.1.2.1
  unfold F_X5_partCount
  rw [rdD_ok (by omega) (by omega), show ((p : Int)).toNat = p by omega]
  exact (h.2.2.1 p hp).2.2.2.2.2.1
/-- the parts come first, then none -/
theorem pc_spec {τ : Sg} {p : Nat} (hW : WFP τ) (hF : WFK (τ 1) (τ 2) (τ 3)) (hp : (p : Int) < τ 0 9) : 0 ≤ pcOf τ p ∧ pcOf τ p ≤ 3 ∧ ∀ k : Nat, k < 3 → (prt τ p k = -1 ↔ pcOf τ p ≤ k) := by
  have w := hW.2.2 p hp
  obtain ⟨w1, w2, w3, w4, w5, w6, w7, w8, w9, w10, f0, f1, f2, f3, f4, f5, f6⟩ := w
  have g0 := w2 0 (by omega)
  have g1 := w2 1 (by omega)
  have g2 := w2 2 (by omega)
  have key : (prt τ p 1 = -1 → prt τ p 2 = -1) ∧ (prt τ p 0 = -1 → prt τ p 1 = -1) := by
    have hc : τ 8 p = 0 ∨ τ 8 p = 1 ∨ τ 8 p = 2 ∨ τ 8 p = 3 ∨ τ 8 p = 4 ∨ τ 8 p = 5 ∨ τ 8 p = 6 := by omega
    rcases hc with c | c | c | c | c | c | c
    · have := f0 c; omega
    · have := f1 c; omega
    · have := f2 c; omega
    · obtain ⟨t, cc, t1, t2, t3, t4, t5, t6⟩ := f3 c
      have a0 := t6 0 (by omega)
      have a1 := t6 1 (by omega)
      have a2 := t6 2 (by omega)
      constructor
      · intro e
        by_cases q : (1 : Int) < τ 2 (4 * t + cc)
        · have := ((a1.1 q)).1; omega
        · exact a2.2 (by omega)
      · intro e
        by_cases q : (0 : Int) < τ 2 (4 * t + cc)
        · have := ((a0.1 q)).1; omega
        · exact a1.2 (by omega)
    · have := f4 c; omega
    · have := f5 c; omega
    · obtain ⟨t1, t2, t3, t4, t5, t6⟩ := f6 c
      have a0 := t6 0 (by omega)
      have a1 := t6 1 (by omega)
      refine ⟨fun _ => t5, fun e => ?_⟩
      by_cases q : (0 : Int) < τ 9 p
      · have := ((a0.1 q)).1; omega
      · exact a1.2 (by omega)
  unfold pcOf
  refine ⟨by split <;> split <;> split <;> omega, by split <;> split <;> split <;> omega, fun k hk => ?_⟩
  have : k = 0 ∨ k = 1 ∨ k = 2 := by omega
  rcases this with rfl | rfl | rfl <;> (split <;> split <;> split <;> omega)
theorem isC_of {τ : Sg} {t c : Nat} (ht : t < 4) (hc : (c : Int) < τ 1 t) : isC τ t c := ⟨by omega, by omega, by rw [show ((t : Int)).toNat = t by omega]; exact hc⟩
theorem sort3 {τ : Sg} {p : Nat} : sortOf τ p = 3 ↔ τ 8 p = 3 := by unfold sortOf; split <;> omega
theorem sort1 {τ : Sg} {p : Nat} : sortOf τ p = 1 ↔ τ 8 p = 1 := by unfold sortOf; split <;> omega
theorem sort67 {τ : Sg} {p : Nat} : (sortOf τ p = 6 ∨ sortOf τ p = 7) ∧ τ 8 p ≤ 6 ↔ τ 8 p = 6 := by unfold sortOf; split <;> omega
theorem isList5 {σ τ : Sg} {p : Nat} (h : RP σ τ) (hp : (p : Int) < τ 0 9) : F_X5_isList p σ = true ↔ τ 8 p = 6 := by
  have hle := (h.2.1.2.2 p hp).1.2
  have hs := sort67 (τ := τ) (p := p)
  unfold F_X5_isList B_X5_isList_20
  rw [sortOf5 h hp]
  by_cases c : sortOf τ p = 6
  · rw [if_pos c]; exact ⟨fun _ => hs.mp ⟨Or.inl c, hle⟩, fun _ => rfl⟩
  · rw [if_neg c]
    by_cases c2 : sortOf τ p = 7
    · rw [if_pos c2]; exact ⟨fun _ => hs.mp ⟨Or.inr c2, hle⟩, fun _ => rfl⟩
    · rw [if_neg c2]; exact ⟨(fun q => by cases q), fun q => by have := (hs.mpr q).1; omega⟩
/-- a pattern for a view binds nothing -/
theorem bare_no {τ : Sg} (hW : WFP τ) : ∀ p : Nat, (p : Int) < τ 0 9 → τ 17 p = 1 → τ 15 p = 0 := by
  intro p
  induction p using Nat.strongRecOn with
  | _ p ih =>
    intro hp hb
    obtain ⟨w1, w2, w3, w4, w5, w6, w7, w8, w9, w10, f0, f1, f2, f3, f4, f5, f6⟩ := hW.2.2 p hp
    have n0 : ∀ k, prt τ p k = -1 → nmo τ (prt τ p k) = 0 := fun k e => by unfold nmo; rw [if_pos (by omega)]
    have hc : τ 8 p = 0 ∨ τ 8 p = 1 ∨ τ 8 p = 2 ∨ τ 8 p = 3 ∨ τ 8 p = 4 ∨ τ 8 p = 5 ∨ τ 8 p = 6 := by omega
    rcases hc with c | c | c | c | c | c | c
    · obtain ⟨-, -, i0, i1, i2, -⟩ := f0 c
      rw [w8, if_neg (by omega), n0 0 i0, n0 1 i1, n0 2 i2]; decide
    · have := (f1 c).2.2.2.2.2.1; omega
    · obtain ⟨-, i0, i1, i2, -⟩ := f2 c
      rw [w8, if_neg (by omega), n0 0 i0, n0 1 i1, n0 2 i2]; decide
    · obtain ⟨t, cc, t1, t2, t3, t4, t5, t6⟩ := f3 c; omega
    · obtain ⟨j1, j2, j3, j4, j5, j6, j7⟩ := f4 c
      obtain ⟨q0, q1⟩ := j7.mp hb
      have b0 := w2 0 (by omega)
      have b1 := w2 1 (by omega)
      have z0 := ih (prt τ p 0).toNat (by omega) (by omega) q0
      have z1 := ih (prt τ p 1).toNat (by omega) (by omega) q1
      rw [w8, if_neg (by omega), n0 2 j3, show nmo τ (prt τ p 0) = 0 by unfold nmo; rw [if_neg (by omega)]; exact z0, show nmo τ (prt τ p 1) = 0 by unfold nmo; rw [if_neg (by omega)]; exact z1]; decide
    · have := (f5 c).2.2.2.2.2.1; omega
    · have := (f6 c).2.2.2.1; omega
theorem sz_part {τ : Sg} {p k : Nat} (hW : WFP τ) (hp : (p : Int) < τ 0 9) (hk : k < 3) (he : ¬ prt τ p k = -1) : 0 ≤ prt τ p k ∧ prt τ p k < p ∧ τ 14 (prt τ p k).toNat + 1 ≤ τ 14 p := by
  obtain ⟨-, w2, w3, -⟩ := hW.2.2 p hp
  have hb := w2 k hk
  have szp : ∀ k : Nat, k < 3 → 0 ≤ szo τ (prt τ p k) := by
    intro k hk3
    unfold szo
    have := w2 k hk3
    split
    · omega
    · have := szo_b hW (prt τ p k).toNat (by omega); omega
  have z0 := szp 0 (by omega)
  have z1 := szp 1 (by omega)
  have z2 := szp 2 (by omega)
  have e : szo τ (prt τ p k) = τ 14 (prt τ p k).toNat := by unfold szo; rw [if_neg (by omega)]
  have : k = 0 ∨ k = 1 ∨ k = 2 := by omega
  rcases this with rfl | rfl | rfl <;> omega
/-- the kind that a part is for -/
def pkd (τ : Sg) (p : Nat) (kd : Int) (k : Nat) : Int := if τ 8 p = 3 then τ 3 (3 * (τ 9 p).toNat + k) else if τ 8 p = 6 then 4 else kd
theorem ty_mk {τ : Sg} {p k : Nat} {kd : Int} (hW : WFP τ) (hF : WFK (τ 1) (τ 2) (τ 3)) (hp : (p : Int) < τ 0 9) (hk : k < 3) (he : ¬ prt τ p k = -1) (ht : τ 12 p = -1 ∨ τ 12 p = kd) (c : τ 8 p = 3) : ∃ t c : Nat, isC τ t c ∧ kd = t ∧ lowOf τ p = c ∧ fkv τ t c k = τ 3 (3 * (τ 9 p).toNat + k) ∧ (τ 12 (prt τ p k).toNat = -1 ∨ τ 12 (prt τ p k).toNat = τ 3 (3 * (τ 9 p).toNat + k)) := by
  obtain ⟨-, -, -, -, -, -, -, -, -, -, -, -, -, f3, -, -, -⟩ := hW.2.2 p hp
  obtain ⟨t, cc, t1, t2, t3, t4, t5, t6⟩ := f3 c
  clear f3
  have t6 := t6 k hk
  have hfit := t6.1 (Classical.byContradiction fun q => he (t6.2 (by omega)))
  clear t6
  have hc4 := hF.1 t t1
  have e3 : (τ 9 p).toNat = 4 * t + cc := by omega
  refine ⟨t, cc, isC_of t1 t2, by omega, ?_, ?_, ?_⟩
  · unfold lowOf jrem
    rw [if_pos c, t3, Int.tmod_eq_emod_of_nonneg (by omega)]
    omega
  · unfold fkv; rw [e3]; congr 1
  · rw [e3]; exact hfit.2.2
theorem ty_list {τ : Sg} {p k : Nat} (hW : WFP τ) (hp : (p : Int) < τ 0 9) (hk : k < 3) (he : ¬ prt τ p k = -1) (c : τ 8 p = 6) : τ 12 (prt τ p k).toNat = -1 ∨ τ 12 (prt τ p k).toNat = 4 := by
  obtain ⟨-, -, -, -, -, -, -, -, -, -, -, -, -, -, -, -, f6⟩ := hW.2.2 p hp
  obtain ⟨t1, t2, t3, t4, t5, t6⟩ := f6 c
  clear f6
  have hk2 : k < 2 := by
    refine Classical.byContradiction fun q => ?_
    have : k = 2 := by omega
    subst this; exact he t5
  have t6 := t6 k hk2
  exact (t6.1 (Classical.byContradiction fun q => he (t6.2 (by omega)))).2.2
theorem ty_else {τ : Sg} {p k : Nat} {kd nm : Int} (hW : WFP τ) (hp : (p : Int) < τ 0 9) (hk : k < 3) (he : ¬ prt τ p k = -1) (ht : τ 12 p = -1 ∨ τ 12 p = kd) (c3 : ¬ τ 8 p = 3) (c6 : ¬ τ 8 p = 6) (hbk : (τ 15 (prt τ p k).toNat).toNat.testBit nm.toNat = true) : τ 12 (prt τ p k).toNat = -1 ∨ τ 12 (prt τ p k).toNat = kd := by
  have hs := sz_part hW hp hk he
  obtain ⟨w1, -, -, -, -, -, -, -, -, -, f0, f1, f2, -, f4, f5, -⟩ := hW.2.2 p hp
  have hk' : k = 0 ∨ k = 1 ∨ k = 2 := by omega
  have hc : τ 8 p = 0 ∨ τ 8 p = 1 ∨ τ 8 p = 2 ∨ τ 8 p = 4 ∨ τ 8 p = 5 := by omega
  rcases hc with c | c | c | c | c
  · obtain ⟨-, -, i0, i1, i2, -⟩ := f0 c
    rcases hk' with rfl | rfl | rfl
    · exact absurd i0 he
    · exact absurd i1 he
    · exact absurd i2 he
  · obtain ⟨-, -, i1, i2, i3, -⟩ := f1 c
    rcases hk' with rfl | rfl | rfl
    · rw [i3] at ht; exact ht
    · exact absurd i1 he
    · exact absurd i2 he
  · obtain ⟨-, i0, i1, i2, -⟩ := f2 c
    rcases hk' with rfl | rfl | rfl
    · exact absurd i0 he
    · exact absurd i1 he
    · exact absurd i2 he
  · obtain ⟨-, -, i2, j4, j5, -, -⟩ := f4 c
    clear f0 f1 f2 f4 f5
    rcases hk' with rfl | rfl | rfl
    · split at j4 <;> omega
    · split at j4 <;> omega
    · exact absurd i2 he
  · obtain ⟨-, -, i1, i2, -, -, j7⟩ := f5 c
    rcases hk' with rfl | rfl | rfl
    · rw [bare_no hW (prt τ p 0).toNat (by omega) j7] at hbk
      simp at hbk
    · exact absurd i1 he
    · exact absurd i2 he
set_option maxHeartbeats 4000000 in
theorem bo_c {σ τ : Sg} {nm : Int} (hk : RK σ τ) (h : RP σ τ) (hn : 0 ≤ nm ∧ nm ≤ 5) : ∀ (fu : Nat) (p : Nat) (kd lv : Int) (N : Nat), (p : Int) < τ 0 9 → τ 14 p ≤ fu → p < N → 0 ≤ lv → lv + τ 14 p ≤ 41 → ((τ 15 p).toNat.testBit nm.toNat = true → (τ 12 p = -1 ∨ τ 12 p = kd)) → F_X10_bindsOther fu p kd nm lv σ = some (!(bnS τ nm N p kd).2)
  | 0, p, kd, lv, N, hp, hf, hN, hl, hl2, ht => by
    have := szo_b h.2.1 p hp; omega
  | fu + 1, p, kd, lv, N, hp, hf, hN, hl, hl2, ht => by
    have hW := h.2.1
    have hF := hk.2.2.2
    have hsz := szo_b hW p hp
    obtain ⟨N, rfl⟩ : ∃ x, N = x + 1 := ⟨N - 1, by omega⟩
    have hocc := occ_iff hW hn p hp (N + 1) kd hN
    have hbi := binds5 (x := p) (nm := nm) h ⟨by omega, hp⟩ hn
    unfold hasN at hbi
    rw [show ((p : Int)).toNat = p by omega] at hbi
    show G_X10_bindsOther (F_X10_bindsOther fu) p kd nm lv σ = _
    unfold G_X10_bindsOther
    rw [if_neg (by omega)]
    by_cases hb : (τ 15 p).toNat.testBit nm.toNat = true
    · have ht := ht hb
      rw [if_pos (hbi.mpr hb), bnd_eq, bnd_eq, sortOf5 h hp, lowOf5 h hp]
      obtain ⟨pc0, pc3, pcs⟩ := pc_spec hW hF hp
      have loop : ∀ (so lo : Int), so = sortOf τ p → lo = lowOf τ p → (τ 8 p = 1 → ¬ τ 9 p = nm) → B_X10_bindsOther_57 (F_X10_bindsOther fu) p kd nm lv so lo σ = some (!((bnSub τ nm N p kd 0).2 && (bnSub τ nm N p kd 1).2 && (bnSub τ nm N p kd 2).2)) := by
        intro so lo hso hlo hne
        -- one part
        have step : ∀ k : Nat, k < 3 → (k : Int) < pcOf τ p → L_X10_bindsOther_60 (F_X10_bindsOther fu) p kd nm lv so lo σ k = if (bnSub τ nm N p kd k).2 = true then some (.inl ((k : Int) + 1)) else some (.inr (.inr true)) := by
          intro k hk3 hkp
          have he : ¬ prt τ p k = -1 := fun q => by have := (pcs k hk3).mp q; omega
          obtain ⟨hb1, hb2, hs⟩ := sz_part hW hp hk3 he
          have hq : ((prt τ p k).toNat : Int) = prt τ p k := by omega
          have rec_ : ∀ kd' : Int, ((τ 15 (prt τ p k).toNat).toNat.testBit nm.toNat = true → (τ 12 (prt τ p k).toNat = -1 ∨ τ 12 (prt τ p k).toNat = kd')) → B_X10_bindsOther_104 (F_X10_bindsOther fu) p nm lv k kd' σ = if (bnS τ nm N (prt τ p k).toNat kd').2 = true then some (.inl ((k : Int) + 1)) else some (.inr (.inr true)) := by
            intro kd' htk
            unfold B_X10_bindsOther_104
            have hrec := bo_c hk h hn fu (prt τ p k).toNat kd' (lv + 1) N (by omega) (by omega) (by omega) (by omega) (by omega) htk
            rw [hq] at hrec
            rw [partOf5 h hp hk3, wrap_id (z := lv + 1) (by omega) (by omega), hrec, Option.bind_some]
            cases (bnS τ nm N (prt τ p k).toNat kd').2 with
            | true => simp; exact wrap_id (by omega) (by omega)
            | false => simp
          unfold L_X10_bindsOther_60 bnSub
          rw [partCount5 h hp, if_neg (by omega), if_neg he]
          have hso3 : so = 3 ↔ τ 8 p = 3 := by rw [hso]; exact sort3
          by_cases c3 : τ 8 p = 3
          · rw [if_pos (hso3.mpr c3), if_pos c3, bnd_eq]
            obtain ⟨t, cc, hc, hkt, hlc, efk, hty⟩ := ty_mk (kd := kd) hW hF hp hk3 he ht c3
            rw [hlo, hkt, hlc, fieldKind_c hk hc (by omega), efk]
            exact rec_ _ (fun _ => hty)
          · rw [if_neg (fun q => c3 (hso3.mp q)), if_neg c3]
            have hil := isList5 h hp
            by_cases c6 : τ 8 p = 6
            · rw [if_pos (hil.mpr c6), if_pos c6]
              exact rec_ _ (fun _ => ty_list hW hp hk3 he c6)
            · rw [if_neg (fun q => c6 (hil.mp q)), if_neg c6]
              exact rec_ _ (fun hbk => ty_else hW hp hk3 he ht c3 c6 hbk)
        have subT : ∀ k : Nat, k < 3 → pcOf τ p ≤ k → (bnSub τ nm N p kd k).2 = true := by
          intro k hk3 hkp
          unfold bnSub
          rw [if_pos ((pcs k hk3).mpr hkp)]
        have hend : (fun a : Int => L_X10_bindsOther_60 (F_X10_bindsOther fu) p kd nm lv so lo σ a) (pcOf τ p) = some (.inr (.inl ())) := by
          show L_X10_bindsOther_60 _ _ _ _ _ _ _ _ _ = _
          unfold L_X10_bindsOther_60
          rw [partCount5 h hp, if_pos (Int.le_refl _)]
        unfold B_X10_bindsOther_57
        by_cases hall : ∀ j : Int, 0 ≤ j → j < pcOf τ p → (bnSub τ nm N p kd j.toNat).2 = true
        · rw [for_ok hend 3000 0 pc0 (by omega) (fun j j1 j2 => by
            have := step j.toNat (by omega) (by omega)
            rw [if_pos (hall j j1 j2), show ((j.toNat : Nat) : Int) = j by omega] at this
            exact this)]
          have ha : ∀ k : Nat, k < 3 → (bnSub τ nm N p kd k).2 = true := fun k hk3 => by
            by_cases q : (k : Int) < pcOf τ p
            · have := hall k (by omega) q
              rw [show ((k : Int)).toNat = k by omega] at this
              exact this
            · exact subT k hk3 (by omega)
          rw [ha 0 (by omega), ha 1 (by omega), ha 2 (by omega)]; rfl
        · rw [for_no (f := fun a : Int => L_X10_bindsOther_60 (F_X10_bindsOther fu) p kd nm lv so lo σ a) (n := pcOf τ p) (r := .inr true) (P := fun j => (bnSub τ nm N p kd j.toNat).2 = true) 3000 0 pc0 (by omega) (fun j j1 j2 j3 => by
            have := step j.toNat (by omega) (by omega)
            rw [if_pos j3, show ((j.toNat : Nat) : Int) = j by omega] at this
            exact this) (fun j j1 j2 j3 => by
            have := step j.toNat (by omega) (by omega)
            rw [if_neg j3, show ((j.toNat : Nat) : Int) = j by omega] at this
            exact this) hall]
          have hne : ((bnSub τ nm N p kd 0).2 && (bnSub τ nm N p kd 1).2 && (bnSub τ nm N p kd 2).2) = false := by
            cases q : ((bnSub τ nm N p kd 0).2 && (bnSub τ nm N p kd 1).2 && (bnSub τ nm N p kd 2).2) with
            | false => rfl
            | true =>
              simp only [Bool.and_eq_true] at q
              refine absurd (fun j j1 j2 => ?_) hall
              have : j = 0 ∨ j = 1 ∨ j = 2 := by omega
              rcases this with rfl | rfl | rfl
              · exact q.1.1
              · exact q.1.2
              · exact q.2
          rw [hne]; rfl
      rw [bnS_s]
      by_cases c1 : sortOf τ p = 1
      · have c8 := sort1.mp c1
        have hlo : lowOf τ p = τ 9 p := by unfold lowOf; rw [if_neg (by omega)]
        rw [if_pos c1, hlo]
        by_cases c2 : τ 9 p = nm
        · rw [if_pos c2]
          obtain ⟨-, w2, -, -, -, -, -, -, -, -, -, f1, -⟩ := hW.2.2 p hp
          obtain ⟨j1, j2, j3, j4, j5, j6, j7⟩ := f1 c8
          clear f1
          have hb0 := w2 0 (by omega)
          have s0 : (bnSub τ nm N p kd 0).2 = true := by
            unfold bnSub
            rw [if_neg (by omega)]
            refine occ_no _ _ _ ?_
            rw [occ_iff hW hn (prt τ p 0).toNat (by omega) N _ (by omega), ← c2]
            simpa using j7
          have s1 : (bnSub τ nm N p kd 1).2 = true := by unfold bnSub; rw [if_pos j3]
          have s2 : (bnSub τ nm N p kd 2).2 = true := by unfold bnSub; rw [if_pos j4]
          rw [s0, s1, s2]
          by_cases c4 : kd = 4
          · rw [if_pos c4]; simp [c4]
          · rw [if_neg c4]; simp [c8, c2, c4]
        · rw [if_neg c2, loop (sortOf τ p) (τ 9 p) rfl hlo.symm (fun _ => c2)]
          simp [c2]
      · rw [if_neg c1, loop _ _ rfl rfl (fun q => absurd (sort1.mpr q) c1)]
        have c8 : ¬ τ 8 p = 1 := fun q => c1 (sort1.mpr q)
        simp [c8]
    · rw [if_neg (fun q => hb (hbi.mp q))]
      have h1 : (bnS τ nm (N + 1) p kd).1 = false := by rw [hocc]; simpa using hb
      rw [occ_no _ _ _ h1]; rfl
