/-! patterns at places: what comes of their parts -/
theorem okP.pl {τ : Sg} {H : Int → Int} {p : Nat} {pl : Int} (h : okP τ H p pl) (hb : ¬ τ 17 p = 1) : 1 ≤ pl ∧ pl ≤ 468 ∧ 0 ≤ kd τ H pl ∧ (τ 12 p = -1 ∨ τ 12 p = kd τ H pl) := by
  rcases h.2 with g | g
  · exact absurd g.1 hb
  · have := PB_468 (d := τ 13 p)
    exact ⟨g.1, by omega, g.2.2⟩
theorem okP.name {τ : Sg} {H : Int → Int} {p : Nat} {pl : Int} (hW : WFP τ) (h : okP τ H p pl) (c : τ 8 p = 1) : okP τ H (prt τ p 0).toNat pl := by
  obtain ⟨a1, a2, a3, a4, a5, a6⟩ := hW.g1 h.1 c
  have hb := hW.pb h.1 (k := 0) (by omega)
  have hd := dp_part hW h.1 (k := 0) (by omega) (by omega)
  have hp := h.1
  rcases h.2 with g | g
  · omega
  · have := PB_mono (d := τ 13 (prt τ p 0).toNat) (e := τ 13 p) (by split at hd <;> omega)
    refine ⟨by omega, Or.inr ⟨g.1, by omega, g.2.2.1, ?_⟩⟩
    rw [← a5]; exact g.2.2.2
theorem okP.alt {τ : Sg} {H : Int → Int} {p k : Nat} {pl : Int} (hW : WFP τ) (h : okP τ H p pl) (c : τ 8 p = 4) (hk : k < 2) : okP τ H (prt τ p k).toNat pl := by
  obtain ⟨a1, a2, a3, a4, a5, a6, a7⟩ := hW.g4 h.1 c
  have hp := h.1
  have hk0 : 0 ≤ prt τ p k := by
    have : k = 0 ∨ k = 1 := by omega
    rcases this with rfl | rfl <;> assumption
  have hb := hW.pb h.1 (k := k) (by omega)
  have hd := dp_part hW h.1 (k := k) (by omega) (by omega)
  rcases h.2 with g | g
  · refine ⟨by omega, Or.inl ⟨?_, g.2⟩⟩
    have := a7.mp g.1
    have : k = 0 ∨ k = 1 := by omega
    rcases this with rfl | rfl
    · exact (a7.mp g.1).1
    · exact (a7.mp g.1).2
  · have := PB_mono (d := τ 13 (prt τ p k).toNat) (e := τ 13 p) (by split at hd <;> omega)
    have hf := alt_fit hW h.1 (kd := kd τ H pl) ⟨by omega, hp, by rw [show ((p : Int)).toNat = p by omega]; exact g.2.2.2⟩ c hk
    exact ⟨by omega, Or.inr ⟨g.1, by omega, g.2.2.1, hf.2.2⟩⟩
theorem okP.view {τ : Sg} {H : Int → Int} {p : Nat} {pl d : Int} (hW : WFP τ) (h : okP τ H p pl) (c : τ 8 p = 5) (hd : 0 ≤ d ∧ d ≤ 9) : okP τ H (prt τ p 0).toNat (-1 - d) := by
  obtain ⟨a1, a2, a3, a4, a5, a6, a7⟩ := hW.g5 h.1 c
  have hb := hW.pb h.1 (k := 0) (by omega)
  have hp := h.1
  exact ⟨by omega, Or.inl ⟨a7, by omega, by omega⟩⟩
theorem part1_mem {τ : Sg} {p : Nat} {pl f : Int} {k : Nat} {q : Nat × Int} (h : q ∈ part1 τ p pl f k) : ¬ prt τ p k = -1 ∧ q.1 = (prt τ p k).toNat ∧ q.2 = 5 * pl + skipE τ p f + k + 1 := by
  unfold part1 at h
  split at h
  · cases h
  · simp only [List.mem_cons, List.not_mem_nil, or_false] at h
    rw [h]; exact ⟨by assumption, rfl, rfl⟩
theorem partsL_mem {τ : Sg} {p : Nat} {pl f : Int} {q : Nat × Int} (h : q ∈ partsL τ p pl f) : ∃ k : Nat, k < 3 ∧ ¬ prt τ p k = -1 ∧ q.1 = (prt τ p k).toNat ∧ q.2 = 5 * pl + skipE τ p f + k + 1 := by
  unfold partsL at h
  rw [List.mem_append, List.mem_append] at h
  rcases h with h | h | h
  · exact ⟨0, by omega, part1_mem h⟩
  · exact ⟨1, by omega, part1_mem h⟩
  · exact ⟨2, by omega, part1_mem h⟩
theorem okP.parts {τ : Sg} {H : Int → Int} {p : Nat} {pl : Int} (hW : WFP τ) (hF : WFK (τ 1) (τ 2) (τ 3)) (hH : HOK τ H) (h : okP τ H p pl) (c0 : ¬ τ 8 p = 0) (c1 : ¬ τ 8 p = 1) (c4 : ¬ τ 8 p = 4) (c5 : ¬ τ 8 p = 5) (hpl : 1 ≤ pl) (hf : ¬ H pl = -9) (hr : isR τ p (H pl) = true) : ∀ q ∈ partsL τ p pl (H pl), okP τ H q.1 q.2 := by
  intro q hq
  obtain ⟨k, k3, kn, q1, q2⟩ := partsL_mem hq
  have hp := h.1
  have hb := hW.pb h.1 k3
  have hd := dp_part hW h.1 k3 kn
  have hdp := (hW.dp hp).2
  have hd1 := dp_pos hW (prt τ p k).toNat (by omega)
  rw [if_neg (by omega)] at hd
  have hform := hW.form hp
  have hc : τ 8 p = 2 ∨ τ 8 p = 3 ∨ τ 8 p = 6 := by omega
  have hg : 1 ≤ pl ∧ pl ≤ PB (τ 13 p) ∧ 0 ≤ kd τ H pl ∧ (τ 12 p = -1 ∨ τ 12 p = kd τ H pl) := by
    rcases h.2 with g | g
    · omega
    · exact g
  have h468 := PB_468 (d := τ 13 p)
  obtain ⟨h1, h2, h3, h4⟩ := hH pl hpl (by omega) hg.2.2.1 hf
  rcases hc with c | c | c
  · obtain ⟨a1, a2, a3, a4, -⟩ := hW.g2 hp c
    exfalso
    have : k = 0 ∨ k = 1 ∨ k = 2 := by omega
    rcases this with rfl | rfl | rfl <;> omega
  · obtain ⟨t, cc, t1, t2, t3, t4, t5, t6⟩ := hW.g3 hp c
    have hf4 := hF.1 t t1
    obtain ⟨z1, z2, z3⟩ := hF.2 t cc t1 t2
    have hkd : kd τ H pl = t := by omega
    have hH2 : H pl = cc := by
      unfold isR at hr
      rw [if_neg (by omega), if_pos c] at hr
      have := of_decide_eq_true hr
      rw [this, t3]
      unfold jrem
      rw [Int.tmod_eq_emod_of_nonneg (by omega)]
      omega
    have hkf : (k : Int) < τ 2 (4 * t + cc) := Classical.byContradiction fun g => kn ((t6 k k3).2 (by omega))
    have hfit := (t6 k k3).1 hkf
    have hsk : skipE τ p (H pl) = 0 := by unfold skipE; rw [if_neg (by omega)]
    rw [hsk] at q2
    have hq2 : q.2 = 5 * pl + k + 1 := by omega
    have hk2 : kd τ H (5 * pl + k + 1) = τ 3 (3 * (4 * t + cc) + k) := by
      rw [kd_in hpl (by omega), hkd]
      unfold kdG
      rw [if_neg (by omega), if_pos (by omega), if_pos ⟨h1, by rw [show ((t : Int)).toNat = t by omega, hH2]; exact t2, by rw [hH2, show (4 * (t : Int) + cc).toNat = 4 * t + cc by omega]; exact hkf⟩, hH2]
      exact congrArg (τ 3) (by omega)
    have hz := z3 k hkf
    refine ⟨by rw [q1]; omega, Or.inr ?_⟩
    rw [hq2, hk2, q1]
    exact ⟨by omega, PB_in ⟨hd1, hd, hdp⟩ hg.2.1 (by omega), by omega, hfit.2.2⟩
  · obtain ⟨a1, a2, a3, a4, a5, a6⟩ := hW.g6 hp c
    have hkd : kd τ H pl = 5 := by omega
    have hk2 : k < 2 := by
      have : k = 0 ∨ k = 1 ∨ k = 2 := by omega
      rcases this with rfl | rfl | rfl
      · omega
      · omega
      · exact absurd a5 kn
    have hkm : (k : Int) < τ 9 p := Classical.byContradiction fun g => kn ((a6 k hk2).2 (by omega))
    have hfit := (a6 k hk2).1 hkm
    have hH3 := h3 hkd
    have hm : τ 9 p ≤ H pl := by
      unfold isR at hr
      rw [if_neg (by omega), if_neg (by omega)] at hr
      split at hr
      · have := of_decide_eq_true hr; omega
      · exact of_decide_eq_true hr
    have hsk : 0 ≤ skipE τ p (H pl) ∧ skipE τ p (H pl) + τ 9 p ≤ H pl := by unfold skipE; split <;> omega
    have hk3 : kd τ H (5 * pl + (skipE τ p (H pl) + k) + 1) = 4 := by
      rw [kd_in hpl (by omega), hkd]
      unfold kdG
      rw [if_pos rfl, if_pos (by omega)]
    refine ⟨by rw [q1]; omega, Or.inr ?_⟩
    rw [show q.2 = 5 * pl + (skipE τ p (H pl) + k) + 1 by omega, hk3, q1]
    exact ⟨by omega, PB_in ⟨hd1, hd, hdp⟩ hg.2.1 (by omega), by omega, hfit.2.2⟩
def szL (τ : Sg) (L : List (Nat × Int)) : Int := (L.map (fun q => τ 14 q.1)).sum
theorem szL_nil {τ : Sg} : szL τ [] = 0 := rfl
theorem szL_cons {τ : Sg} {q : Nat × Int} {L : List (Nat × Int)} : szL τ (q :: L) = τ 14 q.1 + szL τ L := by unfold szL; rw [List.map_cons, List.sum_cons]
theorem szL_app {τ : Sg} : ∀ {L L' : List (Nat × Int)}, szL τ (L ++ L') = szL τ L + szL τ L'
  | [], L' => by rw [List.nil_append, szL_nil]; omega
  | q :: L, L' => by rw [List.cons_append, szL_cons, szL_cons, szL_app]; omega
theorem szL_part {τ : Sg} {p : Nat} {pl f : Int} {k : Nat} (hb : -1 ≤ prt τ p k) : szL τ (part1 τ p pl f k) = szo τ (prt τ p k) := by
  unfold part1 szo
  by_cases c : prt τ p k = -1
  · rw [if_pos c, if_pos (by omega), szL_nil]
  · rw [if_neg c, if_neg (by omega), szL_cons, szL_nil]; exact Int.add_zero _
theorem szL_parts {τ : Sg} {p : Nat} {pl f : Int} (hW : WFP τ) (hp : (p : Int) < τ 0 9) : szL τ (partsL τ p pl f) + 1 = τ 14 p := by
  unfold partsL
  rw [szL_app, szL_app, szL_part (hW.pb hp (k := 0) (by omega)).1, szL_part (hW.pb hp (k := 1) (by omega)).1, szL_part (hW.pb hp (k := 2) (by omega)).1, (hW.sz hp).1]
  omega
theorem parts_lt {τ : Sg} {p : Nat} {pl f : Int} {q : Nat × Int} (hW : WFP τ) (hp : (p : Int) < τ 0 9) (h : q ∈ partsL τ p pl f) : (q.1 : Int) < τ 0 9 ∧ 1 ≤ τ 14 q.1 ∧ τ 14 q.1 + 1 ≤ τ 14 p := by
  obtain ⟨k, k3, kn, q1, q2⟩ := partsL_mem h
  obtain ⟨b1, b2, b3⟩ := sz_part hW hp k3 kn
  rw [q1]
  have := szo_b hW (prt τ p k).toNat (by omega)
  exact ⟨by omega, this.1, b3⟩
theorem seqM_congr {f g : Nat → Int → XS → Res} : ∀ {L : List (Nat × Int)} {x : XS}, (∀ q ∈ L, ∀ x, f q.1 q.2 x = g q.1 q.2 x) → seqM f L x = seqM g L x
  | [], x, _ => rfl
  | q :: l, x, h => by
    have hq := h q List.mem_cons_self x
    unfold seqM
    rw [hq, seqM_congr (fun q' hq' x => h q' (List.mem_cons_of_mem _ hq') x)]
theorem mt_fuel {τ : Sg} {E : EnvQ} (hW : WFP τ) : ∀ (n m p : Nat) (pl : Int) (x : XS), (p : Int) < τ 0 9 → τ 14 p ≤ n → τ 14 p ≤ m → mt τ E n p pl x = mt τ E m p pl x
  | 0, m, p, pl, x, hp, h1, h2 => by have := szo_b hW p hp; omega
  | n, 0, p, pl, x, hp, h1, h2 => by have := szo_b hW p hp; omega
  | n + 1, m + 1, p, pl, x, hp, h1, h2 => by
    show mtG τ E (mt τ E n) p pl x = mtG τ E (mt τ E m) p pl x
    have sub : ∀ k : Nat, k < 3 → 0 ≤ prt τ p k → ∀ pl x, mt τ E n (prt τ p k).toNat pl x = mt τ E m (prt τ p k).toNat pl x := fun k k3 hk pl x => by
      obtain ⟨b1, b2, b3⟩ := sz_part hW hp k3 (by omega)
      exact mt_fuel hW n m _ pl x (by omega) (by omega) (by omega)
    unfold mtG
    by_cases c0 : τ 8 p = 0
    · rw [if_pos c0, if_pos c0]
    rw [if_neg c0, if_neg c0]
    by_cases c1 : τ 8 p = 1
    · rw [if_pos c1, if_pos c1]; exact sub 0 (by omega) (hW.g1 hp c1).2.1 _ _
    rw [if_neg c1, if_neg c1]
    by_cases c4 : τ 8 p = 4
    · obtain ⟨a1, a2, -⟩ := hW.g4 hp c4
      rw [if_pos c4, if_pos c4, sub 0 (by omega) a1, sub 1 (by omega) a2]
    rw [if_neg c4, if_neg c4]
    by_cases c5 : τ 8 p = 5
    · rw [if_pos c5, if_pos c5, sub 0 (by omega) (hW.g5 hp c5).2.1]
    rw [if_neg c5, if_neg c5, seqM_congr (f := mt τ E n) (g := mt τ E m) (fun q hq x => by
      have := parts_lt hW hp hq
      exact mt_fuel hW n m _ _ x this.1 (by omega) (by omega))]
theorem WFP.ge {τ : Sg} {p : Nat} (h : WFP τ) (hp : (p : Int) < τ 0 9) : 1 ≤ τ 14 p ∧ τ 14 p ≤ 40 := szo_b h p hp
