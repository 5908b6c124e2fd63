/-! any, name, range, view, either -/
theorem RP.fr {σ σ' τ τ' : Sg} (h : RP σ τ) (hF : WFK (τ 1) (τ 2) (τ 3)) (hs : ∀ r, 10 ≤ r → r ≤ 21 → σ' r = σ r) (ht : ∀ r, 1 ≤ r → r ≤ 17 → τ' r = τ r) (h9 : τ' 0 9 = τ 0 9) : RP σ' τ' := by
  obtain ⟨r1, ⟨w1, w2, w3⟩, r3, r4⟩ := h
  have hP : ExtP τ τ' := ⟨by omega, fun p hp => ⟨fun r hr => by
    simp only [List.mem_cons, List.not_mem_nil, or_false] at hr
    rw [ht r (by omega) (by omega)], fun k hk => by rw [ht 11 (by omega) (by omega)]⟩⟩
  have hK : ExtK τ τ' := fun t _ => by
    rw [ht 1 (by omega) (by omega), ht 2 (by omega) (by omega), ht 3 (by omega) (by omega)]
    exact ⟨Int.le_refl _, fun _ _ => ⟨rfl, fun _ _ => rfl⟩⟩
  refine ⟨by rw [hs 10 (by omega) (by omega), h9]; exact r1, ⟨by omega, by omega, fun p hp => WFP1.mono hP hK hF (by omega) (w3 p (by omega))⟩, fun p hp => RP1.mono hP w3 (by omega) (fun r hr => ?_) (fun k hk => by rw [hs 15 (by omega) (by omega)]) (r3 p (by omega)), fun p hp hp2 => by rw [hs 16 (by omega) (by omega)]; exact r4 p (by omega) hp2⟩
  simp only [List.mem_cons, List.not_mem_nil, or_false] at hr
  rw [hs r (by omega) (by omega)]
theorem RP.z {σ τ : Sg} {t : Int} (h : RP σ τ) (hF : WFK (τ 1) (τ 2) (τ 3)) : RP σ (up2 τ 0 0 t) :=
  h.fr hF (fun _ _ _ => rfl) (fun r h1 h2 => by funext i; rw [up2_row (by omega)]) (by rw [up2_idx (by omega)])
theorem hasRoom5 {σ : Sg} : F_X5_hasRoom σ = decide (σ 10 0 < 60) := by
  unfold F_X5_hasRoom
  split
  · rw [decide_eq_false (by omega)]
  · rw [decide_eq_true (by omega)]
/-- what a new pattern leaves as it was -/
def FrP (σ τ σ' τ' : Sg) : Prop := (∀ r, r < 10 ∨ 21 < r → σ' r = σ r) ∧ (∀ r, r ∉ [0, 8, 9, 10, 11, 12, 13, 14, 15, 16, 17] → τ' r = τ r) ∧ (∀ i, ¬ i = 0 → ¬ i = 9 → τ' 0 i = τ 0 i) ∧ ExtP τ τ' ∧ RP σ' τ'
set_option maxHeartbeats 4000000 in
theorem push_all {σ τ : Sg} {n : Nat} {so lo hi fm hd rs p0 p1 p2 kd : Int} (hr : RP σ τ) (hN : τ 0 9 = n) (hn : n < 60) (hF : WFK (τ 1) (τ 2) (τ 3)) (h : NewP τ n fm hd rs p0 p1 p2 kd)
    (hso : so = if fm = 6 ∧ rs = 2 then 7 else fm) (hlo : lo = if fm = 3 then jrem hd 4 else hd) (hhi : hi = if fm = 2 then rs else if fm = 3 then jrem hd 4 else if fm = 6 then (if rs = 0 then hd else 3) else hd) :
    ∃ σ' τ', F_X10_keepPattern so kd lo hi p0 p1 p2 σ = some (.inl (n : Int), σ') ∧ F_X11_pattern fm hd rs p0 p1 p2 kd (up2 τ 0 0 0) = some ((n : Int), τ') ∧ τ' 0 0 = 0 ∧ FrP σ τ σ' τ' := by
  have hz := hr.z (t := 0) hF
  obtain ⟨r1, ⟨w1, w2, w3⟩, r3, r4⟩ := id hr
  obtain ⟨c0, o0, o1, o2, c1, c2, f0, f1, f2, f3, f4, f5, f6⟩ := id h
  have hnC : σ 10 0 = n := by omega
  have rp : ∀ p, okp n p → ¬ p = -1 → RP1 σ τ p.toNat ∧ WFP1 τ p.toNat := fun p hp h0 => ⟨r3 p.toNat (by rcases hp with h | h <;> omega), w3 p.toNat (by rcases hp with h | h <;> omega)⟩
  have szb : ∀ q : Nat, (q : Int) < τ 0 9 → 1 ≤ τ 14 q ∧ τ 14 q ≤ 40 := by
    intro q
    induction q using Nat.strongRecOn with
    | _ q ih =>
      intro hq
      have w := w3 q hq
      have sb : ∀ k : Nat, k < 3 → 0 ≤ szo τ (prt τ q k) := fun k hk => by
        unfold szo
        have := w.2.1 k hk
        split
        · omega
        · have := ih (prt τ q k).toNat (by omega) (by omega); omega
      have a0 := sb 0 (by omega)
      have a1 := sb 1 (by omega)
      have a2 := sb 2 (by omega)
      have := w.2.2.1
      have := w.2.2.2.1
      omega
  have dpb : ∀ q : Nat, (q : Int) < τ 0 9 → 0 ≤ τ 13 q ∧ τ 13 q ≤ 4 := by
    intro q
    induction q using Nat.strongRecOn with
    | _ q ih =>
      intro hq
      have w := w3 q hq
      have sb : ∀ k : Nat, k < 3 → 0 ≤ dpo τ (prt τ q k) := fun k hk => by
        unfold dpo
        have := w.2.1 k hk
        split
        · omega
        · have := ih (prt τ q k).toNat (by omega) (by omega); omega
      have a0 := sb 0 (by omega)
      have h13 := w.2.2.2.2.1
      have h14 := w.2.2.2.2.2.1
      unfold max3 at h13
      split at h13 <;> omega
  have sC : ∀ p, okp (σ 10 0) p → 0 ≤ szC σ p ∧ szC σ p ≤ 40 := fun p hp => by
    rw [hnC] at hp
    unfold szC
    split
    · omega
    · rw [(rp p hp (by assumption)).1.2.2.2.2.2.2.2.1]
      have := szb p.toNat (by rcases hp with h | h <;> omega); omega
  have dC : ∀ p, okp (σ 10 0) p → 0 ≤ dpC σ p ∧ dpC σ p ≤ 4 := fun p hp => by
    rw [hnC] at hp
    unfold dpC
    split
    · omega
    · rw [(rp p hp (by assumption)).1.2.2.2.2.2.2.1]
      exact dpb p.toNat (by rcases hp with h | h <;> omega)
  obtain ⟨vf, v1, v2, ek⟩ := keepP (σ := σ) (so := so) (kd := kd) (lo := lo) (hi := hi) (p0 := p0) (p1 := p1) (p2 := p2) (by omega) (by rw [hnC]; exact r4 n (by omega) (by omega)) (by rw [hnC]; exact o0) (by rw [hnC]; exact o1) (by rw [hnC]; exact o2) sC dC
    (fun q => by
      have : fm = 4 := by rw [hso] at q; split at q <;> omega
      exact ⟨(f4 this).1, (f4 this).2.1⟩) (fun q => by
      have g2 : fm = 2 := by rw [hso] at q; split at q <;> omega
      have := (f2 g2).1
      rw [hhi, if_pos g2]; omega)
  obtain ⟨τ', em, hM⟩ := patM (τ := up2 τ 0 0 0) (n := n) (fm := fm) (hd := hd) (rs := rs) (p0 := p0) (p1 := p1) (p2 := p2) (kd := kd) (by rw [up2_idx (by omega)]; exact hN) hn o0 o1 o2 (fun p hp => by
      show 0 ≤ szo τ p ∧ szo τ p ≤ 40
      unfold szo
      split
      · omega
      · have := szb p.toNat (by rcases hp with h | h <;> omega); omega) (fun j hj => dpb j (by omega)) (fun r hr j hj => by
      have w := w3 j (by omega)
      simp only [List.mem_cons, List.not_mem_nil, or_false] at hr
      rcases hr with rfl | rfl
      · exact w.2.2.2.2.2.2.2.2.1
      · exact w.2.2.2.2.2.2.2.2.2.1) (fun q => (f1 q).1)
  have hrp := NewP.rp (τ := up2 τ 0 0 0) hz (by rw [up2_idx (by omega)]; exact hN) hn hF hM h hso hlo hhi v1 v2
  rw [hnC] at ek
  refine ⟨_, τ', ?_, em, ?_, ?_, ?_, ?_, ?_, hrp⟩
  · unfold F_X10_keepPattern
    rw [hasRoom5, decide_eq_true (by omega), if_pos rfl, ek]; rfl
  · rw [hM.2.1 0 (by omega)]; rfl
  · intro r hr
    unfold cPb cPa
    funext i
    simp (disch := omega) only [bnd_eq, bind_some', wrap_id, rdn_ok, wrn_ok, wbn_ok, rdD_ok, rdD_out, wrD_ok, wrD_out, up2_at, up2_row, up2_idx, iter_s, itp, itn, isIn_iff, in_iff, ↓reduceIte, reduceCtorEq]
  · intro r hr
    rw [hM.1 r hr]
    simp only [List.mem_cons, List.not_mem_nil, or_false, not_or] at hr
    funext i; simp (disch := omega) only [bnd_eq, bind_some', wrap_id, rdn_ok, wrn_ok, wbn_ok, rdD_ok, rdD_out, wrD_ok, wrD_out, up2_at, up2_row, up2_idx, iter_s, itp, itn, isIn_iff, in_iff, ↓reduceIte, reduceCtorEq]
  · intro i h0 h9
    rw [hM.2.1 i h9]; simp (disch := omega) only [bnd_eq, bind_some', wrap_id, rdn_ok, wrn_ok, wbn_ok, rdD_ok, rdD_out, wrD_ok, wrD_out, up2_at, up2_row, up2_idx, iter_s, itp, itn, isIn_iff, in_iff, ↓reduceIte, reduceCtorEq]
  · have hX := KM.ext (τ := up2 τ 0 0 0) (by rw [up2_idx (by omega)]; exact hN) hM
    refine ⟨hX.1, fun p hp => ⟨fun r hr => ?_, fun k hk => ?_⟩⟩
    · rw [(hX.2 p hp).1 r hr, up2_row (by simp only [List.mem_cons, List.not_mem_nil, or_false] at hr; omega)]
    · rw [(hX.2 p hp).2 k hk, up2_row (by omega)]
theorem full_c {σ τ : Sg} {so kd lo hi p0 p1 p2 : Int} (hr : RP σ τ) (h : τ 0 9 = 60) : F_X10_keepPattern so kd lo hi p0 p1 p2 σ = some (.inr 2, σ) := by
  unfold F_X10_keepPattern
  have := hr.1
  rw [hasRoom5, decide_eq_false (by omega), if_neg (by simp)]
theorem isFull_iff {τ : Sg} : F_X11_isFull τ = true ↔ τ 0 9 = 60 := by
  unfold F_X11_isFull; split <;> simp [*]
def OpP (es : List (Nat × Int)) (f : Option ((Int ⊕ Nat) × Sg)) (g : Option (Int × Sg)) (σ τ : Sg) : Prop := Thr es f g σ τ ∨ ∃ v σ' τ', Okk f g v σ' τ' ∧ FrP σ τ σ' τ'
theorem op_any {σ τ : Sg} (h : RP σ τ) (hF : WFK (τ 1) (τ 2) (τ 3)) : OpP [(2, 1)] (F_X10_any σ) (F_X11_any τ) σ τ := by
  obtain ⟨r1, ⟨w1, w2, w3⟩, r3, r4⟩ := id h
  unfold F_X10_any F_X11_any
  by_cases c : τ 0 9 = 60
  · rw [if_pos (isFull_iff.mpr c), full_c h c]
    refine Or.inl ⟨2, 1, rfl, ?_, rfl, by decide, by decide⟩
    unfold B_X11_any_13; rw [bnd_eq, show b2i true = 1 from rfl, refused_n (by omega)]; rfl
  · obtain ⟨n, hN⟩ : ∃ n : Nat, τ 0 9 = n := ⟨(τ 0 9).toNat, by omega⟩
    obtain ⟨σ', τ', e1, e2, e3, e4⟩ := push_all (so := 0) (lo := 0) (hi := 0) (fm := 0) (hd := 0) (rs := 0) (p0 := -1) (p1 := -1) (p2 := -1) (kd := -1) h hN (by omega) hF
      ⟨by omega, Or.inl rfl, Or.inl rfl, Or.inl rfl, (by show (1 : Int) + 0 + 0 + 0 ≤ 40; decide), (by show (max3 0 0 0 + 1 : Int) ≤ 4; decide), fun _ => ⟨rfl, rfl, rfl, rfl, rfl, rfl⟩, fun h => by omega, fun h => by omega, fun h => by omega, fun h => by omega, fun h => by omega, fun h => by omega⟩ (by decide) (by decide) (by decide)
    rw [if_neg (fun q => c (isFull_iff.mp q)), e1]
    refine Or.inr ⟨n, σ', τ', ⟨rfl, ?_, e3⟩, e4⟩
    unfold B_X11_any_13; rw [bnd_eq, show b2i false = 0 from rfl, refused_0, if_neg (by simp), e2]; rfl
theorem op_range {σ τ : Sg} (a b : Int) (h : RP σ τ) (hF : WFK (τ 1) (τ 2) (τ 3)) : OpP [(1, 1), (2, 2)] (F_X10_range a b σ) (F_X11_range a b τ) σ τ := by
  obtain ⟨r1, ⟨w1, w2, w3⟩, r3, r4⟩ := id h
  have hthrow : ∀ t : Int, ¬ t = 0 → B_X11_range_47 a b t τ = some (0, up2 τ 0 0 t) := fun t ht => by
    unfold B_X11_range_47; rw [bnd_eq, refused_n ht]; rfl
  unfold F_X10_range F_X11_range B_X10_range_21 B_X11_range_24
  by_cases c1 : 0 ≤ a ∧ a ≤ 9
  · rw [if_pos (isDigit_iff.mpr c1), if_pos (in_iff.mpr c1)]
    by_cases c2 : a ≤ b ∧ b ≤ 9
    · rw [if_pos (isIn_iff.mpr c2), if_pos (in_iff.mpr c2)]
      unfold B_X10_range_22 B_X11_range_25
      rw [if_pos rfl, if_pos rfl]
      by_cases c : τ 0 9 = 60
      · rw [if_pos (isFull_iff.mpr c), full_c h c]
        exact Or.inl ⟨2, 2, rfl, hthrow 2 (by omega), rfl, by decide, by decide⟩
      · obtain ⟨n, hN⟩ : ∃ n : Nat, τ 0 9 = n := ⟨(τ 0 9).toNat, by omega⟩
        obtain ⟨σ', τ', e1, e2, e3, e4⟩ := push_all (so := 2) (lo := a) (hi := b) (fm := 2) (hd := a) (rs := b) (p0 := -1) (p1 := -1) (p2 := -1) (kd := 4) h hN (by omega) hF
          ⟨by omega, Or.inl rfl, Or.inl rfl, Or.inl rfl, (by show (1 : Int) + 0 + 0 + 0 ≤ 40; decide), (by show (max3 0 0 0 + 1 : Int) ≤ 4; decide), fun h => by omega, fun h => by omega, fun h => ⟨by omega, rfl, rfl, rfl, rfl⟩, fun h => by omega, fun h => by omega, fun h => by omega, fun h => by omega⟩ (by rw [if_neg (by omega)]) (by rw [if_neg (by omega)]) (by rw [if_pos rfl])
        rw [if_neg (fun q => c (isFull_iff.mp q)), e1]
        refine Or.inr ⟨n, σ', τ', ⟨rfl, ?_, e3⟩, e4⟩
        unfold B_X11_range_47; rw [bnd_eq, refused_0, if_neg (by simp), e2]; rfl
    · rw [if_neg (fun q => c2 (isIn_iff.mp q)), if_neg (fun q => c2 (in_iff.mp q))]
      refine Or.inl ⟨1, 1, rfl, ?_, rfl, by decide, by decide⟩
      unfold B_X11_range_25; rw [if_neg (by simp), hthrow 1 (by omega)]
  · rw [if_neg (fun q => c1 (isDigit_iff.mp q)), if_neg (fun q => c1 (in_iff.mp q))]
    refine Or.inl ⟨1, 1, rfl, ?_, rfl, by decide, by decide⟩
    unfold B_X11_range_25; rw [if_neg (by simp), hthrow 1 (by omega)]
/-! what patterns tell -/
def pl (τ : Sg) (x : Int) : Prop := 0 ≤ x ∧ x < τ 0 9
theorem isThere5 {σ τ : Sg} {x : Int} (h : RP σ τ) : F_X5_isThere x σ = true ↔ pl τ x := by
  obtain ⟨r1, ⟨w1, w2, w3⟩, r3, r4⟩ := h
  unfold F_X5_isThere pl
  rw [isIn_iff, wrap_id (by omega) (by omega)]; omega
theorem isPat {τ : Sg} {x : Int} (h : WFP τ) : F_X11_isPattern x τ = true ↔ pl τ x := by
  obtain ⟨w1, w2, w3⟩ := h
  unfold F_X11_isPattern pl
  rw [in_iff, wrap_id (by omega) (by omega)]; omega
theorem kindOf5 {σ τ : Sg} {x : Int} (h : RP σ τ) (hx : pl τ x) : F_X5_kindOf x σ = τ 12 x.toNat := by
  obtain ⟨r1, ⟨w1, w2, w3⟩, r3, r4⟩ := h
  obtain ⟨x1, x2⟩ := hx
  unfold F_X5_kindOf
  rw [rdD_ok x1 (by omega), (r3 x.toNat (by omega)).2.1]
theorem namesOf5 {σ τ : Sg} {x : Int} (h : RP σ τ) (hx : pl τ x) : F_X5_namesOf x σ = τ 15 x.toNat := by
  obtain ⟨r1, ⟨w1, w2, w3⟩, r3, r4⟩ := h
  obtain ⟨x1, x2⟩ := hx
  unfold F_X5_namesOf
  rw [rdD_ok x1 (by omega), (r3 x.toNat (by omega)).2.2.2.2.2.2.2.2.1]
theorem fits5 {σ τ : Sg} {x k : Int} (h : RP σ τ) (hx : pl τ x) : F_X5_fits x k σ = true ↔ fitsK τ x k := by
  unfold F_X5_fits B_X5_fits_18 fitsK
  rw [kindOf5 h hx]
  obtain ⟨x1, x2⟩ := hx
  by_cases c : τ 12 x.toNat = -1
  · rw [if_pos c]; exact ⟨fun _ => ⟨x1, x2, Or.inl c⟩, fun _ => rfl⟩
  · rw [if_neg c]
    by_cases c2 : τ 12 x.toNat = k
    · rw [if_pos c2]; exact ⟨fun _ => ⟨x1, x2, Or.inr c2⟩, fun _ => rfl⟩
    · rw [if_neg c2]; exact ⟨(fun h => by cases h), fun h => h.2.2.elim (fun h => absurd h c) (fun h => absurd h c2)⟩
theorem suits_c {τ : Sg} {x k : Int} (h : WFP τ) (hx : pl τ x) : ∃ b, F_X11_suits x k τ = some b ∧ (b = true ↔ fitsK τ x k) := by
  obtain ⟨w1, w2, w3⟩ := h
  unfold F_X11_suits B_X11_suits_20 fitsK
  obtain ⟨x1, x2⟩ := hx
  rw [rdn_ok x1 (by omega), Option.bind_some]
  by_cases c : τ 12 x.toNat = -1
  · rw [if_pos c]; exact ⟨true, rfl, fun _ => ⟨x1, x2, Or.inl c⟩, fun _ => rfl⟩
  · rw [if_neg c, Option.bind_some]
    by_cases c2 : τ 12 x.toNat = k
    · rw [if_pos c2]; exact ⟨true, rfl, fun _ => ⟨x1, x2, Or.inr c2⟩, fun _ => rfl⟩
    · rw [if_neg c2]; exact ⟨false, rfl, (fun h => by cases h), fun h => h.2.2.elim (fun h => absurd h c) (fun h => absurd h c2)⟩
theorem szo_b {τ : Sg} (h : WFP τ) : ∀ q : Nat, (q : Int) < τ 0 9 → 1 ≤ τ 14 q ∧ τ 14 q ≤ 40 := by
  obtain ⟨w1, w2, w3⟩ := h
  intro q
  induction q using Nat.strongRecOn with
  | _ q ih =>
    intro hq
    have w := w3 q hq
    have sb : ∀ k : Nat, k < 3 → 0 ≤ szo τ (prt τ q k) := fun k hk => by
      unfold szo
      have := w.2.1 k hk
      split
      · omega
      · have := ih (prt τ q k).toNat (by omega) (by omega); omega
    have a0 := sb 0 (by omega)
    have a1 := sb 1 (by omega)
    have a2 := sb 2 (by omega)
    have := w.2.2.1
    have := w.2.2.2.1
    omega
theorem dpo_b {τ : Sg} (h : WFP τ) : ∀ q : Nat, (q : Int) < τ 0 9 → 0 ≤ τ 13 q ∧ τ 13 q ≤ 4 := by
  obtain ⟨w1, w2, w3⟩ := h
  intro q
  induction q using Nat.strongRecOn with
  | _ q ih =>
    intro hq
    have w := w3 q hq
    have sb : ∀ k : Nat, k < 3 → 0 ≤ dpo τ (prt τ q k) := fun k hk => by
      unfold dpo
      have := w.2.1 k hk
      split
      · omega
      · have := ih (prt τ q k).toNat (by omega) (by omega); omega
    have a0 := sb 0 (by omega)
    have h13 := w.2.2.2.2.1
    have h14 := w.2.2.2.2.2.1
    unfold max3 at h13
    split at h13 <;> omega
/-- -1, or a pattern -/
def plo (τ : Sg) (x : Int) : Prop := x = -1 ∨ pl τ x
theorem sizeOf5 {σ τ : Sg} {x : Int} (h : RP σ τ) (hx : plo τ x) : F_X5_sizeOf x σ = szo τ x ∧ 0 ≤ szo τ x ∧ szo τ x ≤ 40 := by
  have hw := h.2.1
  obtain ⟨r1, ⟨w1, w2, w3⟩, r3, r4⟩ := h
  unfold F_X5_sizeOf szo
  rcases hx with hx | ⟨x1, x2⟩
  · rw [rdD_out (by omega), if_pos (by omega)]; omega
  · rw [rdD_ok x1 (by omega), if_neg (by omega), (r3 x.toNat (by omega)).2.2.2.2.2.2.2.1]
    have := szo_b hw x.toNat (by omega)
    omega
theorem isSmall5 {σ τ : Sg} {a b c : Int} (h : RP σ τ) (ha : plo τ a) (hb : plo τ b) (hc : plo τ c) : F_X5_isSmall a b c σ = true ↔ 1 + szo τ a + szo τ b + szo τ c ≤ 40 := by
  unfold F_X5_isSmall
  obtain ⟨a1, a2⟩ := sizeOf5 h ha
  obtain ⟨b1, b2⟩ := sizeOf5 h hb
  obtain ⟨c1, c2⟩ := sizeOf5 h hc
  rw [a1, b1, c1, wrap_id (z := 1 + szo τ a) (by omega) (by omega), wrap_id (z := 1 + szo τ a + szo τ b) (by omega) (by omega), wrap_id (by omega) (by omega)]
  split
  · simp; omega
  · simp; omega
theorem plo_ok {τ : Sg} {n : Nat} {x : Int} (hN : τ 0 9 = n) : plo τ x ↔ okp n x := by unfold plo okp pl; rw [hN]
theorem size11 {τ : Sg} {a b c : Int} (h : WFP τ) (ha : plo τ a) (hb : plo τ b) (hc : plo τ c) : F_X11_sizeOf a b c τ = some (1 + szo τ a + szo τ b + szo τ c) := by
  have hb9 := szo_b h
  obtain ⟨w1, w2, w3⟩ := h
  obtain ⟨n, hN⟩ : ∃ n : Nat, τ 0 9 = n := ⟨(τ 0 9).toNat, by omega⟩
  exact sizeM (n := n) (by omega) ((plo_ok hN).mp ha) ((plo_ok hN).mp hb) ((plo_ok hN).mp hc) (fun _ _ => rfl) (fun p hp => by
    unfold szo
    split
    · omega
    · have := hb9 p.toNat (by rcases hp with h | h <;> omega); omega)
def hasN (τ : Sg) (x nm : Int) : Prop := (τ 15 x.toNat).toNat.testBit nm.toNat = true
theorem bit_n {v nm : Int} (hv : 0 ≤ v ∧ v < 64) (hn : 0 ≤ nm ∧ nm ≤ 5) : jand (jshr v nm) 1 = if v.toNat.testBit nm.toNat then 1 else 0 := by
  have := bit_b ⟨v.toNat, by omega⟩ ⟨nm.toNat, by omega⟩
  simp only at this
  rw [show ((v.toNat : Nat) : Int) = v by omega, show ((nm.toNat : Nat) : Int) = nm by omega] at this
  exact this
theorem nm_b {τ : Sg} {x : Int} (h : WFP τ) (hx : pl τ x) : 0 ≤ τ 15 x.toNat ∧ τ 15 x.toNat < 64 := by
  obtain ⟨w1, w2, w3⟩ := h
  obtain ⟨x1, x2⟩ := hx
  exact (w3 x.toNat (by omega)).2.2.2.2.2.2.1
theorem binds5 {σ τ : Sg} {x nm : Int} (h : RP σ τ) (hx : pl τ x) (hn : 0 ≤ nm ∧ nm ≤ 5) : F_X5_binds x nm σ = true ↔ hasN τ x nm := by
  unfold F_X5_binds F_X10_isName hasN
  rw [if_pos (isIn_iff.mpr hn), namesOf5 h hx, bit_n (nm_b h.2.1 hx) hn]
  by_cases c : (τ 15 x.toNat).toNat.testBit nm.toNat = true
  · rw [if_pos c]; simp [c]
  · rw [if_neg c]; simp [c]
set_option maxHeartbeats 4000000 in
theorem op_name {σ τ : Sg} (a b : Int) (h : RP σ τ) (hF : WFK (τ 1) (τ 2) (τ 3)) : OpP [(0, 1), (1, 2), (2, 3)] (F_X10_name a b σ) (F_X11_name a b τ) σ τ := by
  have hW := h.2.1
  obtain ⟨r1, ⟨w1, w2, w3⟩, r3, r4⟩ := id h
  have hthrow : ∀ t : Int, ¬ t = 0 → B_X11_name_89 a b t τ = some (0, up2 τ 0 0 t) := fun t ht => by
    unfold B_X11_name_89; rw [bnd_eq, refused_n ht]; rfl
  unfold F_X10_name F_X11_name F_X10_isName B_X10_name_22 B_X11_name_21
  have bad : OpP [(0, 1), (1, 2), (2, 3)] (B_X10_name_23 a b false σ) (B_X11_name_22 a b false τ) σ τ := by
    refine Or.inl ⟨0, 1, ?_, ?_, rfl, by decide, by decide⟩
    · unfold B_X10_name_23; rw [if_neg (by simp)]
    · unfold B_X11_name_22 B_X11_name_56 B_X11_name_57; rw [if_neg (by simp), if_neg (by simp), hthrow 1 (by omega)]
  by_cases c1 : 0 ≤ a ∧ a ≤ 5
  · rw [if_pos (isIn_iff.mpr c1), if_pos (in_iff.mpr c1)]
    by_cases c2 : pl τ b
    · rw [if_pos ((isThere5 h).mpr c2), if_pos ((isPat hW).mpr c2)]
      have hb := binds5 h c2 c1
      have no : plo τ (-1) := Or.inl rfl
      have hs := isSmall5 h (Or.inr c2) no no
      have hsz := size11 hW (Or.inr c2) no no
      have hbit := bit_n (nm_b hW c2) c1
      unfold B_X10_name_23 B_X11_name_22
      rw [if_pos rfl, if_pos rfl, rdn_ok c2.1 (by have := c2.2; omega), Option.bind_some, hbit]
      have bad2 : OpP [(0, 1), (1, 2), (2, 3)] (some (.inr 1, σ)) (B_X11_name_56 a b true τ) σ τ := by
        refine Or.inl ⟨1, 2, rfl, ?_, rfl, by decide, by decide⟩
        unfold B_X11_name_56 B_X11_name_57; rw [if_pos rfl, if_neg (by simp), hthrow 2 (by omega)]
      by_cases c3 : hasN τ b a
      · rw [if_pos (hb.mpr c3)]
        unfold hasN at c3
        rw [if_pos c3, if_neg (by decide)]
        unfold B_X10_name_43
        rw [if_neg (by simp)]
        exact bad2
      · rw [if_neg (fun q => c3 (hb.mp q))]
        unfold hasN at c3
        rw [if_neg c3, if_pos rfl, hsz, Option.bind_some]
        unfold B_X10_name_43
        rw [if_pos rfl]
        by_cases c4 : 1 + szo τ b + szo τ (-1) + szo τ (-1) ≤ 40
        · rw [if_pos (hs.mpr c4), if_neg (by omega)]
          unfold B_X11_name_57
          rw [if_pos rfl, if_pos rfl, kindOf5 h c2]
          by_cases c : τ 0 9 = 60
          · rw [if_pos (isFull_iff.mpr c), full_c h c]
            exact Or.inl ⟨2, 3, rfl, hthrow 3 (by omega), rfl, by decide, by decide⟩
          · obtain ⟨n, hN⟩ : ∃ n : Nat, τ 0 9 = n := ⟨(τ 0 9).toNat, by omega⟩
            have hdb := dpo_b hW b.toNat (by have := c2.1; have := c2.2; omega)
            obtain ⟨σ', τ', e1, e2, e3, e4⟩ := push_all (so := 1) (lo := a) (hi := a) (fm := 1) (hd := a) (rs := 0) (p0 := b) (p1 := -1) (p2 := -1) (kd := τ 12 b.toNat) h hN (by omega) hF
              ⟨by omega, (plo_ok hN).mp (Or.inr c2), Or.inl rfl, Or.inl rfl, c4, (by rw [if_pos (Or.inl rfl)]; show max (dpo τ b) (max (dpo τ (-1)) (dpo τ (-1))) + 0 ≤ 4; unfold dpo; rw [if_neg (by have := c2.1; omega), if_pos (by omega)]; omega), fun h => by omega, fun h => ⟨c1, c2.1, rfl, rfl, rfl, c3⟩, fun h => by omega, fun h => by omega, fun h => by omega, fun h => by omega, fun h => by omega⟩ (by rw [if_neg (by omega)]) (by rw [if_neg (by omega)]) (by rw [if_neg (by omega), if_neg (by omega), if_neg (by omega)])
            rw [if_neg (fun q => c (isFull_iff.mp q)), e1]
            refine Or.inr ⟨n, σ', τ', ⟨rfl, ?_, e3⟩, e4⟩
            unfold B_X11_name_89; rw [bnd_eq, refused_0, if_neg (by simp), rdn_ok c2.1 (by have := c2.2; omega), Option.bind_some]
            show ((F_X11_pattern 1 a 0 b (-1) (-1) (τ 12 b.toNat) (up2 τ 0 0 0)).bind _) = _
            rw [e2]; rfl
        · rw [if_neg (fun q => c4 (hs.mp q)), if_pos (by omega)]
          exact bad2
    · rw [if_neg (fun q => c2 ((isThere5 h).mp q)), if_neg (fun q => c2 ((isPat hW).mp q))]; exact bad
  · rw [if_neg (fun q => c1 (isIn_iff.mp q)), if_neg (fun q => c1 (in_iff.mp q))]; exact bad
