/-! view, either -/
theorem bare5 {σ τ : Sg} {x : Int} (h : RP σ τ) (hx : pl τ x) : F_X5_isBare x σ = true ↔ τ 17 x.toNat = 1 := by
  obtain ⟨r1, ⟨w1, w2, w3⟩, r3, r4⟩ := h
  obtain ⟨x1, x2⟩ := hx
  have := (r3 x.toNat (by omega)).2.2.2.2.2.2.2.2.2.2.2.1
  unfold F_X5_isBare F_X5_digitsOf
  rw [rdD_ok x1 (by omega)]
  by_cases c : σ 21 x.toNat = 0
  · rw [if_pos c]; have := this.mp c; simp [this]
  · rw [if_neg c]
    have : τ 17 x.toNat = 1 := Classical.byContradiction fun q => c (this.mpr q)
    simp [this]
set_option maxHeartbeats 4000000 in
theorem op_view {σ τ : Sg} (a b : Int) (h : RP σ τ) (hF : WFK (τ 1) (τ 2) (τ 3)) : OpP [(0, 1), (1, 2), (2, 3)] (F_X10_view a b σ) (F_X11_view a b τ) σ τ := by
  have hW := h.2.1
  obtain ⟨r1, ⟨w1, w2, w3⟩, r3, r4⟩ := id h
  have hthrow : ∀ t : Int, ¬ t = 0 → B_X11_view_85 a b t τ = some (0, up2 τ 0 0 t) := fun t ht => by
    unfold B_X11_view_85; rw [bnd_eq, refused_n ht]; rfl
  unfold F_X10_view F_X11_view F_X10_isView B_X10_view_22 B_X11_view_21
  have bad : OpP [(0, 1), (1, 2), (2, 3)] (B_X10_view_23 a b false σ) (B_X11_view_22 a b false τ) σ τ := by
    refine Or.inl ⟨0, 1, ?_, ?_, rfl, by decide, by decide⟩
    · unfold B_X10_view_23; rw [if_neg (by simp)]
    · unfold B_X11_view_22 B_X11_view_52 B_X11_view_53; rw [if_neg (by simp), if_neg (by simp), hthrow 1 (by omega)]
  by_cases c1 : 0 ≤ a ∧ a ≤ 2
  · rw [if_pos (isIn_iff.mpr c1), if_pos (in_iff.mpr c1)]
    by_cases c2 : pl τ b
    · rw [if_pos ((isThere5 h).mpr c2), if_pos ((isPat hW).mpr c2)]
      have hb := bare5 h c2
      have no : plo τ (-1) := Or.inl rfl
      have hs := isSmall5 h (Or.inr c2) no no
      have hsz := size11 hW (Or.inr c2) no no
      have hbr := (w3 b.toNat (by have := c2.1; have := c2.2; omega)).2.2.2.2.2.2.2.2.2.1
      unfold B_X10_view_23 B_X11_view_22
      rw [if_pos rfl, if_pos rfl, rdn_ok c2.1 (by have := c2.2; omega), Option.bind_some]
      have bad2 : OpP [(0, 1), (1, 2), (2, 3)] (B_X10_view_54 a b σ) (B_X11_view_52 a b true τ) σ τ := by
        refine Or.inl ⟨1, 2, ?_, ?_, rfl, by decide, by decide⟩
        · unfold B_X10_view_54 B_X10_view_55; rw [if_neg (by simp)]
        · unfold B_X11_view_52 B_X11_view_53; rw [if_pos rfl, if_neg (by simp), hthrow 2 (by omega)]
      by_cases c3 : τ 17 b.toNat = 1
      · rw [if_pos (hb.mpr c3), if_neg (show ¬ τ 17 b.toNat = 0 by omega), hsz, Option.bind_some]
        by_cases c4 : 1 + szo τ b + szo τ (-1) + szo τ (-1) ≤ 40
        · rw [if_pos (hs.mpr c4), if_neg (by omega)]
          unfold B_X11_view_53 B_X10_view_55
          rw [if_pos rfl, if_pos rfl, if_pos rfl]
          by_cases c : τ 0 9 = 60
          · rw [if_pos (isFull_iff.mpr c), full_c h c]
            exact Or.inl ⟨2, 3, rfl, hthrow 3 (by omega), rfl, by decide, by decide⟩
          · obtain ⟨n, hN⟩ : ∃ n : Nat, τ 0 9 = n := ⟨(τ 0 9).toNat, by omega⟩
            have hdb := dpo_b hW b.toNat (by have := c2.1; have := c2.2; omega)
            obtain ⟨σ', τ', e1, e2, e3, e4⟩ := push_all (so := 5) (lo := a) (hi := a) (fm := 5) (hd := a) (rs := 0) (p0 := b) (p1 := -1) (p2 := -1) (kd := -1) h hN (by omega) hF
              ⟨by omega, (plo_ok hN).mp (Or.inr c2), Or.inl rfl, Or.inl rfl, c4, (by rw [if_pos (Or.inr (Or.inr rfl))]; show max (dpo τ b) (max (dpo τ (-1)) (dpo τ (-1))) + 0 ≤ 4; unfold dpo; rw [if_neg (by have := c2.1; omega), if_pos (by omega)]; omega), fun h => by omega, fun h => by omega, fun h => by omega, fun h => by omega, fun h => by omega, fun h => ⟨c1, c2.1, rfl, rfl, rfl, c3⟩, fun h => by omega⟩ (by rw [if_neg (by omega)]) (by rw [if_neg (by omega)]) (by rw [if_neg (by omega), if_neg (by omega), if_neg (by omega)])
            rw [if_neg (fun q => c (isFull_iff.mp q)), e1]
            refine Or.inr ⟨n, σ', τ', ⟨rfl, ?_, e3⟩, e4⟩
            unfold B_X11_view_85; rw [bnd_eq, refused_0, if_neg (by simp)]
            show ((F_X11_pattern 5 a 0 b (-1) (-1) (-1) (up2 τ 0 0 0)).bind _) = _
            rw [e2]; rfl
        · rw [if_neg (fun q => c4 (hs.mp q)), if_pos (by omega)]
          exact bad2
      · rw [if_neg (fun q => c3 (hb.mp q)), if_pos (show τ 17 b.toNat = 0 by omega)]
        exact bad2
    · rw [if_neg (fun q => c2 ((isThere5 h).mp q)), if_neg (fun q => c2 ((isPat hW).mp q))]; exact bad
  · rw [if_neg (fun q => c1 (isIn_iff.mp q)), if_neg (fun q => c1 (in_iff.mp q))]; exact bad
theorem demP_ok {σ τ : Sg} {n a b c : Int} (h : RP σ τ) (hn : 0 ≤ n ∧ n ≤ 3) (hv : ∀ i, 0 ≤ i → i < n → pl τ (F_X10_pick i a b c)) : F_X10_demandPatterns n a b c σ = some (.inl (), σ) := by
  unfold F_X10_demandPatterns
  rw [for_ok (f := fun a9 : Int => L_X10_demandPatterns_3 n a b c σ a9) (n := n) (e := .inl ()) (by unfold L_X10_demandPatterns_3; rw [if_pos (Int.le_refl _)]) 3000 0 hn.1 (by omega) (fun j h1 h2 => by
    unfold L_X10_demandPatterns_3
    rw [if_neg (by omega), if_pos ((isThere5 h).mpr (hv j h1 h2)), wrap_id (by omega) (by omega)])]
  rfl
theorem demP_no {σ τ : Sg} {n a b c : Int} (h : RP σ τ) (hn : 0 ≤ n ∧ n ≤ 3) (hv : ¬ ∀ i, 0 ≤ i → i < n → pl τ (F_X10_pick i a b c)) : F_X10_demandPatterns n a b c σ = some (.inr 0, σ) := by
  unfold F_X10_demandPatterns
  rw [for_no (f := fun a9 : Int => L_X10_demandPatterns_3 n a b c σ a9) (n := n) (r := .inr (.inr 0, σ)) (P := fun i => pl τ (F_X10_pick i a b c)) 3000 0 hn.1 (by omega) (fun j h1 h2 h3 => by
    unfold L_X10_demandPatterns_3
    rw [if_neg (by omega), if_pos ((isThere5 h).mpr h3), wrap_id (by omega) (by omega)]) (fun j h1 h2 h3 => by
    unfold L_X10_demandPatterns_3
    rw [if_neg (by omega), if_neg (fun q => h3 ((isThere5 h).mp q))]) hv]
  rfl
/-- two patterns can be alternatives -/
def altS (τ : Sg) (a b : Int) : Prop := (τ 12 a.toNat = -1 ∨ τ 12 b.toNat = -1 ∨ τ 12 a.toNat = τ 12 b.toNat) ∧ τ 15 a.toNat = τ 15 b.toNat ∧ 1 + szo τ a + szo τ b + szo τ (-1) ≤ 40
theorem canAlt5 {σ τ : Sg} {a b : Int} (h : RP σ τ) (ha : pl τ a) (hb : pl τ b) : F_X5_canAlternate a b σ = true ↔ altS τ a b := by
  have hs := isSmall5 h (Or.inr ha) (Or.inr hb) (Or.inl rfl)
  unfold F_X5_canAlternate B_X5_canAlternate_22 altS
  have tail : B_X5_canAlternate_27 a b true σ = true ↔ τ 15 a.toNat = τ 15 b.toNat ∧ 1 + szo τ a + szo τ b + szo τ (-1) ≤ 40 := by
    unfold B_X5_canAlternate_27
    rw [if_pos rfl, namesOf5 h ha, namesOf5 h hb]
    by_cases c : τ 15 a.toNat = τ 15 b.toNat
    · rw [if_pos c]
      by_cases c2 : 1 + szo τ a + szo τ b + szo τ (-1) ≤ 40
      · rw [if_pos (hs.mpr c2)]; exact ⟨fun _ => ⟨c, c2⟩, fun _ => rfl⟩
      · rw [if_neg (fun q => c2 (hs.mp q))]; exact ⟨(fun h => by cases h), fun h => absurd h.2 c2⟩
    · rw [if_neg c]; exact ⟨(fun h => by cases h), fun h => absurd h.1 c⟩
  rw [kindOf5 h ha]
  by_cases c : τ 12 a.toNat = -1
  · rw [if_pos c, tail]; exact ⟨fun q => ⟨Or.inl c, q⟩, fun q => q.2⟩
  · rw [if_neg c]
    by_cases c2 : F_X5_fits b (τ 12 a.toNat) σ = true
    · rw [if_pos c2, tail]
      have := ((fits5 h hb).mp c2).2.2
      exact ⟨fun q => ⟨by omega, q⟩, fun q => q.2⟩
    · rw [if_neg c2]
      unfold B_X5_canAlternate_27
      rw [if_neg (by simp)]
      refine ⟨(fun h => by cases h), fun q => absurd ((fits5 h hb).mpr ⟨hb.1, hb.2, ?_⟩) c2⟩
      have := q.1
      omega
theorem areAlt {τ : Sg} {a b : Int} (h : WFP τ) (ha : pl τ a) (hb : pl τ b) : ∃ y, F_X11_areAlternatives a b τ = some y ∧ (y = true ↔ altS τ a b) := by
  have hs := size11 h (Or.inr ha) (Or.inr hb) (Or.inl rfl)
  have w2 := h.2.1
  have a60 : a < (60 : Nat) := by have := ha.2; omega
  have b60 : b < (60 : Nat) := by have := hb.2; omega
  unfold F_X11_areAlternatives B_X11_areAlternatives_35 altS
  have tail : ∃ y, B_X11_areAlternatives_40 a b true τ = some y ∧ (y = true ↔ τ 15 a.toNat = τ 15 b.toNat ∧ 1 + szo τ a + szo τ b + szo τ (-1) ≤ 40) := by
    unfold B_X11_areAlternatives_40
    rw [if_pos rfl, rdn_ok ha.1 a60, Option.bind_some, rdn_ok hb.1 b60, Option.bind_some]
    by_cases c : τ 15 a.toNat = τ 15 b.toNat
    · rw [if_pos c, hs, Option.bind_some]
      by_cases c2 : 1 + szo τ a + szo τ b + szo τ (-1) ≤ 40
      · rw [if_neg (by omega)]; exact ⟨true, rfl, fun _ => ⟨c, c2⟩, fun _ => rfl⟩
      · rw [if_pos (by omega)]; exact ⟨false, rfl, (fun h => by cases h), fun h => absurd h.2 c2⟩
    · rw [if_neg c]; exact ⟨false, rfl, (fun h => by cases h), fun h => absurd h.1 c⟩
  obtain ⟨y, t1, t2⟩ := tail
  rw [rdn_ok ha.1 a60, Option.bind_some]
  by_cases c : τ 12 a.toNat = -1
  · rw [if_pos c, t1]; exact ⟨y, rfl, t2.trans ⟨fun q => ⟨Or.inl c, q⟩, fun q => q.2⟩⟩
  · rw [if_neg c, rdn_ok hb.1 b60, Option.bind_some]
    by_cases c2 : τ 12 b.toNat = -1
    · rw [if_pos c2, t1]; exact ⟨y, rfl, t2.trans ⟨fun q => ⟨Or.inr (Or.inl c2), q⟩, fun q => q.2⟩⟩
    · rw [if_neg c2, Option.bind_some, Option.bind_some]
      by_cases c3 : τ 12 a.toNat = τ 12 b.toNat
      · rw [if_pos c3, t1]; exact ⟨y, rfl, t2.trans ⟨fun q => ⟨Or.inr (Or.inr c3), q⟩, fun q => q.2⟩⟩
      · rw [if_neg c3]
        unfold B_X11_areAlternatives_40
        rw [if_neg (by simp)]
        exact ⟨false, rfl, (fun h => by cases h), fun q => by have := q.1; omega⟩
theorem kindBoth5 {σ τ : Sg} {a b : Int} (h : RP σ τ) (ha : pl τ a) (hb : pl τ b) : F_X5_kindOfBoth a b σ = if τ 12 a.toNat = -1 then τ 12 b.toNat else τ 12 a.toNat := by
  unfold F_X5_kindOfBoth; rw [kindOf5 h ha, kindOf5 h hb]
set_option maxHeartbeats 4000000 in
theorem push_alt {σ τ : Sg} {a b : Int} {n : Nat} (h : RP σ τ) (hF : WFK (τ 1) (τ 2) (τ 3)) (hN : τ 0 9 = n) (hn : n < 60) (ha : pl τ a) (hb : pl τ b) (hA : altS τ a b) :
    ∃ σ' τ', F_X10_keepPattern 4 (if τ 12 a.toNat = -1 then τ 12 b.toNat else τ 12 a.toNat) 0 0 a b (-1) σ = some (.inl (n : Int), σ') ∧ F_X11_alternatives a b (up2 τ 0 0 0) = some ((n : Int), τ') ∧ τ' 0 0 = 0 ∧ FrP σ τ σ' τ' := by
  have hW := h.2.1
  have w2 := hW.2.1
  have a60 : a < (60 : Nat) := by have := ha.2; omega
  have b60 : b < (60 : Nat) := by have := hb.2; omega
  have hda := dpo_b hW a.toNat (by have := ha.1; have := ha.2; omega)
  have hdb := dpo_b hW b.toNat (by have := hb.1; have := hb.2; omega)
  obtain ⟨σ', τ', e1, e2, e3, e4⟩ := push_all (so := 4) (lo := 0) (hi := 0) (fm := 4) (hd := 0) (rs := 0) (p0 := a) (p1 := b) (p2 := -1) (kd := if τ 12 a.toNat = -1 then τ 12 b.toNat else τ 12 a.toNat) h hN hn hF
    ⟨by omega, (plo_ok hN).mp (Or.inr ha), (plo_ok hN).mp (Or.inr hb), Or.inl rfl, hA.2.2, (by rw [if_pos (Or.inr (Or.inl rfl))]; show max (dpo τ a) (max (dpo τ b) (dpo τ (-1))) + 0 ≤ 4; unfold dpo; rw [if_neg (by have := ha.1; omega), if_neg (by have := hb.1; omega), if_pos (by omega)]; omega), fun h => by omega, fun h => by omega, fun h => by omega, fun h => by omega, fun h => ⟨ha.1, hb.1, rfl, rfl, hA.1, hA.2.1⟩, fun h => by omega, fun h => by omega⟩ (by rw [if_neg (by omega)]) (by rw [if_neg (by omega)]) (by rw [if_neg (by omega), if_neg (by omega), if_neg (by omega)])
  refine ⟨σ', τ', e1, ?_, e3, e4⟩
  unfold F_X11_alternatives B_X11_alternatives_32
  rw [rdn_ok ha.1 a60, Option.bind_some, rdn_ok hb.1 b60, Option.bind_some]
  show (if τ 12 a.toNat = -1 then ((F_X11_pattern 4 0 0 a b (-1) (τ 12 b.toNat) (up2 τ 0 0 0)).bind fun q5 => some (q5.1, q5.2)) else ((some (τ 12 a.toNat)).bind fun v3 => (F_X11_pattern 4 0 0 a b (-1) v3 (up2 τ 0 0 0)).bind fun q5 => some (q5.1, q5.2))) = _
  by_cases c : τ 12 a.toNat = -1
  · rw [if_pos c] at e2 ⊢; rw [e2]; rfl
  · rw [if_neg c] at e2 ⊢; rw [Option.bind_some, e2]; rfl
set_option maxHeartbeats 4000000 in
theorem op_either {σ τ : Sg} (a b : Int) (h : RP σ τ) (hF : WFK (τ 1) (τ 2) (τ 3)) : OpP [(0, 1), (1, 2), (2, 3)] (F_X10_either a b σ) (F_X11_either a b τ) σ τ := by
  have hW := h.2.1
  obtain ⟨r1, ⟨w1, w2, w3⟩, r3, r4⟩ := id h
  have hthrow : ∀ t : Int, ¬ t = 0 → B_X11_either_56 a b t τ = some (0, up2 τ 0 0 t) := fun t ht => by
    unfold B_X11_either_56; rw [bnd_eq, refused_n ht]; rfl
  have hall : (∀ i : Int, 0 ≤ i → i < 2 → pl τ (F_X10_pick i a b (-1))) ↔ pl τ a ∧ pl τ b := by
    constructor
    · intro q; exact ⟨q 0 (by omega) (by omega), q 1 (by omega) (by omega)⟩
    · rintro ⟨q0, q1⟩ i i0 i1
      have : i = 0 ∨ i = 1 := by omega
      rcases this with rfl | rfl
      · exact q0
      · exact q1
  unfold F_X10_either F_X11_either B_X11_either_20
  by_cases c1 : pl τ a ∧ pl τ b
  · obtain ⟨ha, hb⟩ := c1
    rw [demP_ok h (by omega) (hall.mpr ⟨ha, hb⟩), if_pos ((isPat hW).mpr ha), if_pos ((isPat hW).mpr hb)]
    unfold B_X11_either_21
    obtain ⟨y, y1, y2⟩ := areAlt hW ha hb
    rw [if_pos rfl, y1, Option.bind_some]
    show OpP _ (if F_X5_canAlternate a b σ = true then _ else _) _ σ τ
    by_cases c2 : altS τ a b
    · rw [if_pos ((canAlt5 h ha hb).mpr c2), if_pos (y2.mpr c2), kindBoth5 h ha hb]
      by_cases c : τ 0 9 = 60
      · rw [if_pos (isFull_iff.mpr c), full_c h c]
        exact Or.inl ⟨2, 3, rfl, hthrow 3 (by omega), rfl, by decide, by decide⟩
      · obtain ⟨n, hN⟩ : ∃ n : Nat, τ 0 9 = n := ⟨(τ 0 9).toNat, by omega⟩
        obtain ⟨σ', τ', e1, e2, e3, e4⟩ := push_alt h hF hN (by omega) ha hb c2
        rw [if_neg (fun q => c (isFull_iff.mp q)), e1]
        refine Or.inr ⟨n, σ', τ', ⟨rfl, ?_, e3⟩, e4⟩
        unfold B_X11_either_56; rw [bnd_eq, refused_0, if_neg (by simp), e2]; rfl
    · rw [if_neg (fun q => c2 ((canAlt5 h ha hb).mp q)), if_neg (fun q => c2 (y2.mp q))]
      exact Or.inl ⟨1, 2, rfl, hthrow 2 (by omega), rfl, by decide, by decide⟩
  · rw [demP_no h (by omega) (fun q => c1 (hall.mp q))]
    refine Or.inl ⟨0, 1, rfl, ?_, rfl, by decide, by decide⟩
    have hf : B_X11_either_21 a b false τ = some (0, up2 τ 0 0 1) := by unfold B_X11_either_21; rw [if_neg (by simp), hthrow 1 (by omega)]
    rw [hf]
    by_cases ha : pl τ a
    · rw [if_pos ((isPat hW).mpr ha), if_neg (fun q => c1 ⟨ha, (isPat hW).mp q⟩)]
    · rw [if_neg (fun q => ha ((isPat hW).mp q))]
