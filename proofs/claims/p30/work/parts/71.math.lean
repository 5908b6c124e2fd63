/-! guard -/
def colS (τ : Sg) (c : Nat) : Nat → List (Nat × Int)
  | 0 => []
  | k + 1 => ((cpt τ c k).toNat, τ 19 k) :: colS τ c k
theorem colS_len {τ : Sg} {c : Nat} : ∀ k, (colS τ c k).length = k
  | 0 => rfl
  | k + 1 => by unfold colS; rw [List.length_cons, colS_len k]
theorem col1 {τ s : Sg} {c k : Nat} (hM : WFM τ) (hc : (c : Int) < τ 0 23) (hk : (k : Int) < τ 0 21) (hE : asT τ s) (hS : stk s (colS τ c k)) : ∃ s', L_X11_bindsNumber_11 c k k s = some (.inl ((k : Int) + 1, (k : Int) + 1, s')) ∧ asT τ s' ∧ stk s' (colS τ c (k + 1)) := by
  obtain ⟨w1, w2, w3, w4, w5⟩ := hM
  have hf := ((w5 c hc).1 k (by omega)).1 hk
  have h0 := hE 0 (by decide)
  have h20 := hE 20 (by decide)
  have h19 := hE 19 (by decide)
  have hkk : ((k : Nat) : Int).toNat = k := by omega
  unfold L_X11_bindsNumber_11
  rw [h0, if_neg (by omega), wrap_id (z := 3 * (c : Int)) (by omega) (by omega), wrap_id (z := 3 * (c : Int) + (k : Int)) (by omega) (by omega), rdn_ok (by omega) (by omega), Option.bind_some, show (3 * (c : Int) + (k : Int)).toNat = 3 * c + k by omega, h20, wrn_ok (by omega) (by omega), Option.bind_some, rdn_ok (by omega) (by omega), Option.bind_some, hkk, up2_row (by omega), h19, wrn_ok (by omega) (by omega), Option.bind_some, hkk, wrap_id (by omega) (by omega)]
  refine ⟨_, rfl, (hE.up (Or.inl rfl)).up (Or.inr rfl), ?_, ?_, stk_up (stk_up hS (by rw [colS_len]; exact Nat.le_refl _)) (by rw [colS_len]; exact Nat.le_refl _)⟩
  · show up2 _ 27 k _ 26 (colS τ c k).length = _
    rw [colS_len]
    simp (disch := omega) only [bnd_eq, bind_some', wrap_id, rdn_ok, wrn_ok, wbn_ok, rdD_ok, rdD_out, wrD_ok, wrD_out, up2_at, up2_row, up2_idx, iter_s, itp, itn, isIn_iff, in_iff, ↓reduceIte, reduceCtorEq]
    have := hf.1
    show cpt τ c k = (((cpt τ c k).toNat : Nat) : Int)
    omega
  · show up2 _ 27 k _ 27 (colS τ c k).length = _
    rw [colS_len]
    simp (disch := omega) only [bnd_eq, bind_some', wrap_id, rdn_ok, wrn_ok, wbn_ok, rdD_ok, rdD_out, wrD_ok, wrD_out, up2_at, up2_row, up2_idx, iter_s, itp, itn, isIn_iff, in_iff, ↓reduceIte, reduceCtorEq]
theorem cols_c {τ : Sg} {c : Nat} (hM : WFM τ) (hc : (c : Int) < τ 0 23) : ∀ (d k : Nat) (s : Sg), (k : Int) + d = τ 0 21 → asT τ s → stk s (colS τ c k) → ∃ s', iter (fun a : (Int × Int × Sg) => L_X11_bindsNumber_11 c a.1 a.2.1 a.2.2) (d + 1) ((k : Int), (k : Int), s) = some (τ 0 21, s') ∧ asT τ s' ∧ stk s' (colS τ c (τ 0 21).toNat)
  | 0, k, s, h, hE, hS => by
    refine ⟨s, ?_, hE, ?_⟩
    · rw [iter_r (f := fun a : (Int × Int × Sg) => L_X11_bindsNumber_11 c a.1 a.2.1 a.2.2) (a := ((k : Int), (k : Int), s)) (b := ((k : Int), s)) (by
        show L_X11_bindsNumber_11 c k k s = _
        unfold L_X11_bindsNumber_11
        rw [hE 0 (by decide), if_pos (by omega)])]
      rw [show (k : Int) = τ 0 21 by omega]
    · rw [show (τ 0 21).toNat = k by omega]; exact hS
  | d + 1, k, s, h, hE, hS => by
    obtain ⟨s1, e1, E1, S1⟩ := col1 hM hc (by omega) hE hS
    obtain ⟨s', g1, g2, g3⟩ := cols_c hM hc d (k + 1) s1 (by omega) E1 S1
    refine ⟨s', ?_, g2, g3⟩
    rw [iter_l (f := fun a : (Int × Int × Sg) => L_X11_bindsNumber_11 c a.1 a.2.1 a.2.2) (a := ((k : Int), (k : Int), s)) (a' := ((k : Int) + 1, (k : Int) + 1, s1)) e1]
    exact g1
theorem fl_col {τ : Sg} {c : Nat} {nm : Int} (h : 0 ≤ τ 0 21 ∧ τ 0 21 ≤ 3) : fl1 τ nm (colS τ c (τ 0 21).toNat) = (bnC τ c nm).1 ∧ fl2 τ nm (colS τ c (τ 0 21).toNat) = (bnC τ c nm).2 := by
  unfold bnC fl1 fl2
  have : τ 0 21 = 0 ∨ τ 0 21 = 1 ∨ τ 0 21 = 2 ∨ τ 0 21 = 3 := by omega
  rcases this with e | e | e | e <;> rw [e]
  · exact ⟨rfl, rfl⟩
  · constructor
    · show ((bnS τ nm 61 (cpt τ c 0).toNat (τ 19 0)).1 || false) = (((bnS τ nm 61 (cpt τ c 0).toNat (τ 19 0)).1 || false) || false)
      simp
    · show ((bnS τ nm 61 (cpt τ c 0).toNat (τ 19 0)).2 && true) = (((bnS τ nm 61 (cpt τ c 0).toNat (τ 19 0)).2 && true) && true)
      simp
  · constructor
    · show ((bnS τ nm 61 (cpt τ c 1).toNat (τ 19 1)).1 || ((bnS τ nm 61 (cpt τ c 0).toNat (τ 19 0)).1 || false)) = (((bnS τ nm 61 (cpt τ c 0).toNat (τ 19 0)).1 || (bnS τ nm 61 (cpt τ c 1).toNat (τ 19 1)).1) || false)
      simp [Bool.or_comm]
    · show ((bnS τ nm 61 (cpt τ c 1).toNat (τ 19 1)).2 && ((bnS τ nm 61 (cpt τ c 0).toNat (τ 19 0)).2 && true)) = (((bnS τ nm 61 (cpt τ c 0).toNat (τ 19 0)).2 && (bnS τ nm 61 (cpt τ c 1).toNat (τ 19 1)).2) && true)
      simp [Bool.and_comm]
  · constructor
    · show ((bnS τ nm 61 (cpt τ c 2).toNat (τ 19 2)).1 || ((bnS τ nm 61 (cpt τ c 1).toNat (τ 19 1)).1 || ((bnS τ nm 61 (cpt τ c 0).toNat (τ 19 0)).1 || false))) = (((bnS τ nm 61 (cpt τ c 0).toNat (τ 19 0)).1 || (bnS τ nm 61 (cpt τ c 1).toNat (τ 19 1)).1) || (bnS τ nm 61 (cpt τ c 2).toNat (τ 19 2)).1)
      generalize (bnS τ nm 61 (cpt τ c 2).toNat (τ 19 2)).1 = u
      generalize (bnS τ nm 61 (cpt τ c 1).toNat (τ 19 1)).1 = v
      generalize (bnS τ nm 61 (cpt τ c 0).toNat (τ 19 0)).1 = w
      cases u <;> cases v <;> cases w <;> rfl
    · show ((bnS τ nm 61 (cpt τ c 2).toNat (τ 19 2)).2 && ((bnS τ nm 61 (cpt τ c 1).toNat (τ 19 1)).2 && ((bnS τ nm 61 (cpt τ c 0).toNat (τ 19 0)).2 && true))) = (((bnS τ nm 61 (cpt τ c 0).toNat (τ 19 0)).2 && (bnS τ nm 61 (cpt τ c 1).toNat (τ 19 1)).2) && (bnS τ nm 61 (cpt τ c 2).toNat (τ 19 2)).2)
      generalize (bnS τ nm 61 (cpt τ c 2).toNat (τ 19 2)).2 = u
      generalize (bnS τ nm 61 (cpt τ c 1).toNat (τ 19 1)).2 = v
      generalize (bnS τ nm 61 (cpt τ c 0).toNat (τ 19 0)).2 = w
      cases u <;> cases v <;> cases w <;> rfl
theorem colS_ok {τ : Sg} {c : Nat} (hW : WFP τ) (hM : WFM τ) (hc : (c : Int) < τ 0 23) : ∀ k : Nat, (k : Int) ≤ τ 0 21 → okS τ (colS τ c k) ∧ szS τ (colS τ c k) ≤ 40 * k
  | 0, _ => ⟨(fun q hq => by cases hq), by unfold szS colS; simp⟩
  | k + 1, hk => by
    obtain ⟨i1, i2⟩ := colS_ok hW hM hc k (by omega)
    obtain ⟨w1, w2, w3, w4, w5⟩ := hM
    have hf := ((w5 c hc).1 k (by omega)).1 (by omega)
    have hv : (((cpt τ c k).toNat : Nat) : Int) < τ 0 9 := by have := hf.1; have := hf.2.1; omega
    refine ⟨fun q hq => ?_, ?_⟩
    · unfold colS at hq
      rcases List.mem_cons.mp hq with rfl | hq
      · exact hv
      · exact i1 q hq
    · have := szo_b hW (cpt τ c k).toNat hv
      unfold szS at i2 ⊢
      unfold colS
      rw [List.map_cons, List.sum_cons]
      push_cast
      omega
theorem bindsM {τ : Sg} {c : Nat} {nm : Int} (hW : WFP τ) (hF : WFK (τ 1) (τ 2) (τ 3)) (hM : WFM τ) (hc : (c : Int) < τ 0 23) : ∃ s', F_X11_bindsNumber c nm τ = some ((bnC τ c nm).1 && (bnC τ c nm).2, s') ∧ asT τ s' := by
  have hcol := hM.1
  obtain ⟨k, hk⟩ : ∃ k : Nat, τ 0 21 = k := ⟨(τ 0 21).toNat, by omega⟩
  obtain ⟨s1, e1, E1, S1⟩ := cols_c hM hc k 0 τ (by omega) (fun _ _ => rfl) trivial
  obtain ⟨o1, o2⟩ := colS_ok hW hM hc (τ 0 21).toNat (by omega)
  have hl : ((colS τ c (τ 0 21).toNat).length : Int) = τ 0 21 := by rw [colS_len]; omega
  obtain ⟨s2, e2, E2⟩ := stack_c (nm := nm) hW hF 3000 (colS τ c (τ 0 21).toNat) false true s1 E1 S1 o1 (by omega) (by omega)
  have e1' := iter_mono e1 (show k + 1 ≤ 3000 by omega)
  obtain ⟨g1, g2⟩ := fl_col (c := c) (nm := nm) hcol
  refine ⟨s2, ?_, E2⟩
  unfold F_X11_bindsNumber
  rw [show (((0 : Nat) : Int), ((0 : Nat) : Int), τ) = ((0 : Int), (0 : Int), τ) from rfl] at e1'
  rw [e1', Option.bind_some]
  dsimp only
  rw [hl] at e2
  rw [e2, Option.bind_some, g1, g2]
  dsimp only
  cases (bnC τ c nm).1 <;> cases (bnC τ c nm).2 <;> rfl
theorem it_bn {f : Bool × Int → Option ((Bool × Int) ⊕ (Bool ⊕ Bool))} {G O : Nat → Bool} {n : Int} (hn : 0 ≤ n ∧ n ≤ 3) (hs : ∀ (k : Nat) (x : Bool), (k : Int) < n → f (x, (k : Int)) = if G k = true then some (.inl (x || O k, (k : Int) + 1)) else some (.inr (.inr false))) (he : ∀ x, f (x, n) = some (.inr (.inl x))) : ∃ z, iter f 3000 (false, 0) = some z ∧ Sum.elim (fun a => some a) (fun a => some a) z = some (((if n ≤ ((0 : Nat) : Int) then false else O 0) || (if n ≤ ((1 : Nat) : Int) then false else O 1) || (if n ≤ ((2 : Nat) : Int) then false else O 2)) && ((if n ≤ ((0 : Nat) : Int) then true else G 0) && (if n ≤ ((1 : Nat) : Int) then true else G 1) && (if n ≤ ((2 : Nat) : Int) then true else G 2))) := by
  have hc : n = 0 ∨ n = 1 ∨ n = 2 ∨ n = 3 := by omega
  have s0 := fun x => hs 0 x
  have s1 := fun x => hs 1 x
  have s2 := fun x => hs 2 x
  rcases hc with rfl | rfl | rfl | rfl
  · exact ⟨_, iter_r (he false), by simp⟩
  · cases g0 : G 0 with
    | false =>
      have := s0 false (by decide); rw [g0, if_neg (by simp)] at this
      exact ⟨_, iter_r this, by simp [g0]⟩
    | true =>
      have := s0 false (by decide); rw [g0, if_pos rfl] at this
      exact ⟨_, (iter_l this).trans (iter_r (he _)), by simp [g0]⟩
  · cases g0 : G 0 with
    | false =>
      have := s0 false (by decide); rw [g0, if_neg (by simp)] at this
      exact ⟨_, iter_r this, by simp [g0]⟩
    | true =>
      have h0 := s0 false (by decide); rw [g0, if_pos rfl] at h0
      cases g1 : G 1 with
      | false =>
        have h1 := s1 (false || O 0) (by decide); rw [g1, if_neg (by simp)] at h1
        exact ⟨_, (iter_l h0).trans (iter_r h1), by simp [g0, g1]⟩
      | true =>
        have h1 := s1 (false || O 0) (by decide); rw [g1, if_pos rfl] at h1
        exact ⟨_, (iter_l h0).trans ((iter_l h1).trans (iter_r (he _))), by simp [g0, g1]⟩
  · cases g0 : G 0 with
    | false =>
      have := s0 false (by decide); rw [g0, if_neg (by simp)] at this
      exact ⟨_, iter_r this, by simp [g0]⟩
    | true =>
      have h0 := s0 false (by decide); rw [g0, if_pos rfl] at h0
      cases g1 : G 1 with
      | false =>
        have h1 := s1 (false || O 0) (by decide); rw [g1, if_neg (by simp)] at h1
        exact ⟨_, (iter_l h0).trans (iter_r h1), by simp [g0, g1]⟩
      | true =>
        have h1 := s1 (false || O 0) (by decide); rw [g1, if_pos rfl] at h1
        cases g2 : G 2 with
        | false =>
          have h2 := s2 (false || O 0 || O 1) (by decide); rw [g2, if_neg (by simp)] at h2
          exact ⟨_, (iter_l h0).trans ((iter_l h1).trans (iter_r h2)), by simp [g0, g1, g2]⟩
        | true =>
          have h2 := s2 (false || O 0 || O 1) (by decide); rw [g2, if_pos rfl] at h2
          exact ⟨_, (iter_l h0).trans ((iter_l h1).trans ((iter_l h2).trans (iter_r (he _)))), by simp [g0, g1, g2]⟩
theorem bindsC {σ τ : Sg} {c : Nat} {nm : Int} (hk : RK σ τ) (h : RP σ τ) (hM : RM σ τ) (hc : (c : Int) < τ 0 23) (hn : 0 ≤ nm ∧ nm ≤ 5) : F_X10_bindsNumber c nm σ = some ((bnC τ c nm).1 && (bnC τ c nm).2) := by
  have hW := h.2.1
  obtain ⟨h1, h2, h3, h4, h5⟩ := id hM
  obtain ⟨w1, w2, w3, w4, w5⟩ := id h4
  have hcols : F_X4_columns σ = τ 0 21 := h1
  have step : ∀ (k : Nat) (x : Bool), (k : Int) < τ 0 21 → L_X10_bindsNumber_5 c nm σ x k = if (bnS τ nm 61 (cpt τ c k).toNat (τ 19 k)).2 = true then some (.inl (x || (bnS τ nm 61 (cpt τ c k).toNat (τ 19 k)).1, (k : Int) + 1)) else some (.inr (.inr false)) := by
    intro k x hkc
    have hf := ((w5 c hc).1 k (by omega)).1 hkc
    have hg : F_X4_get c k σ = cpt τ c k := by
      rw [get4 hM (by omega) (by omega), show ((c : Int)).toNat = c by omega, show ((k : Int)).toNat = k by omega]
      exact (h5 c hc).1 k (by omega)
    have hki : F_X4_kindOf k σ = τ 19 k := by
      unfold F_X4_kindOf
      rw [rdD_ok (by omega) (by omega), show ((k : Int)).toNat = k by omega]
      exact h3 k (by omega)
    obtain ⟨p, hp⟩ : ∃ p : Nat, cpt τ c k = p := ⟨(cpt τ c k).toNat, by have := hf.1; omega⟩
    have hpl : pl τ (cpt τ c k) := ⟨hf.1, hf.2.1⟩
    have hp9 : (p : Int) < τ 0 9 := by have := hf.2.1; omega
    have hty := hf.2.2
    have hw2 := hW.2.1
    have hsz := szo_b hW p hp9
    have hb := binds5 (nm := nm) h hpl hn
    have ho := occ_iff hW hn p hp9 61 (τ 19 k) (by omega)
    unfold hasN at hb
    rw [hp] at hg hb hty ⊢
    rw [show ((p : Int)).toNat = p by omega] at hb hty ⊢
    have hbo := bo_c hk h hn 50 p (τ 19 k) 0 61 hp9 (by omega) (by omega) (by omega) (by omega) (fun _ => hty)
    have h51 : ∀ y : Bool, B_X10_bindsNumber_51 nm k p y σ = if (bnS τ nm 61 p (τ 19 k)).2 = true then some (.inl (y, (k : Int) + 1)) else some (.inr (.inr false)) := by
      intro y
      unfold B_X10_bindsNumber_51
      rw [hki, hbo, Option.bind_some]
      cases (bnS τ nm 61 p (τ 19 k)).2 with
      | true => simp; exact wrap_id (by omega) (by omega)
      | false => simp
    unfold L_X10_bindsNumber_5 B_X10_bindsNumber_46
    rw [hcols, if_neg (by omega), bnd_eq, hg, ho]
    cases x with
    | true => rw [if_pos rfl, h51]; rfl
    | false =>
      rw [if_neg (by simp)]
      by_cases q : (τ 15 p).toNat.testBit nm.toNat = true
      · rw [if_pos (hb.mpr q), h51, q]; rfl
      · rw [if_neg (fun z => q (hb.mp z)), h51]
        have : (τ 15 p).toNat.testBit nm.toNat = false := by simpa using q
        rw [this]; rfl
  have fin : ∀ (x : Bool), L_X10_bindsNumber_5 c nm σ x (τ 0 21) = some (.inr (.inl x)) := by
    intro x
    unfold L_X10_bindsNumber_5
    rw [hcols, if_pos (Int.le_refl _)]
  obtain ⟨z, z1, z2⟩ := it_bn (f := fun a : (Bool × Int) => L_X10_bindsNumber_5 c nm σ a.1 a.2) (G := fun k => (bnS τ nm 61 (cpt τ c k).toNat (τ 19 k)).2) (O := fun k => (bnS τ nm 61 (cpt τ c k).toNat (τ 19 k)).1) (n := τ 0 21) w1 step fin
  unfold F_X10_bindsNumber
  rw [z1, Option.bind_some, z2]
  unfold bnC
  congr 1
  have hp : ∀ k : Nat, (if τ 0 21 ≤ k then (false, true) else bnS τ nm 61 (cpt τ c k).toNat (τ 19 k)).1 = (if τ 0 21 ≤ k then false else (bnS τ nm 61 (cpt τ c k).toNat (τ 19 k)).1) ∧ (if τ 0 21 ≤ k then (false, true) else bnS τ nm 61 (cpt τ c k).toNat (τ 19 k)).2 = (if τ 0 21 ≤ k then true else (bnS τ nm 61 (cpt τ c k).toNat (τ 19 k)).2) := by
    intro k
    split <;> exact ⟨rfl, rfl⟩
  dsimp only
  rw [(hp 0).1, (hp 1).1, (hp 2).1, (hp 0).2, (hp 1).2, (hp 2).2]
