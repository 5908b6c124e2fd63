/-! the reference's matching: a pattern -/
def toI (q : Nat × Int) : Int × Int := ((q.1 : Int), q.2)
theorem RX.bind {τ s : Sg} {x : XS} {v pl : Int} (h : RX τ x s) (hv : 0 ≤ v ∧ v ≤ 5) : RX τ (bindX x v pl) (up2 s 33 v.toNat pl) := by
  obtain ⟨h1, h2, h3, h4, h5, h6⟩ := h
  refine ⟨h1.up (Or.inl (by omega)), fun i hi => ?_, by rw [up2_row (by omega)]; exact h3, h4, by rw [up2_row (by omega)]; exact h5, rnl_congr (s := s) (fun k k1 k2 => by funext j; rw [up2_row (by omega)]) h6⟩
  unfold bindX
  dsimp only
  by_cases c : i = v.toNat
  · rw [if_pos c, up2_at rfl c]
  · rw [if_neg c, up2_idx c]; exact h2 i hi
theorem isRight_c {τ s : Sg} {p : Nat} {f : Int} (hW : WFP τ) (hp : (p : Int) < τ 0 9) (h : FrR τ s) (hf : 2 ≤ τ 8 p) : F_X11_isRight p f s = some (isR τ p f) := by
  have w2 := hW.2.1
  have e8 := h.row (r := 8) (by omega) (by omega)
  have e9 := h.row (r := 9) (by omega) (by omega)
  have e10 := h.row (r := 10) (by omega) (by omega)
  have hpp : ((p : Int)).toNat = p := by omega
  unfold F_X11_isRight isR
  rw [rdn_ok (by omega) (by omega), Option.bind_some, hpp, e8]
  by_cases c2 : τ 8 p = 2
  · rw [if_pos c2, if_pos c2, rdn_ok (by omega) (by omega), Option.bind_some, rdn_ok (by omega) (by omega), Option.bind_some, hpp, e9, e10]
    congr 1
    by_cases c : τ 9 p ≤ f ∧ f ≤ τ 10 p
    · rw [decide_eq_true c]; exact in_iff.mpr c
    · rw [decide_eq_false c]
      exact Bool.eq_false_iff.mpr (fun q => c (in_iff.mp q))
  · rw [if_neg c2, if_neg c2, Option.bind_some]
    by_cases c3 : τ 8 p = 3
    · rw [if_pos c3, if_pos c3, rdn_ok (by omega) (by omega), Option.bind_some, hpp, e9]
      by_cases c : f = jrem (τ 9 p) 4
      · rw [if_pos c, decide_eq_true c]
      · rw [if_neg c, decide_eq_false c]
    · rw [if_neg c3, if_neg c3]
      unfold F_X11_fitsLength
      rw [rdn_ok (by omega) (by omega), Option.bind_some, hpp, e10]
      by_cases c0 : τ 10 p = 0
      · rw [if_pos c0, if_pos c0, rdn_ok (by omega) (by omega), Option.bind_some, hpp, e9]
        by_cases c : f = τ 9 p
        · rw [if_pos c, decide_eq_true c]; rfl
        · rw [if_neg c, decide_eq_false c]; rfl
      · rw [if_neg c0, if_neg c0, rdn_ok (by omega) (by omega), Option.bind_some, hpp, e9]
        by_cases c : f < τ 9 p
        · rw [if_pos c, decide_eq_false (by omega)]; rfl
        · rw [if_neg c, decide_eq_true (by omega)]; rfl
theorem pp1 {τ s : Sg} {p k : Nat} {pl sk : Int} {S : List (Int × Int)} {C : List (Int × Int × Int)} (hW : WFP τ) (hp : (p : Int) < τ 0 9) (hk : k < 3) (hpl : 0 ≤ pl ∧ pl ≤ 468) (hsk : 0 ≤ sk ∧ sk ≤ 9) (h : FrR τ s) (hs : st s S C) (hl : S.length < 256) : ∃ s', L_X11_pushParts_38 p pl sk k s = some (.inl ((k : Int) - 1, s')) ∧ FrR τ s' ∧ st s' ((if prt τ p k = -1 then [] else [(prt τ p k, 5 * pl + sk + k + 1)]) ++ S) C ∧ ∀ x, RX τ x s → RX τ x s' := by
  have w2 := hW.2.1
  have e11 := h.row (r := 11) (by omega) (by omega)
  have e34 := hs.2.1
  unfold L_X11_pushParts_38 B_X11_pushParts_84
  rw [if_neg (by omega), wrap_id (z := 3 * (p : Int)) (by omega) (by omega), wrap_id (z := 3 * (p : Int) + k) (by omega) (by omega), rdn_ok (by omega) (by omega), Option.bind_some, show (3 * (p : Int) + k).toNat = 3 * p + k by omega, e11]
  show ∃ s', (if prt τ p k = -1 then _ else _) = _ ∧ _
  by_cases c : prt τ p k = -1
  · rw [if_pos c, if_pos c, wrap_id (by omega) (by omega)]
    exact ⟨s, rfl, h, hs, fun x hx => hx⟩
  · rw [if_neg c, if_neg c, Option.bind_some, wrap_id (z := 5 * pl) (by omega) (by omega), wrap_id (z := 5 * pl + sk) (by omega) (by omega), wrap_id (z := 5 * pl + sk + k) (by omega) (by omega), wrap_id (z := 5 * pl + sk + k + 1) (by omega) (by omega), push_c (by omega), Option.bind_some, wrap_id (by omega) (by omega)]
    exact ⟨_, rfl, ((h.up (Or.inl (by omega))).up (Or.inl (by omega))).up (Or.inr (Or.inr ⟨rfl, by decide⟩)), st_pu hs, fun x hx => RX_pu hx⟩
theorem part1_I {τ : Sg} {p k : Nat} {pl f : Int} (hb : -1 ≤ prt τ p k) : (part1 τ p pl f k).map toI = if prt τ p k = -1 then [] else [(prt τ p k, 5 * pl + skipE τ p f + k + 1)] := by
  unfold part1
  by_cases c : prt τ p k = -1
  · rw [if_pos c, if_pos c]; rfl
  · rw [if_neg c, if_neg c]
    show [((((prt τ p k).toNat : Nat) : Int), _)] = _
    rw [show (((prt τ p k).toNat : Nat) : Int) = prt τ p k by omega]
theorem pushParts_c {τ s : Sg} {p : Nat} {pl f : Int} {S : List (Int × Int)} {C : List (Int × Int × Int)} (hW : WFP τ) (hp : (p : Int) < τ 0 9) (hpl : 0 ≤ pl ∧ pl ≤ 468) (hf : 0 ≤ f ∧ f ≤ 9) (hr : isR τ p f = true) (hf6 : 2 ≤ τ 8 p) (h : FrR τ s) (hs : st s S C) (hl : S.length + 3 ≤ 256) : ∃ s', F_X11_pushParts p pl f s = some s' ∧ st s' ((partsL τ p pl f).map toI ++ S) C ∧ ∀ x, RX τ x s → RX τ x s' := by
  have w2 := hW.2.1
  have e8 := h.row (r := 8) (by omega) (by omega)
  have e9 := h.row (r := 9) (by omega) (by omega)
  have e10 := h.row (r := 10) (by omega) (by omega)
  have hpp : ((p : Int)).toNat = p := by omega
  have hsk : 0 ≤ skipE τ p f ∧ skipE τ p f ≤ 9 := by
    unfold skipE
    by_cases c : τ 8 p = 6 ∧ τ 10 p = 2
    · rw [if_pos c]
      unfold isR at hr
      rw [if_neg (by omega), if_neg (by omega), if_neg (by omega)] at hr
      have := of_decide_eq_true hr
      have := (hW.g6 hp c.1).1
      omega
    · rw [if_neg c]; omega
  have body : ∀ sk, sk = skipE τ p f → ∃ s', B_X11_pushParts_33 p pl sk s = some s' ∧ st s' ((partsL τ p pl f).map toI ++ S) C ∧ ∀ x, RX τ x s → RX τ x s' := by
    intro sk hsk2
    subst hsk2
    obtain ⟨s1, a1, a2, a3, a4⟩ := pp1 (k := 2) (sk := skipE τ p f) hW hp (by omega) hpl hsk h hs (by omega)
    have l1 : (((if prt τ p 2 = -1 then [] else [(prt τ p 2, 5 * pl + skipE τ p f + ((2 : Nat) : Int) + 1)]) ++ S) : List (Int × Int)).length ≤ S.length + 1 := by split <;> simp <;> omega
    obtain ⟨s2, b1, b2, b3, b4⟩ := pp1 (k := 1) (sk := skipE τ p f) hW hp (by omega) hpl hsk a2 a3 (by omega)
    have l2 : (((if prt τ p 1 = -1 then [] else [(prt τ p 1, 5 * pl + skipE τ p f + ((1 : Nat) : Int) + 1)]) ++ ((if prt τ p 2 = -1 then [] else [(prt τ p 2, 5 * pl + skipE τ p f + ((2 : Nat) : Int) + 1)]) ++ S)) : List (Int × Int)).length ≤ S.length + 2 := by split <;> simp at l1 ⊢ <;> omega
    obtain ⟨s3, c1, c2, c3, c4⟩ := pp1 (k := 0) (sk := skipE τ p f) hW hp (by omega) hpl hsk b2 b3 (by omega)
    refine ⟨s3, ?_, ?_, fun x hx => c4 x (b4 x (a4 x hx))⟩
    · unfold B_X11_pushParts_33
      have a1' : L_X11_pushParts_38 p pl (skipE τ p f) 2 s = some (.inl (1, s1)) := by rw [show (2 : Int) = ((2 : Nat) : Int) from rfl, a1]; rfl
      have b1' : L_X11_pushParts_38 p pl (skipE τ p f) 1 s1 = some (.inl (0, s2)) := by rw [show (1 : Int) = ((1 : Nat) : Int) from rfl, b1]; rfl
      have c1' : L_X11_pushParts_38 p pl (skipE τ p f) 0 s2 = some (.inl (-1, s3)) := by rw [show (0 : Int) = ((0 : Nat) : Int) from rfl, c1]; rfl
      have r1 : Rch (fun a : (Int × Sg) => L_X11_pushParts_38 p pl (skipE τ p f) a.1 a.2) 3 (2, s) (-1, s3) := Rch.snoc (b := (0, s2)) (Rch.snoc (b := (1, s1)) (Rch.one (a := (2, s)) a1') b1') c1'
      rw [r1.fin (z := s3) (by show L_X11_pushParts_38 p pl (skipE τ p f) (-1) s3 = _; unfold L_X11_pushParts_38; rw [if_pos (by omega)]) (by omega)]
      rfl
    · unfold partsL
      rw [List.map_append, List.map_append, part1_I (hW.pb hp (by omega)).1, part1_I (hW.pb hp (by omega)).1, part1_I (hW.pb hp (by omega)).1, List.append_assoc, List.append_assoc]
      exact c3
  unfold F_X11_pushParts B_X11_pushParts_32
  rw [rdn_ok (by omega) (by omega), Option.bind_some, hpp, e8]
  by_cases c6 : τ 8 p = 6
  · rw [if_pos c6, rdn_ok (by omega) (by omega), Option.bind_some, hpp, e10]
    by_cases c2 : τ 10 p = 2
    · have hb := hW.g6 hp c6
      rw [if_pos c2, rdn_ok (by omega) (by omega), Option.bind_some, hpp, e9, wrap_id (by omega) (by omega)]
      exact body _ (by unfold skipE; rw [if_pos ⟨c6, c2⟩])
    · rw [if_neg c2]
      exact body _ (by unfold skipE; rw [if_neg (fun q => c2 q.2)])
  · rw [if_neg c6]
    exact body _ (by unfold skipE; rw [if_neg (fun q => c6 q.1)])
