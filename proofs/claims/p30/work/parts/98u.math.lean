/-! the places that a case needs, gone through -/
def FrN (τ s : Sg) : Prop := (∀ r, 1 ≤ r → r ≤ 25 → s r = τ r) ∧ (∀ r, 39 ≤ r → r ≤ 46 → s r = τ r) ∧ (∀ r, 28 ≤ r → r ≤ 38 → s r = τ r) ∧ s 27 = τ 27 ∧ ∀ i, i ∉ [67] → s 0 i = τ 0 i
def wkS (s : Sg) : List (Int × Int) → Prop
  | [] => True
  | q :: S => s 26 S.length = q.1 ∧ s 50 S.length = q.2 ∧ wkS s S
theorem wkS_fr {s s' : Sg} (h1 : s' 26 = s 26) (h2 : s' 50 = s 50) : ∀ {S : List (Int × Int)}, wkS s S → wkS s' S
  | [], _ => trivial
  | q :: S, h => ⟨by rw [h1]; exact h.1, by rw [h2]; exact h.2.1, wkS_fr h1 h2 h.2.2⟩
theorem wkS_up {s : Sg} {r i : Nat} {v : Int} : ∀ {S : List (Int × Int)}, wkS s S → S.length ≤ i → wkS (up2 s r i v) S
  | [], _, _ => trivial
  | q :: S, h, hi => by
    simp only [List.length_cons] at hi
    refine ⟨?_, ?_, wkS_up h.2.2 (by omega)⟩
    · by_cases c : r = 26
      · subst c; rw [up2_idx (by omega)]; exact h.1
      · rw [up2_row (by omega)]; exact h.1
    · by_cases c : r = 50
      · subst c; rw [up2_idx (by omega)]; exact h.2.1
      · rw [up2_row (by omega)]; exact h.2.1
theorem FrN.push {τ s : Sg} {r i : Nat} {v : Int} (h : FrN τ s) (hr : r = 26 ∨ r = 50) : FrN τ (up2 s r i v) :=
  ⟨fun k k1 k2 => by rw [← h.1 k k1 k2]; funext j; rw [up2_row (by omega)], fun k k1 k2 => by rw [← h.2.1 k k1 k2]; funext j; rw [up2_row (by omega)], fun k k1 k2 => by rw [← h.2.2.1 k k1 k2]; funext j; rw [up2_row (by omega)], by rw [← h.2.2.2.1]; funext j; rw [up2_row (by omega)], fun k hk => by rw [up2_row (by omega)]; exact h.2.2.2.2 k hk⟩
theorem FrN.need {τ s s' : Sg} (h : FrN τ s) (h1 : ∀ r, ¬ r = 0 → ¬ r = 47 → ¬ r = 48 → ¬ r = 49 → s' r = s r) (h2 : ∀ i, ¬ i = 67 → s' 0 i = s 0 i) : FrN τ s' :=
  ⟨fun k k1 k2 => by rw [h1 k (by omega) (by omega) (by omega) (by omega)]; exact h.1 k k1 k2, fun k k1 k2 => by rw [h1 k (by omega) (by omega) (by omega) (by omega)]; exact h.2.1 k k1 k2, fun k k1 k2 => by rw [h1 k (by omega) (by omega) (by omega) (by omega)]; exact h.2.2.1 k k1 k2, by rw [h1 27 (by omega) (by omega) (by omega) (by omega)]; exact h.2.2.2.1, fun k hk => by rw [h2 k (fun z => hk (by rw [z]; decide))]; exact h.2.2.2.2 k hk⟩
theorem NI.push {s : Sg} {c : Nat} {f : Int → Nat} {D : Int → Prop} {r i : Nat} {v : Int} (h : NI s c f D) (hr : r = 26 ∨ r = 50) : NI (up2 s r i v) c f D :=
  h.fr (by rw [up2_row (by omega)]) (by funext j; rw [up2_row (by omega)]) (by funext j; rw [up2_row (by omega)]) (by funext j; rw [up2_row (by omega)])
/-- the parts of a pattern, as they are kept; e: its own place -/
def pt1 (τ : Sg) (p : Nat) (e : Bool) (pl sk : Int) (k : Nat) : List (Nat × Int) := if prt τ p k = -1 then [] else [((prt τ p k).toNat, if e = true then pl else 5 * pl + sk + k + 1)]
theorem pt1_len {τ : Sg} {p : Nat} {e : Bool} {pl sk : Int} {k : Nat} : (pt1 τ p e pl sk k).length ≤ 1 := by unfold pt1; split <;> simp
theorem pt1_c {τ s : Sg} {p k c : Nat} {x5 pl sk : Int} {S : List (Int × Int)} {f : Int → Nat} {D : Int → Prop} (hW : WFP τ) (hp : (p : Int) < τ 0 9) (hk : k < 3) (hpl : 0 ≤ pl ∧ pl ≤ 468) (hsk : -9 ≤ sk ∧ sk ≤ 9) (h : FrN τ s) (hs : wkS s S) (hN : NI s c f D) (hl : S.length < 256) : ∃ s', L_X11_needsOf_222 p pl x5 true sk S.length k s = some (.inl ((((pt1 τ p (decide (x5 = 1 ∨ x5 = 4)) pl sk k).map toI ++ S).length : Nat), ((k + 1 : Nat) : Int), s')) ∧ FrN τ s' ∧ wkS s' ((pt1 τ p (decide (x5 = 1 ∨ x5 = 4)) pl sk k).map toI ++ S) ∧ NI s' c f D := by
  have w2 := hW.2.1
  have hb := hW.pb hp hk
  have e11 := h.1 11 (by omega) (by omega)
  have hw : wrap ((k : Int) + 1) = ((k + 1 : Nat) : Int) := by rw [wrap_id (z := (k : Int) + 1) (by omega) (by omega)]; omega
  unfold L_X11_needsOf_222 B_X11_needsOf_303 B_X11_needsOf_282 B_X11_needsOf_299
  rw [if_neg (by omega), if_pos rfl, wrap_id (z := 3 * (p : Int)) (by omega) (by omega), wrap_id (z := 3 * (p : Int) + k) (by omega) (by omega), rdn_ok (by omega) (by omega), Option.bind_some, show (3 * (p : Int) + k).toNat = 3 * p + k by omega, e11]
  show ∃ s', (if prt τ p k = -1 then _ else _) = _ ∧ _
  unfold pt1
  by_cases c1 : prt τ p k = -1
  · rw [if_pos c1, if_pos c1, hw]
    exact ⟨s, rfl, h, hs, hN⟩
  · rw [if_neg c1, if_neg c1, Option.bind_some, wrn_ok (by omega) (by omega), Option.bind_some, show ((S.length : Nat) : Int).toNat = S.length by omega]
    have hw2 : wrap ((S.length : Int) + 1) = ((S.length + 1 : Nat) : Int) := by rw [wrap_id (z := (S.length : Int) + 1) (by omega) (by omega)]; omega
    have fin : ∀ q : Int, ∃ s', (B_X11_needsOf_303 (wrap ((S.length : Int) + 1)) k (up2 (up2 s 26 S.length (τ 11 (3 * p + k))) 50 S.length q)) = some (.inl (((([((prt τ p k).toNat, q)] : List (Nat × Int)).map toI ++ S).length : Nat), ((k + 1 : Nat) : Int), s')) ∧ FrN τ s' ∧ wkS s' (([((prt τ p k).toNat, q)] : List (Nat × Int)).map toI ++ S) ∧ NI s' c f D := fun q => by
      refine ⟨_, by unfold B_X11_needsOf_303; rw [hw, hw2]; rfl, (h.push (Or.inl rfl)).push (Or.inr rfl), ⟨?_, by rw [up2_at rfl rfl]; rfl, wkS_up (wkS_up hs (Nat.le_refl _)) (Nat.le_refl _)⟩, (hN.push (Or.inl rfl)).push (Or.inr rfl)⟩
      rw [up2_row (by omega), up2_at rfl rfl]
      show prt τ p k = (((prt τ p k).toNat : Nat) : Int)
      omega
    by_cases c5 : x5 = 1
    · rw [if_pos c5, decide_eq_true (Or.inl c5), if_pos rfl, wrn_ok (by omega) (by omega), Option.bind_some]
      exact fin pl
    · rw [if_neg c5]
      by_cases c4 : x5 = 4
      · rw [if_pos c4, decide_eq_true (Or.inr c4), if_pos rfl, wrn_ok (by omega) (by omega), Option.bind_some]
        exact fin pl
      · rw [if_neg c4, decide_eq_false (by omega), if_neg (by simp), wrap_id (z := 5 * pl) (by omega) (by omega), wrap_id (z := 5 * pl + sk) (by omega) (by omega), wrap_id (z := 5 * pl + sk + k) (by omega) (by omega), wrap_id (z := 5 * pl + sk + k + 1) (by omega) (by omega), wrn_ok (by omega) (by omega), Option.bind_some]
        exact fin _
/-- the parts, kept -/
def ptL (τ : Sg) (p : Nat) (e : Bool) (pl sk : Int) : List (Nat × Int) := pt1 τ p e pl sk 2 ++ (pt1 τ p e pl sk 1 ++ pt1 τ p e pl sk 0)
theorem pt_c {τ s : Sg} {p c : Nat} {x5 pl sk : Int} {S : List (Int × Int)} {f : Int → Nat} {D : Int → Prop} (hW : WFP τ) (hp : (p : Int) < τ 0 9) (hpl : 0 ≤ pl ∧ pl ≤ 468) (hsk : -9 ≤ sk ∧ sk ≤ 9) (h : FrN τ s) (hs : wkS s S) (hN : NI s c f D) (hl : S.length + 3 ≤ 256) : ∃ s', B_X11_needsOf_217 S.length p pl x5 true sk s = some (.inl ((((ptL τ p (decide (x5 = 1 ∨ x5 = 4)) pl sk).map toI ++ S).length : Nat), s')) ∧ FrN τ s' ∧ wkS s' ((ptL τ p (decide (x5 = 1 ∨ x5 = 4)) pl sk).map toI ++ S) ∧ NI s' c f D := by
  obtain ⟨s1, a1, a2, a3, a4⟩ := pt1_c (k := 0) (x5 := x5) hW hp (by omega) hpl hsk h hs hN (by omega)
  have l1 := pt1_len (τ := τ) (p := p) (e := decide (x5 = 1 ∨ x5 = 4)) (pl := pl) (sk := sk) (k := 0)
  obtain ⟨s2, b1, b2, b3, b4⟩ := pt1_c (k := 1) (x5 := x5) hW hp (by omega) hpl hsk a2 a3 a4 (by rw [List.length_append, List.length_map]; omega)
  have l2 := pt1_len (τ := τ) (p := p) (e := decide (x5 = 1 ∨ x5 = 4)) (pl := pl) (sk := sk) (k := 1)
  obtain ⟨s3, c1, c2, c3, c4⟩ := pt1_c (k := 2) (x5 := x5) hW hp (by omega) hpl hsk b2 b3 b4 (by rw [List.length_append, List.length_map, List.length_append, List.length_map]; omega)
  have hL : (ptL τ p (decide (x5 = 1 ∨ x5 = 4)) pl sk).map toI ++ S = (pt1 τ p (decide (x5 = 1 ∨ x5 = 4)) pl sk 2).map toI ++ ((pt1 τ p (decide (x5 = 1 ∨ x5 = 4)) pl sk 1).map toI ++ ((pt1 τ p (decide (x5 = 1 ∨ x5 = 4)) pl sk 0).map toI ++ S)) := by
    unfold ptL
    rw [List.map_append, List.map_append, List.append_assoc, List.append_assoc]
  rw [hL]
  refine ⟨s3, ?_, c2, c3, c4⟩
  generalize (pt1 τ p (decide (x5 = 1 ∨ x5 = 4)) pl sk 2).map toI ++ ((pt1 τ p (decide (x5 = 1 ∨ x5 = 4)) pl sk 1).map toI ++ ((pt1 τ p (decide (x5 = 1 ∨ x5 = 4)) pl sk 0).map toI ++ S)) = S3 at *
  have c1' : L_X11_needsOf_222 p pl x5 true sk _ ((2 : Nat) : Int) s2 = some (.inl ((S3.length : Nat), 3, s3)) := c1
  have r1 : Rch (fun a : (Int × Int × Sg) => L_X11_needsOf_222 p pl x5 true sk a.1 a.2.1 a.2.2) 3 ((S.length : Int), 0, s) ((S3.length : Nat), 3, s3) :=
    Rch.snoc (Rch.snoc (Rch.one (a := ((S.length : Int), 0, s)) a1) b1) c1'
  have hf : L_X11_needsOf_222 p pl x5 true sk (S3.length : Nat) 3 s3 = some (.inr ((S3.length : Nat), s3)) := by
    unfold L_X11_needsOf_222; rw [if_pos (by omega)]
  have r2 := r1.fin (m := 4) hf (by omega)
  unfold B_X11_needsOf_217
  rw [r2]
  rfl
theorem pt_n {s : Sg} {n p pl x5 sk : Int} : B_X11_needsOf_217 n p pl x5 false sk s = some (.inl (n, s)) := by
  unfold B_X11_needsOf_217
  rw [(Rch.nil (f := fun a : (Int × Int × Sg) => L_X11_needsOf_222 p pl x5 false sk a.1 a.2.1 a.2.2) (a := (n, 0, s))).fin (m := 4) (z := (n, s)) (by
    show L_X11_needsOf_222 p pl x5 false sk n 0 s = _
    unfold L_X11_needsOf_222
    rw [if_neg (by omega), if_neg (by simp)]) (by omega)]
  rfl
