/-! what is asked of a tree: is a case used -/
def usD (s : Sg) (a : Int) (n : Nat) : Prop := (s 41 n = 0 ∨ s 41 n = 1) ∧ s 42 n = a
theorem used_m {s : Sg} {a : Int} {N : Nat} (h : s 0 56 = N) (hN : N ≤ 500) : ∀ (d k fu : Nat) (b : Bool), k + d = N → d < fu → (b = true ↔ ∃ n, n < k ∧ usD s a n) → ∃ b', iter (fun z : (Bool × Int) => L_X11_isUsed_49 a s z.1 z.2) fu (b, (k : Int)) = some b' ∧ (b' = true ↔ ∃ n, n < N ∧ usD s a n)
  | 0, k, fu, b, hk, hfu, hb => by
    obtain ⟨fu, rfl⟩ : ∃ z, fu = z + 1 := ⟨fu - 1, by omega⟩
    refine ⟨b, ?_, by rw [show N = k by omega]; exact hb⟩
    refine iter_r (f := fun z : (Bool × Int) => L_X11_isUsed_49 a s z.1 z.2) ?_
    show L_X11_isUsed_49 a s b (k : Int) = _
    unfold L_X11_isUsed_49
    rw [if_pos (by omega)]
  | d + 1, k, fu, b, hk, hfu, hb => by
    obtain ⟨fu, rfl⟩ : ∃ z, fu = z + 1 := ⟨fu - 1, by omega⟩
    have e : ∃ b2, L_X11_isUsed_49 a s b (k : Int) = some (.inl (b2, ((k + 1 : Nat) : Int))) ∧ (b2 = true ↔ b = true ∨ usD s a k) := by
      have hw : wrap ((k : Int) + 1) = ((k + 1 : Nat) : Int) := by
        rw [wrap_id (z := (k : Int) + 1) (by omega) (by omega)]
        rfl
      have r41 : rdn 512 s 41 (k : Int) = some (s 41 k) := by rw [rdn_ok (by omega) (by omega), Int.toNat_natCast]
      have r42 : rdn 512 s 42 (k : Int) = some (s 42 k) := by rw [rdn_ok (by omega) (by omega), Int.toNat_natCast]
      have b94 : B_X11_isUsed_94 (k : Int) s = some (.inl (true, ((k + 1 : Nat) : Int))) := by
        unfold B_X11_isUsed_94 B_X11_isUsed_99
        rw [hw]
      have b98 : B_X11_isUsed_98 (k : Int) s = some (.inl (false, ((k + 1 : Nat) : Int))) := by
        unfold B_X11_isUsed_98 B_X11_isUsed_99
        rw [hw]
      have b83 : (s 41 k = 0 ∨ s 41 k = 1) → b = false → ∃ b2, B_X11_isUsed_83 a (k : Int) s = some (.inl (b2, ((k + 1 : Nat) : Int))) ∧ (b2 = true ↔ b = true ∨ usD s a k) := fun h01 hf => by
        unfold B_X11_isUsed_83
        rw [r42, Option.bind_some, b94, b98, hf]
        by_cases g : s 42 k = a
        · rw [if_pos g]
          exact ⟨true, rfl, fun _ => Or.inr ⟨h01, g⟩, fun _ => rfl⟩
        · rw [if_neg g]
          exact ⟨false, rfl, fun q => (by cases q), fun q => by
            rcases q with q | q
            · cases q
            · exact absurd q.2 g⟩
      unfold L_X11_isUsed_49
      rw [if_neg (by omega), r41, b94, b98]
      cases b with
      | true =>
        rw [if_pos (show true = true from rfl)]
        exact ⟨true, rfl, fun _ => Or.inl rfl, fun _ => rfl⟩
      | false =>
        rw [if_neg (show ¬ false = true by decide), Option.bind_some, Option.bind_some]
        by_cases g0 : s 41 k = 0
        · rw [if_pos g0]
          exact b83 (Or.inl g0) rfl
        · rw [if_neg g0]
          by_cases g1 : s 41 k = 1
          · rw [if_pos g1]
            exact b83 (Or.inr g1) rfl
          · rw [if_neg g1]
            exact ⟨false, rfl, fun q => (by cases q), fun q => by
              rcases q with q | q
              · cases q
              · exact absurd q.1 (by omega)⟩
    obtain ⟨b2, e1, e2⟩ := e
    rw [iter_l (f := fun z : (Bool × Int) => L_X11_isUsed_49 a s z.1 z.2) (a := (b, (k : Int))) e1]
    refine used_m h hN d (k + 1) fu b2 (by omega) (by omega) ?_
    rw [e2, hb]
    constructor
    · rintro (⟨n, n1, n2⟩ | q)
      · exact ⟨n, by omega, n2⟩
      · exact ⟨k, by omega, q⟩
    · rintro ⟨n, n1, n2⟩
      by_cases g : n = k
      · rw [g] at n2
        exact Or.inr n2
      · exact Or.inl ⟨n, by omega, n2⟩
theorem w_isUsed : Op_isUsed RelW := fun σ τ a h _ hs ht => by
  obtain ⟨hW, hF, hM, hV, hWW⟩ := h.wf
  have h8 := hM.2.1
  have hRM := h.1.2.2.2.2.1
  unfold F_X10_isUsed F_X11_isUsed
  rw [bnd_eq]
  by_cases c : 0 ≤ a ∧ a < τ 0 23
  · rw [if_pos ((has4 hRM).mpr c), (isCase_iff hM).mpr c, if_pos (show true = true from rfl)]
    obtain ⟨σ', s', u1, u2, u3, u4, u5, u6⟩ := w_both h ht (e := 2) (t := 43) (m := false) (Or.inl ⟨rfl, rfl, rfl⟩)
    obtain ⟨hWs, hFs, hMs, hVs, hWWs⟩ := u3.wf
    rw [u1, u2, Option.bind_some, Option.bind_some]
    unfold B_X11_isUsed_15
    dsimp only
    rw [if_pos (show true = true from rfl)]
    rcases u5 with ⟨v1, v2, ⟨pf, S, N, B, v3, v4⟩, pf', N', v5⟩ | ⟨v1, v2, v3⟩
    · rw [decide_eq_true v1, if_pos (show true = true from rfl), if_pos v2]
      unfold B_X11_isUsed_36
      rw [refused_0, bnd_eq]
      dsimp only
      rw [if_neg (show ¬ false = true by decide)]
      have e56 : (up2 s' 0 0 0) 0 56 = N' := by rw [up2_idx (by omega)]; exact v5.n56
      obtain ⟨b', b1, b2⟩ := used_m (a := a) e56 v5.n500 N' 0 3000 false (by omega) (by have := v5.n500; omega) ⟨fun q => (by cases q), fun ⟨n, n1, _⟩ => absurd n1 (Nat.not_lt_zero n)⟩
      have b1' : iter (fun z : (Bool × Int) => L_X11_isUsed_49 a (up2 s' 0 0 0) z.1 z.2) 3000 (false, 0) = some b' := b1
      rw [b1', Option.bind_some]
      have hleaf : b' = F_X7_hasLeafOf 43 a σ' := by
        have hl := hasLeaf_k (c := a.toNat) v4.1 (by omega)
        rw [show ((a.toNat : Nat) : Int) = a by omega] at hl
        have hiff : b' = true ↔ F_X7_hasLeafOf 43 a σ' = true := by
          rw [b2, hl]
          have hcell : ∀ n, n < N' → (usD (up2 s' 0 0 0) a n ↔ ((qry s' false (pf' n)).1 = 0 ∨ (qry s' false (pf' n)).1 = 1) ∧ (qry s' false (pf' n)).2.1 = a) := fun n hn => by
            have q := qry_ok hWs hFs hMs hWWs (v5.ap n hn)
            obtain ⟨-, -, -, -, d5, d6, -, -, -, d10⟩ := ask_cells (v5.fin n hn).1 q.1.1
            unfold usD
            rw [up2_row (by omega), up2_row (by omega), d5, d6]
            constructor
            · rintro ⟨z1, z2⟩
              exact ⟨z1, by rw [← d10 (Or.inr z1)]; exact z2⟩
            · rintro ⟨z1, z2⟩
              exact ⟨z1, by rw [d10 (Or.inr z1)]; exact z2⟩
          constructor
          · rintro ⟨n, n1, n2⟩
            obtain ⟨k, k1, k2⟩ := v4.tree.sur _ (v5.ap n n1)
            exact ⟨k, k1, by rw [k2]; exact (hcell n n1).mp n2⟩
          · rintro ⟨n, n1, n2⟩
            obtain ⟨k, k1, k2⟩ := v5.tree.sur _ (v4.1.ap n n1)
            exact ⟨k, k1, (hcell k k1).mpr (by rw [k2]; exact n2)⟩
        cases b' with
        | true => exact (hiff.mp rfl).symm
        | false =>
          cases g : F_X7_hasLeafOf 43 a σ' with
          | false => rfl
          | true => exact absurd (hiff.mpr g) (by decide)
      exact ⟨_, _, rfl, rfl, ⟨show up2 s' 0 0 0 0 0 = 0 from up2_at rfl rfl, hleaf⟩, u3.z⟩
    · rw [decide_eq_false (by omega), if_neg (show ¬ false = true by decide), if_neg (show ¬ s' 0 55 = 0 by omega)]
      unfold B_X11_isUsed_36
      rw [refused_n (by omega), bnd_eq]
      refine ⟨_, _, rfl, rfl, ?_, u3.z (t := 2)⟩
      exact ⟨rfl, by show (1 : Int) ≤ up2 s' 0 0 2 0 0; rw [up2_at rfl rfl]; omega, by show up2 s' 0 0 2 0 0 ≤ 3; rw [up2_at rfl rfl]; omega⟩
  · have e : F_X11_isCase a τ = false := by
      cases g : F_X11_isCase a τ with
      | false => rfl
      | true => exact absurd ((isCase_iff hM).mp g) c
    rw [if_neg (fun q => c ((has4 hRM).mp q)), e, if_neg (show ¬ false = true by decide)]
    unfold B_X11_isUsed_15 B_X11_isUsed_36
    rw [if_neg (show ¬ false = true by decide), refused_n (by omega), bnd_eq]
    refine ⟨_, _, rfl, rfl, ?_, h.z (t := 1)⟩
    exact ⟨rfl, by show (1 : Int) ≤ up2 τ 0 0 1 0 0; rw [up2_at rfl rfl]; omega, by show up2 τ 0 0 1 0 0 ≤ 3; rw [up2_at rfl rfl]; omega⟩
