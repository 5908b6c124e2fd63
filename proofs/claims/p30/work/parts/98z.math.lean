/-! nodes of the reference's tree -/
def ndS (s : Sg) (N : Nat) (a b c d : Int) : Sg := up2 (up2 (up2 (up2 (up2 (up2 (up2 s 40 N a) 41 N b) 42 N c) 43 N d) 44 N N) 45 N 0) 0 56 (N + 1)
theorem node_c {s : Sg} {N : Nat} {a b c d : Int} (h : s 0 56 = N) (hN : N < 512) : F_X11_node a b c d s = some ((N : Int), ndS s N a b c d) := by
  have e : ∀ (r i : Nat) (v : Int) (t : Sg), ¬ r = 0 → t 0 56 = N → (up2 t r i v) 0 56 = N := fun r i v t hr ht => by rw [up2_row (by omega)]; exact ht
  have hn : ((N : Nat) : Int).toNat = N := by omega
  unfold F_X11_node
  have h1 := e 40 N a s (by omega) h
  have h2 := e 41 N b _ (by omega) h1
  have h3 := e 42 N c _ (by omega) h2
  have h4 := e 43 N d _ (by omega) h3
  have h5 := e 44 N N _ (by omega) h4
  have h6 := e 45 N 0 _ (by omega) h5
  rw [h, wrn_ok (by omega) (by omega), Option.bind_some, hn, h1, wrn_ok (by omega) (by omega), Option.bind_some, hn, h2, wrn_ok (by omega) (by omega), Option.bind_some, hn, h3, wrn_ok (by omega) (by omega), Option.bind_some, hn, h4, wrn_ok (by omega) (by omega), Option.bind_some, hn, h5, wrn_ok (by omega) (by omega), Option.bind_some, hn, h6, bnd_eq, up2_at rfl rfl, wrap_id (z := (N : Int) + 1) (by omega) (by omega), wrap_id (by omega) (by omega), show (N : Int) + 1 - 1 = N by omega]
  rfl
theorem ndS_o {s : Sg} {N r i : Nat} {a b c d : Int} (h : ¬ (40 ≤ r ∧ r ≤ 45 ∧ i = N)) (h0 : ¬ (r = 0 ∧ i = 56)) : ndS s N a b c d r i = s r i := by
  unfold ndS up2
  rw [if_neg h0, if_neg (by omega), if_neg (by omega), if_neg (by omega), if_neg (by omega), if_neg (by omega), if_neg (by omega)]
theorem ndS_at {s : Sg} {N : Nat} {a b c d : Int} : ndS s N a b c d 40 N = a ∧ ndS s N a b c d 41 N = b ∧ ndS s N a b c d 42 N = c ∧ ndS s N a b c d 43 N = d ∧ ndS s N a b c d 44 N = N ∧ ndS s N a b c d 45 N = 0 ∧ ndS s N a b c d 0 56 = N + 1 := by
  unfold ndS
  refine ⟨?_, ?_, ?_, ?_, ?_, ?_, ?_⟩
  · rw [up2_row (by omega), up2_row (by omega), up2_row (by omega), up2_row (by omega), up2_row (by omega), up2_row (by omega), up2_at rfl rfl]
  · rw [up2_row (by omega), up2_row (by omega), up2_row (by omega), up2_row (by omega), up2_row (by omega), up2_at rfl rfl]
  · rw [up2_row (by omega), up2_row (by omega), up2_row (by omega), up2_row (by omega), up2_at rfl rfl]
  · rw [up2_row (by omega), up2_row (by omega), up2_row (by omega), up2_at rfl rfl]
  · rw [up2_row (by omega), up2_row (by omega), up2_at rfl rfl]
  · rw [up2_row (by omega), up2_at rfl rfl]
  · rw [up2_at rfl rfl]
/-- what a new node asks at first -/
def chA (x7 g : Int) (j : Nat) : Int := if x7 = 3 then (if j = 0 then 0 else if g = 3 then 1 else -9) else -9
/-- nodes below k, new from N on -/
def ChS (s s' : Sg) (N k : Nat) (c x7 : Int) (j : Nat) : Prop := s' 0 56 = ((N + j : Nat) : Int) ∧ (∀ i : Nat, i < j → s' 40 (N + i) = k ∧ s' 41 (N + i) = chA x7 (s 22 c.toNat) i ∧ s' 42 (N + i) = c ∧ s' 43 (N + i) = 0 ∧ s' 44 (N + i) = ((N + i : Nat) : Int) ∧ s' 45 (N + i) = 0) ∧ ∀ r i, ¬ (40 ≤ r ∧ r ≤ 45 ∧ N ≤ i ∧ i < N + j) → ¬ (r = 0 ∧ i = 56) → s' r i = s r i
theorem chs_c {s : Sg} {N k many : Nat} {c x7 : Int} (h : s 0 56 = N) (hN : N + many ≤ 500) (hc : 0 ≤ c ∧ c < 8) : ∀ j : Nat, j ≤ many → ∃ s', Rch (fun a : (Int × Sg) => L_X11_lay_311 k c many x7 a.1 a.2) j (0, s) ((j : Int), s') ∧ ChS s s' N k c x7 j
  | 0, _ => ⟨s, Rch.nil, by rw [h]; rfl, fun i hi => by omega, fun r i _ _ => rfl⟩
  | j + 1, hj => by
    obtain ⟨s1, a1, a2, a3, a4⟩ := chs_c h hN hc j (by omega)
    have hw : wrap ((j : Int) + 1) = ((j + 1 : Nat) : Int) := by rw [wrap_id (z := (j : Int) + 1) (by omega) (by omega)]; omega
    have e22 : s1 22 = s 22 := funext fun i => a4 22 i (by omega) (by omega)
    have hnode := node_c (a := (k : Int)) (b := chA x7 (s 22 c.toNat) j) (c := c) (d := 0) a2 (by omega)
    have hstep : L_X11_lay_311 k c many x7 j s1 = some (.inl (((j + 1 : Nat) : Int), ndS s1 (N + j) k (chA x7 (s 22 c.toNat) j) c 0)) := by
      have b368 : ∀ y, y = chA x7 (s 22 c.toNat) j → B_X11_lay_368 c j y k s1 = some (.inl (((j + 1 : Nat) : Int), ndS s1 (N + j) k (chA x7 (s 22 c.toNat) j) c 0)) := fun y hy => by
        unfold B_X11_lay_368
        rw [hy, hnode, Option.bind_some, hw]
      clear hnode
      unfold L_X11_lay_311 B_X11_lay_339 B_X11_lay_343 B_X11_lay_344
      rw [if_neg (by omega)]
      by_cases c3 : x7 = 3
      · rw [if_pos c3]
        by_cases j0 : j = 0
        · rw [if_pos (show (j : Int) = 0 by omega), if_pos rfl, if_pos (show (j : Int) = 0 by omega)]
          exact b368 0 (by unfold chA; rw [if_pos c3, if_pos j0])
        · rw [if_neg (show ¬ (j : Int) = 0 by omega), rdn_ok (by omega) (by omega), Option.bind_some, e22]
          by_cases g3 : s 22 c.toNat = 3
          · rw [if_pos g3, if_pos rfl, if_neg (show ¬ (j : Int) = 0 by omega)]
            exact b368 1 (by unfold chA; rw [if_pos c3, if_neg j0, if_pos g3])
          · rw [if_neg g3, if_neg (by simp)]
            exact b368 (-9) (by unfold chA; rw [if_pos c3, if_neg j0, if_neg g3])
      · rw [if_neg c3, if_neg (by simp)]
        exact b368 (-9) (by unfold chA; rw [if_neg c3])
    obtain ⟨n1, n2, n3, n4, n5, n6, n7⟩ := ndS_at (s := s1) (N := N + j) (a := (k : Int)) (b := chA x7 (s 22 c.toNat) j) (c := c) (d := 0)
    refine ⟨_, a1.snoc (f := fun a : (Int × Sg) => L_X11_lay_311 k c many x7 a.1 a.2) hstep, by rw [n7]; omega, fun i hi => ?_, fun r i hr h0 => ?_⟩
    · by_cases g : i = j
      · subst g
        exact ⟨n1, n2, n3, n4, n5, n6⟩
      · have o : ∀ r, 40 ≤ r → r ≤ 45 → ndS s1 (N + j) k (chA x7 (s 22 c.toNat) j) c 0 r (N + i) = s1 r (N + i) := fun r r1 r2 => ndS_o (by omega) (by omega)
        rw [o 40 (by omega) (by omega), o 41 (by omega) (by omega), o 42 (by omega) (by omega), o 43 (by omega) (by omega), o 44 (by omega) (by omega), o 45 (by omega) (by omega)]
        exact a3 i (by omega)
    · rw [ndS_o (by omega) h0]
      exact a4 r i (by omega) h0
theorem lay267_c {s : Sg} {N k many : Nat} {c x7 : Int} (h : s 0 56 = N) (hN : N ≤ 500) (hk : k < N) (hm : many ≤ 10) (hc : 0 ≤ c ∧ c < 8) : (N + many ≤ 500 ∧ ∃ s', B_X11_lay_267 k c many x7 s = some (true, s') ∧ ChS (up2 (up2 (up2 s 41 k x7) 44 k N) 45 k many) s' N k c x7 many) ∨ (500 < N + many ∧ B_X11_lay_267 k c many x7 s = some (false, up2 s 41 k x7)) := by
  have hkk : ((k : Nat) : Int).toNat = k := by omega
  have e1 : (up2 s 41 k x7) 0 56 = N := by rw [up2_row (by omega)]; exact h
  by_cases g : N + many ≤ 500
  · refine Or.inl ⟨g, ?_⟩
    have e2 : (up2 (up2 (up2 s 41 k x7) 44 k N) 45 k many) 0 56 = N := by rw [up2_row (by omega), up2_row (by omega)]; exact e1
    obtain ⟨s', a1, a2⟩ := chs_c (k := k) (x7 := x7) (c := c) e2 g hc many (Nat.le_refl _)
    refine ⟨s', ?_, a2⟩
    have hf : L_X11_lay_311 k c many x7 many s' = some (.inr s') := by unfold L_X11_lay_311; rw [if_pos (by omega)]
    have r := a1.fin (m := 3000) hf (by omega)
    unfold B_X11_lay_267
    rw [wrn_ok (by omega) (by omega), Option.bind_some, hkk, e1, wrap_id (by omega) (by omega), if_pos (by omega), wrn_ok (by omega) (by omega), Option.bind_some, hkk, wrn_ok (by omega) (by omega), Option.bind_some, hkk, r, Option.bind_some]
  · refine Or.inr ⟨by omega, ?_⟩
    unfold B_X11_lay_267
    rw [wrn_ok (by omega) (by omega), Option.bind_some, hkk, e1, wrap_id (by omega) (by omega), if_neg (by omega)]
