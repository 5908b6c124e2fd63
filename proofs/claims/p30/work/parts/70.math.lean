/-! what binds a name: the reference's way -/
theorem b6a : ∀ x o a b c f : Bool, ((x || o) || (c || (b || (a || f)))) = (x || ((o || a || b || c) || f)) := by decide
theorem b6b : ∀ y o a b c f : Bool, ((y && o) && (c && (b && (a && f)))) = (y && ((o && a && b && c) && f)) := by decide
theorem bnS_fuel {τ : Sg} {nm : Int} (hW : WFP τ) : ∀ (p : Nat), (p : Int) < τ 0 9 → ∀ (N M : Nat) (kd : Int), p < N → p < M → bnS τ nm N p kd = bnS τ nm M p kd := by
  intro p
  induction p using Nat.strongRecOn with
  | _ p ih =>
    intro hp N M kd hN hM
    obtain ⟨N, rfl⟩ : ∃ x, N = x + 1 := ⟨N - 1, by omega⟩
    obtain ⟨M, rfl⟩ : ∃ x, M = x + 1 := ⟨M - 1, by omega⟩
    have sub : ∀ k : Nat, k < 3 → bnSub τ nm N p kd k = bnSub τ nm M p kd k := by
      intro k hk
      unfold bnSub
      by_cases e : prt τ p k = -1
      · rw [if_pos e, if_pos e]
      · rw [if_neg e, if_neg e]
        have hb := sz_part hW hp hk e
        exact ih (prt τ p k).toNat (by omega) (by omega) N M _ (by omega) (by omega)
    rw [bnS_s, bnS_s, sub 0 (by omega), sub 1 (by omega), sub 2 (by omega)]
/-- the stack, from its top -/
def stk (s : Sg) : List (Nat × Int) → Prop
  | [] => True
  | q :: S => s 26 S.length = q.1 ∧ s 27 S.length = q.2 ∧ stk s S
theorem stk_up {s : Sg} {r i : Nat} {v : Int} : ∀ {S : List (Nat × Int)}, stk s S → S.length ≤ i → stk (up2 s r i v) S
  | [], _, _ => trivial
  | q :: S, h, hi => by
    simp only [List.length_cons] at hi
    exact ⟨by rw [up2_idx (by omega)]; exact h.1, by rw [up2_idx (by omega)]; exact h.2.1, stk_up h.2.2 (by omega)⟩
/-- as τ, but for the stack -/
def asT (τ s : Sg) : Prop := ∀ r, r ∉ [26, 27] → s r = τ r
theorem asT.up {τ s : Sg} {r i : Nat} {v : Int} (h : asT τ s) (hr : r = 26 ∨ r = 27) : asT τ (up2 s r i v) := fun k hk => by
  rw [← h k hk]
  simp only [List.mem_cons, List.not_mem_nil, or_false, not_or] at hk
  funext j; rw [up2_row (by omega)]
def pushK (τ : Sg) (p : Nat) (kd : Int) (k : Nat) (S : List (Nat × Int)) : List (Nat × Int) := if prt τ p k = -1 then S else ((prt τ p k).toNat, pkd τ p kd k) :: S
theorem in1 {τ s : Sg} {p : Nat} {kd : Int} {k : Nat} {S : List (Nat × Int)} (hW : WFP τ) (hF : WFK (τ 1) (τ 2) (τ 3)) (hp : (p : Int) < τ 0 9) (hk : k < 3) (hE : asT τ s) (hS : stk s S) (hl : S.length < 256) : ∃ s', L_X11_bindsNumber_154 p kd S.length k s = some (.inl (((pushK τ p kd k S).length : Int), (k : Int) + 1, s')) ∧ asT τ s' ∧ stk s' (pushK τ p kd k S) := by
  have w2 := hW.2.1
  have h8 := hE 8 (by decide)
  have h9 := hE 9 (by decide)
  have h3 := hE 3 (by decide)
  have h11 := hE 11 (by decide)
  have hpp : ((p : Int)).toNat = p := by omega
  have hll : ((S.length : Nat) : Int).toNat = S.length := by omega
  unfold L_X11_bindsNumber_154 pushK
  rw [if_neg (by omega), wrap_id (z := 3 * (p : Int)) (by omega) (by omega), wrap_id (by omega) (by omega), rdn_ok (by omega) (by omega), Option.bind_some, show (3 * (p : Int) + (k : Int)).toNat = 3 * p + k by omega, h11]
  show ∃ s', (if prt τ p k = -1 then _ else _) = _ ∧ _
  by_cases e : prt τ p k = -1
  · rw [if_pos e]
    unfold B_X11_bindsNumber_246
    rw [wrap_id (by omega) (by omega), if_pos e]
    exact ⟨s, rfl, hE, hS⟩
  · obtain ⟨hb1, hb2, -⟩ := sz_part hW hp hk e
    have hq : (((prt τ p k).toNat : Nat) : Int) = prt τ p k := by omega
    rw [if_neg e, wrn_ok (by omega) (by omega), Option.bind_some, hll, rdn_ok (by omega) (by omega), Option.bind_some, hpp, up2_row (by omega), h8, if_neg e]
    have fin : ∀ v : Int, v = pkd τ p kd k → ∃ s', B_X11_bindsNumber_242 S.length k v S.length (up2 s 26 S.length (prt τ p k)) = some (.inl ((((((prt τ p k).toNat, pkd τ p kd k) :: S).length : Nat) : Int), (k : Int) + 1, s')) ∧ asT τ s' ∧ stk s' (((prt τ p k).toNat, pkd τ p kd k) :: S) := by
      intro v hv
      unfold B_X11_bindsNumber_242 B_X11_bindsNumber_246
      rw [wrn_ok (by omega) (by omega), Option.bind_some, hll, wrap_id (z := (S.length : Int) + 1) (by omega) (by omega), wrap_id (by omega) (by omega)]
      refine ⟨_, rfl, (hE.up (Or.inl rfl)).up (Or.inr rfl), ?_, ?_, stk_up (stk_up hS (Nat.le_refl _)) (Nat.le_refl _)⟩
      · simp (disch := omega) only [bnd_eq, bind_some', wrap_id, rdn_ok, wrn_ok, wbn_ok, rdD_ok, rdD_out, wrD_ok, wrD_out, up2_at, up2_row, up2_idx, iter_s, itp, itn, isIn_iff, in_iff, ↓reduceIte, reduceCtorEq]; exact hq.symm
      · simp (disch := omega) only [bnd_eq, bind_some', wrap_id, rdn_ok, wrn_ok, wbn_ok, rdD_ok, rdD_out, wrD_ok, wrD_out, up2_at, up2_row, up2_idx, iter_s, itp, itn, isIn_iff, in_iff, ↓reduceIte, reduceCtorEq]; exact hv
    by_cases c3 : τ 8 p = 3
    · obtain ⟨-, -, -, -, -, -, -, -, -, -, -, -, -, f3, -, -, -⟩ := hW.2.2 p hp
      obtain ⟨t, cc, t1, t2, t3, -⟩ := f3 c3
      clear f3
      have hc4 := hF.1 t t1
      rw [if_pos c3, rdn_ok (by omega) (by omega), Option.bind_some, hpp, up2_row (by omega), h9, wrap_id (z := 3 * τ 9 p) (by omega) (by omega), wrap_id (by omega) (by omega), rdn_ok (by omega) (by omega), Option.bind_some, up2_row (by omega), h3, show (3 * τ 9 p + (k : Int)).toNat = 3 * (τ 9 p).toNat + k by omega]
      exact fin _ (by unfold pkd; rw [if_pos c3])
    · rw [if_neg c3, Option.bind_some]
      by_cases c6 : τ 8 p = 6
      · rw [if_pos c6]
        exact fin 4 (by unfold pkd; rw [if_neg c3, if_pos c6])
      · rw [if_neg c6]
        exact fin kd (by unfold pkd; rw [if_neg c3, if_neg c6])
/-- what is found on a stack -/
def fl1 (τ : Sg) (nm : Int) (S : List (Nat × Int)) : Bool := S.any (fun q => (bnS τ nm 61 q.1 q.2).1)
def fl2 (τ : Sg) (nm : Int) (S : List (Nat × Int)) : Bool := S.all (fun q => (bnS τ nm 61 q.1 q.2).2)
def szS (τ : Sg) (S : List (Nat × Int)) : Int := (S.map (fun q => τ 14 q.1)).sum
def okS (τ : Sg) (S : List (Nat × Int)) : Prop := ∀ q ∈ S, (q.1 : Int) < τ 0 9
theorem push_f {τ : Sg} {nm : Int} {p k : Nat} {kd : Int} {S : List (Nat × Int)} (hW : WFP τ) (hp : (p : Int) < τ 0 9) (hk : k < 3) : fl1 τ nm (pushK τ p kd k S) = ((bnSub τ nm 60 p kd k).1 || fl1 τ nm S) ∧ fl2 τ nm (pushK τ p kd k S) = ((bnSub τ nm 60 p kd k).2 && fl2 τ nm S) ∧ szS τ (pushK τ p kd k S) = szo τ (prt τ p k) + szS τ S ∧ (okS τ S → okS τ (pushK τ p kd k S)) := by
  have w2 := hW.2.1
  unfold pushK bnSub szo
  by_cases e : prt τ p k = -1
  · rw [if_pos e, if_pos e, if_pos (by omega)]
    exact ⟨rfl, rfl, by omega, fun h => h⟩
  · obtain ⟨hb1, hb2, -⟩ := sz_part hW hp hk e
    rw [if_neg e, if_neg e, if_neg (show ¬ prt τ p k < 0 by omega)]
    have hf := bnS_fuel (nm := nm) hW (prt τ p k).toNat (by omega) 61 60 (pkd τ p kd k) (by omega) (by omega)
    refine ⟨?_, ?_, ?_, ?_⟩
    · unfold fl1; rw [List.any_cons, hf]; rfl
    · unfold fl2; rw [List.all_cons, hf]; rfl
    · unfold szS; rw [List.map_cons, List.sum_cons]
    · intro h q hq
      rcases List.mem_cons.mp hq with rfl | hq
      · show (((prt τ p k).toNat : Nat) : Int) < τ 0 9; omega
      · exact h q hq
theorem sz_len {τ : Sg} (hW : WFP τ) : ∀ {S : List (Nat × Int)}, okS τ S → (S.length : Int) ≤ szS τ S
  | [], _ => by unfold szS; simp
  | q :: S, h => by
    have h1 := szo_b hW q.1 (h q List.mem_cons_self)
    have h2 := sz_len hW (S := S) (fun x hx => h x (List.mem_cons_of_mem _ hx))
    unfold szS at h2 ⊢
    rw [List.map_cons, List.sum_cons, List.length_cons]
    omega
set_option maxHeartbeats 4000000 in
theorem stack_c {τ : Sg} {nm : Int} (hW : WFP τ) (hF : WFK (τ 1) (τ 2) (τ 3)) : ∀ (m : Nat) (S : List (Nat × Int)) (x y : Bool) (s : Sg), asT τ s → stk s S → okS τ S → szS τ S ≤ 200 → szS τ S < m → ∃ s', iter (fun a : (Int × Bool × Bool × Sg) => L_X11_bindsNumber_59 nm a.1 a.2.1 a.2.2.1 a.2.2.2) m ((S.length : Int), x, y, s) = some (x || fl1 τ nm S, y && fl2 τ nm S, s') ∧ asT τ s'
  | 0, S, x, y, s, hE, hS, ho, h2, h3 => by
    have := sz_len hW ho; omega
  | m + 1, [], x, y, s, hE, hS, ho, h2, h3 => by
    refine ⟨s, ?_, hE⟩
    rw [iter_r (f := fun a : (Int × Bool × Bool × Sg) => L_X11_bindsNumber_59 nm a.1 a.2.1 a.2.2.1 a.2.2.2) (b := (x, y, s)) rfl]
    unfold fl1 fl2
    simp
  | m + 1, q :: S, x, y, s, hE, hS, ho, h2, h3 => by
    have w2 := hW.2.1
    obtain ⟨p, kd⟩ := q
    have hp : (p : Int) < τ 0 9 := ho (p, kd) List.mem_cons_self
    have ho' : okS τ S := fun x hx => ho x (List.mem_cons_of_mem _ hx)
    have hlen := sz_len hW ho'
    have hszp := szo_b hW p hp
    have hsum : szS τ ((p, kd) :: S) = τ 14 p + szS τ S := by unfold szS; rw [List.map_cons, List.sum_cons]
    have hpp : ((p : Int)).toNat = p := by omega
    have h8 := hE 8 (by decide)
    have h9 := hE 9 (by decide)
    obtain ⟨t1, t2, t3⟩ := hS
    obtain ⟨f0a, f0b, f0c, f0d⟩ := push_f (nm := nm) (p := p) (k := 0) (kd := kd) (S := S) hW hp (by omega)
    obtain ⟨f1a, f1b, f1c, f1d⟩ := push_f (nm := nm) (p := p) (k := 1) (kd := kd) (S := pushK τ p kd 0 S) hW hp (by omega)
    obtain ⟨f2a, f2b, f2c, f2d⟩ := push_f (nm := nm) (p := p) (k := 2) (kd := kd) (S := pushK τ p kd 1 (pushK τ p kd 0 S)) hW hp (by omega)
    have o1 := f0d ho'
    have o2 := f1d o1
    have o3 := f2d o2
    have z1 := sz_len hW o1
    have z2 := sz_len hW o2
    have z3 := sz_len hW o3
    have hw3 := (hW.2.2 p hp).2.2.1
    have hb : ∀ k : Nat, k < 3 → 0 ≤ szo τ (prt τ p k) := fun k hk => by
      unfold szo
      split
      · omega
      · have := sz_part hW hp hk (by omega)
        have := szo_b hW (prt τ p k).toNat (by omega); omega
    have hb0 := hb 0 (by omega)
    have hb1 := hb 1 (by omega)
    have hb2 := hb 2 (by omega)
    obtain ⟨s1, e1, E1, S1⟩ := in1 (k := 0) (kd := kd) hW hF hp (by omega) hE t3 (by omega)
    obtain ⟨s2, e2, E2, S2⟩ := in1 (k := 1) (kd := kd) hW hF hp (by omega) E1 S1 (by omega)
    obtain ⟨s3, e3, E3, S3⟩ := in1 (k := 2) (kd := kd) hW hF hp (by omega) E2 S2 (by omega)
    generalize hS3 : pushK τ p kd 2 (pushK τ p kd 1 (pushK τ p kd 0 S)) = S' at *
    have hloop : iter (fun a : (Int × Int × Sg) => L_X11_bindsNumber_154 p kd a.1 a.2.1 a.2.2) 4 ((S.length : Int), 0, s) = some ((S'.length : Int), s3) := by
      refine (iter_l (f := fun a : (Int × Int × Sg) => L_X11_bindsNumber_154 p kd a.1 a.2.1 a.2.2) (n := 3) (a := ((S.length : Int), 0, s)) (a' := (((pushK τ p kd 0 S).length : Int), 1, s1)) e1).trans ?_
      refine (iter_l (f := fun a : (Int × Int × Sg) => L_X11_bindsNumber_154 p kd a.1 a.2.1 a.2.2) (n := 2) (a := (((pushK τ p kd 0 S).length : Int), 1, s1)) (a' := (((pushK τ p kd 1 (pushK τ p kd 0 S)).length : Int), 2, s2)) e2).trans ?_
      refine (iter_l (f := fun a : (Int × Int × Sg) => L_X11_bindsNumber_154 p kd a.1 a.2.1 a.2.2) (n := 1) (a := (((pushK τ p kd 1 (pushK τ p kd 0 S)).length : Int), 2, s2)) (a' := ((S'.length : Int), 3, s3)) e3).trans ?_
      exact iter_r (f := fun a : (Int × Int × Sg) => L_X11_bindsNumber_154 p kd a.1 a.2.1 a.2.2) rfl
    have h149 : ∀ x' y' : Bool, B_X11_bindsNumber_149 S.length x' p kd y' s = some (.inl ((S'.length : Int), x', y', s3)) := by
      intro x' y'
      unfold B_X11_bindsNumber_149
      rw [hloop]; rfl
    have own : ∃ o : Bool, (o = true ↔ τ 8 p = 1 ∧ τ 9 p = nm) ∧ L_X11_bindsNumber_59 nm (((p, kd) :: S).length : Int) x y s = some (.inl ((S'.length : Int), (x || o), (y && (!o || decide (kd = 4))), s3)) := by
      have hl1 : wrap ((((p, kd) :: S).length : Int) + (-1)) = S.length := by
        rw [List.length_cons, wrap_id (by omega) (by omega)]; omega
      have hll : ((S.length : Nat) : Int).toNat = S.length := by omega
      have h109 : ∀ o : Bool, B_X11_bindsNumber_109 S.length x y p kd o s = some (.inl ((S'.length : Int), (x || o), (y && (!o || decide (kd = 4))), s3)) := by
        intro o
        unfold B_X11_bindsNumber_109 B_X11_bindsNumber_121 B_X11_bindsNumber_126 B_X11_bindsNumber_144 B_X11_bindsNumber_148
        by_cases c4 : kd = 4
        · cases x <;> cases y <;> cases o <;> simp [h149, c4]
          all_goals (subst c4; exact h149 _ _)
        · cases x <;> cases y <;> cases o <;> simp [h149, c4]
      unfold L_X11_bindsNumber_59
      rw [if_neg (by rw [List.length_cons]; omega), hl1, rdn_ok (by omega) (by omega), Option.bind_some, rdn_ok (by omega) (by omega), Option.bind_some, hll, t1, t2]
      dsimp only
      rw [rdn_ok (by omega) (by omega), Option.bind_some, hpp, h8]
      unfold B_X11_bindsNumber_108
      by_cases c1 : τ 8 p = 1
      · rw [if_pos c1, rdn_ok (by omega) (by omega), Option.bind_some, hpp, h9]
        by_cases c2 : τ 9 p = nm
        · rw [if_pos c2]; exact ⟨true, by simp [c1, c2], h109 true⟩
        · rw [if_neg c2]; exact ⟨false, by simp [c2], h109 false⟩
      · rw [if_neg c1]; exact ⟨false, by simp [c1], h109 false⟩
    obtain ⟨o, ho1, ho2⟩ := own
    obtain ⟨s', g1, g2⟩ := stack_c hW hF m S' (x || o) (y && (!o || decide (kd = 4))) s3 E3 S3 o3 (by omega) (by omega)
    refine ⟨s', ?_, g2⟩
    rw [iter_l (f := fun a : (Int × Bool × Bool × Sg) => L_X11_bindsNumber_59 nm a.1 a.2.1 a.2.2.1 a.2.2.2) (a := ((((p, kd) :: S).length : Int), x, y, s)) (a' := ((S'.length : Int), (x || o), (y && (!o || decide (kd = 4))), s3)) ho2, g1]
    have hod : decide (τ 8 p = 1 ∧ τ 9 p = nm) = o := by
      cases o with
      | true => exact decide_eq_true (ho1.mp rfl)
      | false => exact decide_eq_false (fun q => by have := ho1.mpr q; cases this)
    have c1 : fl1 τ nm ((p, kd) :: S) = ((bnS τ nm 61 p kd).1 || fl1 τ nm S) := by unfold fl1; rw [List.any_cons]
    have c2 : fl2 τ nm ((p, kd) :: S) = ((bnS τ nm 61 p kd).2 && fl2 τ nm S) := by unfold fl2; rw [List.all_cons]
    have hb61 : bnS τ nm 61 p kd = (o || (bnSub τ nm 60 p kd 0).1 || (bnSub τ nm 60 p kd 1).1 || (bnSub τ nm 60 p kd 2).1, (!o || decide (kd = 4)) && (bnSub τ nm 60 p kd 0).2 && (bnSub τ nm 60 p kd 1).2 && (bnSub τ nm 60 p kd 2).2) := by
      rw [← hod]; exact bnS_s (n := 60)
    rw [c1, c2, f2a, f2b, f1a, f1b, f0a, f0b, hb61]
    dsimp only
    rw [b6a, b6b]
