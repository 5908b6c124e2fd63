/-! the reference's matching: its steps -/
/-- what is at places, what views give and how tests are counted, as the reference's cells say -/
def EnvOK (τ : Sg) (E : EnvQ) (J : List (Int × Int × Int) → Prop) : Prop :=
  (∀ pl x s, RX τ x s → J x.2.2 → 1 ≤ pl → pl ≤ 468 → 0 ≤ kd τ E.1 pl → ∃ s', F_X11_factAt pl s = some (E.1 pl, s') ∧ ∀ r, ¬ r = 34 → s' r = s r) ∧
  (∀ v pl x s, RX τ x s → J x.2.2 → 0 ≤ v → v ≤ 2 → 1 ≤ pl → pl ≤ 468 → 0 ≤ kd τ E.1 pl → ∃ s', F_X11_gave v pl s = some ((E.2.1 v pl x).1, s') ∧ RX τ (E.2.1 v pl x).2 s' ∧ J (E.2.1 v pl x).2.2.2 ∧ (∀ r, 28 ≤ r → r ≤ 32 → s' r = s r) ∧ s' 0 34 = s 0 34 ∧ s' 0 38 = s 0 38 ∧ ((E.2.1 v pl x).1 = -9 ∨ (0 ≤ (E.2.1 v pl x).1 ∧ (E.2.1 v pl x).1 ≤ 9))) ∧
  (∀ x s, RX τ x s → J x.2.2 → RX τ (E.2.2 x) (up2 s 0 47 (wrap (s 0 47 + (if s 0 40 = 0 then 0 else 1)))) ∧ J (E.2.2 x).2.2)
abbrev MF : Sg → Option (Sg ⊕ (Sg ⊕ (Int × Sg))) := fun a => L_X11_tryCase_65 a
def askd (s : Sg) (a : Int × Int × Int) : Prop := (a.1 = 3 → s 0 42 = 5 ∧ s 0 44 = a.2.1) ∧ (a.1 = 4 → s 0 42 = 4 ∧ s 0 44 = a.2.1 ∧ s 0 43 = a.2.2)
def Out (τ : Sg) (J : List (Int × Int × Int) → Prop) (S : List (Int × Int)) (C : List (Int × Int × Int)) (r : Res) (s : Sg) (k : Int) : Prop :=
  J r.2.2.2 ∧
  (r.1 = .inl true → ∃ (j : Nat) (s' : Sg), (j : Int) ≤ k ∧ Rch MF j s s' ∧ st s' S C ∧ RX τ r.2 s') ∧
  (r.1 = .inl false → ∃ (j : Nat) (s1 s' : Sg), (j : Int) ≤ k ∧ Rch MF j s s1 ∧ MF s1 = B_X11_tryCase_124 1 s' ∧ hp s' S ∧ chs s' C ∧ s' 0 38 = C.length ∧ RX τ r.2 s') ∧
  (∀ a, r.1 = .inr a → ∃ (j : Nat) (s1 s' : Sg), (j : Int) ≤ k ∧ Rch MF j s s1 ∧ MF s1 = some (.inr (.inr (2, s'))) ∧ RX τ r.2 s' ∧ askd s' a)
theorem Out.pre {τ : Sg} {J : List (Int × Int × Int) → Prop} {S : List (Int × Int)} {C : List (Int × Int × Int)} {r : Res} {s0 s : Sg} {k k' : Int} {i : Nat} (h : Out τ J S C r s k) (hr : Rch MF i s0 s) (hk : k + i ≤ k') : Out τ J S C r s0 k' := by
  obtain ⟨h0, h1, h2, h3⟩ := h
  refine ⟨h0, fun q => ?_, fun q => ?_, fun a q => ?_⟩
  · obtain ⟨j, s', a1, a2, a3⟩ := h1 q
    exact ⟨i + j, s', by omega, hr.trans a2, a3⟩
  · obtain ⟨j, s1, s', a1, a2, a3⟩ := h2 q
    exact ⟨i + j, s1, s', by omega, hr.trans a2, a3⟩
  · obtain ⟨j, s1, s', a1, a2, a3⟩ := h3 a q
    exact ⟨i + j, s1, s', by omega, hr.trans a2, a3⟩
theorem Out.le {τ : Sg} {J : List (Int × Int × Int) → Prop} {S : List (Int × Int)} {C : List (Int × Int × Int)} {r : Res} {s : Sg} {k k' : Int} (h : Out τ J S C r s k) (hk : k ≤ k') : Out τ J S C r s k' :=
  h.pre (i := 0) Rch.nil (by omega)
def pop (s : Sg) (n : Nat) : Sg := up2 s 0 34 (n : Int)
theorem pop_st {s : Sg} {q : Int × Int} {S : List (Int × Int)} {C : List (Int × Int × Int)} (h : st s (q :: S) C) : st (pop s S.length) S C ∧ (pop s S.length) 28 S.length = q.1 ∧ (pop s S.length) 29 S.length = q.2 := by
  obtain ⟨⟨h1, h2, h3⟩, h4, h5, h6⟩ := h
  unfold pop
  refine ⟨⟨hp_up h3 (Or.inl (by omega)), by rw [up2_at rfl rfl], chs_up h5 (Or.inl (by omega)), ?_⟩, ?_, ?_⟩
  · rw [up2_idx (by omega)]; exact h6
  · rw [up2_row (by omega)]; exact h1
  · rw [up2_row (by omega)]; exact h2
theorem pop_RX {τ s : Sg} {x : XS} {n : Nat} (h : RX τ x s) : RX τ x (pop s n) := h.up (Or.inr (Or.inr ⟨rfl, by decide⟩))
theorem step_p {s : Sg} {p : Nat} {pl : Int} {S : List (Int × Int)} {C : List (Int × Int × Int)} (h : st s (((p : Int), pl) :: S) C) (hl : S.length < 256) : MF s = (F_X11_matches p pl (pop s S.length)).bind fun q => B_X11_tryCase_124 q.1 q.2 := by
  have hs := pop_st h
  have h4 : s 0 34 = S.length + 1 := by have := h.2.1; rw [List.length_cons] at this; omega
  show L_X11_tryCase_65 s = _
  unfold L_X11_tryCase_65
  rw [if_neg (by omega), bnd_eq, h4, wrap_id (by omega) (by omega), show (S.length : Int) + 1 - 1 = S.length by omega]
  show (rdn 256 (pop s S.length) 28 ((pop s S.length) 0 34)).bind _ = _
  have e : (pop s S.length) 0 34 = S.length := hs.1.2.1
  show ((rdn 256 (pop s S.length) 28 ((pop s S.length) 0 34)).bind fun v19 => if v19 = -1 then _ else (rdn 256 (pop s S.length) 28 ((pop s S.length) 0 34)).bind fun v21 => (rdn 256 (pop s S.length) 29 ((pop s S.length) 0 34)).bind fun v23 => (F_X11_matches v21 v23 (pop s S.length)).bind _) = _
  rw [e, rdn_ok (by omega) (by omega), Option.bind_some, show ((S.length : Nat) : Int).toNat = S.length by omega, hs.2.1, if_neg (by omega), Option.bind_some, rdn_ok (by omega) (by omega), Option.bind_some, show ((S.length : Nat) : Int).toNat = S.length by omega, hs.2.2]
theorem b124_0 {s : Sg} : B_X11_tryCase_124 0 s = some (.inl s) := rfl
theorem b124_2 {s : Sg} : B_X11_tryCase_124 2 s = some (.inr (.inr (2, s))) := rfl
/-- a first alternative has matched -/
theorem step_m {s : Sg} {z : Int} {c : Int × Int × Int} {S : List (Int × Int)} {C : List (Int × Int × Int)} (h : st s ((-1, z) :: S) (c :: C)) (hl : S.length < 256) (hc : C.length < 1000) : ∃ s', MF s = some (.inl s') ∧ st s' S C ∧ ∀ τ x, RX τ x s → RX τ x s' := by
  have hs := pop_st h
  have h4 : s 0 34 = S.length + 1 := by have := h.2.1; rw [List.length_cons] at this; omega
  have e38 : (pop s S.length) 0 38 = (C.length : Int) + 1 := by have := hs.1.2.2.2; rw [List.length_cons] at this; omega
  refine ⟨up2 (pop s S.length) 0 38 C.length, ?_, ⟨hp_up hs.1.1 (Or.inl (by omega)), by rw [up2_idx (by omega)]; exact hs.1.2.1, chs_up hs.1.2.2.1.2.2.2 (Or.inl (by omega)), by rw [up2_at rfl rfl]⟩, fun τ x hx => (pop_RX hx).up (Or.inr (Or.inr ⟨rfl, by decide⟩))⟩
  show L_X11_tryCase_65 s = _
  unfold L_X11_tryCase_65
  rw [if_neg (by omega), bnd_eq, h4, wrap_id (by omega) (by omega), show (S.length : Int) + 1 - 1 = S.length by omega]
  have e : (pop s S.length) 0 34 = S.length := hs.1.2.1
  show ((rdn 256 (pop s S.length) 28 ((pop s S.length) 0 34)).bind fun v19 => if v19 = -1 then bnd (F_X11_took (pop s S.length)) fun q29 => B_X11_tryCase_124 q29.1 q29.2 else (rdn 256 (pop s S.length) 28 ((pop s S.length) 0 34)).bind fun v21 => (rdn 256 (pop s S.length) 29 ((pop s S.length) 0 34)).bind fun v23 => (F_X11_matches v21 v23 (pop s S.length)).bind _) = _
  rw [e, rdn_ok (by omega) (by omega), Option.bind_some, show ((S.length : Nat) : Int).toNat = S.length by omega, hs.2.1, if_pos rfl, bnd_eq]
  unfold F_X11_took
  rw [bnd_eq, e38, wrap_id (by omega) (by omega), show (C.length : Int) + 1 - 1 = C.length by omega]
  rfl
/-- the alternative that was told last comes -/
theorem turn_c {s : Sg} {q pl : Int} {S : List (Int × Int)} {C : List (Int × Int × Int)} (h1 : hp s S) (h2 : chs s (((S.length : Int), q, pl) :: C)) (h3 : s 0 38 = (C.length : Int) + 1) (hl : S.length < 256) (hc : C.length < 64) : ∃ s', B_X11_tryCase_124 1 s = some (.inl s') ∧ st s' ((q, pl) :: S) C ∧ ∀ τ x, RX τ x s → RX τ x s' := by
  obtain ⟨a1, a2, a3, a4⟩ := h2
  have hq : st (up2 (up2 s 0 38 C.length) 0 34 S.length) S C := ⟨hp_up (hp_up h1 (Or.inl (by omega))) (Or.inl (by omega)), by rw [up2_at rfl rfl], chs_up (chs_up a4 (Or.inl (by omega))) (Or.inl (by omega)), by rw [up2_idx (by omega), up2_at rfl rfl]⟩
  refine ⟨pu (up2 (up2 s 0 38 C.length) 0 34 S.length) q pl, ?_, st_pu hq, fun τ x hx => RX_pu ((hx.up (Or.inr (Or.inr ⟨rfl, by decide⟩))).up (Or.inr (Or.inr ⟨rfl, by decide⟩)))⟩
  unfold B_X11_tryCase_124 F_X11_turns
  rw [if_neg (by omega), if_pos rfl, if_neg (by omega), bnd_eq, h3, wrap_id (by omega) (by omega), show (C.length : Int) + 1 - 1 = C.length by omega]
  have e38 : (up2 s 0 38 (C.length : Int)) 0 38 = C.length := by rw [up2_at rfl rfl]
  rw [e38, rdn_ok (by omega) (by omega), Option.bind_some, bnd_eq, show ((C.length : Nat) : Int).toNat = C.length by omega, up2_row (k' := 30) (by omega), a1]
  have e38' : (up2 (up2 s 0 38 (C.length : Int)) 0 34 S.length) 0 38 = C.length := by rw [up2_idx (by omega), up2_at rfl rfl]
  rw [e38', rdn_ok (by omega) (by omega), Option.bind_some, rdn_ok (by omega) (by omega), Option.bind_some, show ((C.length : Nat) : Int).toNat = C.length by omega, up2_row (k' := 31) (by omega), up2_row (k' := 31) (by omega), up2_row (k' := 32) (by omega), up2_row (k' := 32) (by omega), a2, a3, push_c (by rw [up2_at rfl rfl]; omega), Option.bind_some]
  rfl
