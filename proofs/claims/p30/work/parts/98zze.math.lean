/-! the size, shared, of the reference's tree -/
set_option maxHeartbeats 4000000 in
theorem isSame_m {τ s : Sg} {m : Bool} {pf : Nat → Pth} {N k a : Nat} (hB : BI τ τ m pf N N) (h : R46 τ s m pf N k) (hka : k < a) (ha : a < N) (hok : ∀ n, n < N → okAs (qry τ m (pf n)) ∧ wid τ (qry τ m (pf n)) ≤ 10) : ∃ b, F_X11_isSame a k s = some b ∧ (b = true ↔ qry τ m (pf a) = qry τ m (pf k) ∧ ∀ i, i < wid τ (qry τ m (pf a)) → cdP τ m ((qry τ m (pf a), i) :: pf a) = cdP τ m ((qry τ m (pf k), i) :: pf k)) := by
  have h500 := hB.n500
  have hk : k < N := by omega
  obtain ⟨f, f1, f2, f3⟩ := hB.ch ha
  obtain ⟨g, g1, g2, g3⟩ := hB.ch hk
  have hwa := (hok a ha).2
  obtain ⟨x1, -, -⟩ := hB.fin a ha
  obtain ⟨y1, -, -⟩ := hB.fin k hk
  have r : ∀ q, 40 ≤ q → q ≤ 45 → ∀ n, n < N → rdn 512 s q (n : Int) = some (τ q n) := fun q q1 q2 n hn => by rw [rdn_ok (by omega) (by omega), show ((n : Int)).toNat = n by omega, h.1 q q1 q2]
  have r46 : ∀ z i : Nat, z + i < N → rdn 512 s 46 (wrap ((z : Int) + (i : Int))) = some (s 46 (z + i)) := fun z i hzi => by
    rw [wrap_id (by omega) (by omega), rdn_ok (by omega) (by omega), show ((z : Int) + (i : Int)).toNat = z + i by omega]
  -- the cells are the same just where the asks are
  obtain ⟨ca1, ca2, ca3, ca4, ca5, ca6, ca7, ca8, ca9, ca10⟩ := ask_cells x1 (hok a ha).1.1
  obtain ⟨ck1, ck2, ck3, ck4, ck5, ck6, ck7, ck8, ck9, ck10⟩ := ask_cells y1 (hok k hk).1.1
  have hask : qry τ m (pf a) = qry τ m (pf k) ↔ (τ 41 a = τ 41 k ∧ (τ 41 a = 2 ∨ τ 42 a = τ 42 k) ∧ (τ 41 a < 4 ∨ τ 43 a = τ 43 k)) := by
    constructor
    · intro e
      rw [← e] at ck1 ck2 ck3 ck4 ck5 ck6 ck8 ck9 ck10
      refine ⟨by omega, ?_, ?_⟩
      · by_cases z : τ 41 a = 2
        · exact Or.inl z
        · refine Or.inr ?_
          by_cases z3 : (qry τ m (pf a)).1 = 3
          · rw [(ca8 z3).2, (ck8 z3).2]
          · by_cases z4 : (qry τ m (pf a)).1 = 4
            · rw [(ca9 z4).2, (ck9 z4).2]
            · rw [ca10 (by omega), ck10 (by omega)]
      · by_cases z : τ 41 a < 4
        · exact Or.inl z
        · refine Or.inr ?_
          by_cases z3 : (qry τ m (pf a)).1 = 3
          · rw [(ca8 z3).1, (ck8 z3).1]
          · have z4 : (qry τ m (pf a)).1 = 4 := by omega
            rw [(ca9 z4).1, (ck9 z4).1]
    · rintro ⟨e1, e2, e3⟩
      rw [← x1, ← y1]
      unfold rAsk
      rw [← e1]
      by_cases c5 : τ 41 a = 5
      · rw [if_pos c5, if_pos c5, e3.resolve_left (by omega), e2.resolve_left (by omega)]
      rw [if_neg c5, if_neg c5]
      by_cases c4 : τ 41 a = 4
      · rw [if_pos c4, if_pos c4, e3.resolve_left (by omega), e2.resolve_left (by omega)]
      rw [if_neg c4, if_neg c4]
      by_cases c3 : τ 41 a = 3
      · rw [if_pos c3, if_pos c3, e2.resolve_left (by omega)]
      rw [if_neg c3, if_neg c3]
      by_cases c2 : τ 41 a = 2
      · rw [if_pos c2, if_pos c2]
      rw [if_neg c2, if_neg c2, e2.resolve_left (by omega)]
  have hno : F_X11_isSame a k s = B_X11_isSame_95 a k false s → ¬ qry τ m (pf a) = qry τ m (pf k) → ∃ b, F_X11_isSame a k s = some b ∧ (b = true ↔ qry τ m (pf a) = qry τ m (pf k) ∧ ∀ i, i < wid τ (qry τ m (pf a)) → cdP τ m ((qry τ m (pf a), i) :: pf a) = cdP τ m ((qry τ m (pf k), i) :: pf k)) := fun e hn => by
    refine ⟨false, ?_, ⟨fun z => (by cases z), fun z => absurd z.1 hn⟩⟩
    rw [e]
    unfold B_X11_isSame_95
    have e2 : iter (fun z : (Bool × Int) => L_X11_isSame_99 a k s z.1 z.2) 3000 (false, 0) = some false := iter_r (f := fun z : (Bool × Int) => L_X11_isSame_99 a k s z.1 z.2) (n := 2999) (a := (false, 0)) (by
      show L_X11_isSame_99 a k s false 0 = _
      unfold L_X11_isSame_99
      rw [r 45 (by omega) (by omega) a ha, Option.bind_some, if_neg (show ¬ false = true by decide)]
      split <;> rfl)
    rw [e2, Option.bind_some]
  by_cases e41 : τ 41 a = τ 41 k
  · by_cases e45 : τ 45 a = τ 45 k
    · have hunf : F_X11_isSame a k s = B_X11_isSame_35 a k true s := by
        unfold F_X11_isSame
        rw [r 41 (by omega) (by omega) a ha, Option.bind_some, r 41 (by omega) (by omega) k hk, Option.bind_some, if_pos e41, r 45 (by omega) (by omega) a ha, Option.bind_some, r 45 (by omega) (by omega) k hk, Option.bind_some, if_pos e45]
      by_cases e42 : τ 41 a = 2 ∨ τ 42 a = τ 42 k
      · have hunf2 : F_X11_isSame a k s = B_X11_isSame_65 a k s := by
          rw [hunf]
          unfold B_X11_isSame_35
          rw [if_pos rfl, r 41 (by omega) (by omega) a ha, Option.bind_some]
          by_cases z : τ 41 a = 2
          · rw [if_pos z]
          · rw [if_neg z, r 42 (by omega) (by omega) a ha, Option.bind_some, r 42 (by omega) (by omega) k hk, Option.bind_some, if_pos (e42.resolve_left z)]
        by_cases e43 : τ 41 a < 4 ∨ τ 43 a = τ 43 k
        · have hunf3 : F_X11_isSame a k s = B_X11_isSame_95 a k true s := by
            rw [hunf2]
            unfold B_X11_isSame_65 B_X11_isSame_90
            rw [r 41 (by omega) (by omega) a ha, Option.bind_some]
            by_cases z : τ 41 a < 4
            · rw [if_pos z]
            · rw [if_neg z, r 43 (by omega) (by omega) a ha, Option.bind_some, r 43 (by omega) (by omega) k hk, Option.bind_some, if_pos (e43.resolve_left z)]
          have heq : qry τ m (pf a) = qry τ m (pf k) := hask.mpr ⟨e41, e42, e43⟩
          have hcmp : ∀ i, i < wid τ (qry τ m (pf a)) → (s 46 (f + i) = s 46 (g + i) ↔ cdP τ m ((qry τ m (pf a), i) :: pf a) = cdP τ m ((qry τ m (pf k), i) :: pf k)) := fun i hi => by
            obtain ⟨w1, w2, w3⟩ := f3 i hi
            obtain ⟨v1, v2, v3⟩ := g3 i (by rw [← heq]; exact hi)
            have := h.2 (f + i) (g + i) (by omega) v1 w2 v2
            rw [w3, v3] at this
            exact this
          have r45 : rdn 512 s 45 (a : Int) = some ((wid τ (qry τ m (pf a)) : Nat) : Int) := by rw [r 45 (by omega) (by omega) a ha, f2]
          obtain ⟨b, b1, b2⟩ := for_fbs (f := fun z : (Bool × Int) => L_X11_isSame_99 a k s z.1 z.2) (w := wid τ (qry τ m (pf a))) (P := fun i => cdP τ m ((qry τ m (pf a), i) :: pf a) = cdP τ m ((qry τ m (pf k), i) :: pf k)) (fun x => by
            show L_X11_isSame_99 a k s x _ = _
            unfold L_X11_isSame_99
            rw [r45, Option.bind_some, if_pos (Int.le_refl _)]) (fun j hj => by
            show L_X11_isSame_99 a k s false _ = _
            unfold L_X11_isSame_99
            rw [r45, Option.bind_some, if_neg (by omega), if_neg (by decide)]) (fun j hj => by
            show ∃ y, L_X11_isSame_99 a k s true _ = _ ∧ _
            obtain ⟨w1, w2, w3⟩ := f3 j hj
            obtain ⟨v1, v2, v3⟩ := g3 j (by rw [← heq]; exact hj)
            unfold L_X11_isSame_99 B_X11_isSame_150
            rw [r45, Option.bind_some, if_neg (by omega), if_pos rfl, r 44 (by omega) (by omega) a ha, Option.bind_some, f1, r46 f j w2, Option.bind_some, r 44 (by omega) (by omega) k hk, Option.bind_some, g1, r46 g j v2, Option.bind_some, wrap_id (z := (j : Int) + 1) (by omega) (by omega)]
            by_cases z : s 46 (f + j) = s 46 (g + j)
            · rw [if_pos z]; exact ⟨true, rfl, ⟨fun _ => (hcmp j hj).mp z, fun _ => rfl⟩⟩
            · rw [if_neg z]; exact ⟨false, rfl, ⟨fun w => (by cases w), fun w => absurd ((hcmp j hj).mpr w) z⟩⟩) (wid τ (qry τ m (pf a))) 0 3000 true (by omega) (by omega)
          have b1' : iter (fun z : (Bool × Int) => L_X11_isSame_99 a k s z.1 z.2) 3000 (true, 0) = some b := b1
          refine ⟨b, ?_, b2.trans ⟨fun z => ⟨heq, fun i hi => z.2 i (Nat.zero_le _) hi⟩, fun z => ⟨rfl, fun i _ hi => z.2 i hi⟩⟩⟩
          rw [hunf3]
          unfold B_X11_isSame_95
          rw [b1', Option.bind_some]
        · refine hno ?_ (fun z => e43 (hask.mp z).2.2)
          rw [hunf2]
          unfold B_X11_isSame_65 B_X11_isSame_94
          rw [r 41 (by omega) (by omega) a ha, Option.bind_some, if_neg (fun z => e43 (Or.inl z)), r 43 (by omega) (by omega) a ha, Option.bind_some, r 43 (by omega) (by omega) k hk, Option.bind_some, if_neg (fun z => e43 (Or.inr z))]
      · refine hno ?_ (fun z => e42 (hask.mp z).2.1)
        rw [hunf]
        unfold B_X11_isSame_35 B_X11_isSame_94
        rw [if_pos rfl, r 41 (by omega) (by omega) a ha, Option.bind_some, if_neg (fun z => e42 (Or.inl z)), r 42 (by omega) (by omega) a ha, Option.bind_some, r 42 (by omega) (by omega) k hk, Option.bind_some, if_neg (fun z => e42 (Or.inr z))]
    · refine hno ?_ (fun z => e45 (by rw [f2, g2, z]))
      unfold F_X11_isSame B_X11_isSame_34 B_X11_isSame_35 B_X11_isSame_94
      rw [r 41 (by omega) (by omega) a ha, Option.bind_some, r 41 (by omega) (by omega) k hk, Option.bind_some, if_pos e41, r 45 (by omega) (by omega) a ha, Option.bind_some, r 45 (by omega) (by omega) k hk, Option.bind_some, if_neg e45, if_neg (by decide)]
  · refine hno ?_ (fun z => e41 (hask.mp z).1)
    unfold F_X11_isSame B_X11_isSame_34 B_X11_isSame_35 B_X11_isSame_94
    rw [r 41 (by omega) (by omega) a ha, Option.bind_some, r 41 (by omega) (by omega) k hk, Option.bind_some, if_neg e41, if_neg (by decide)]
/-- of what a node is the same as, one isn't replaced -/
theorem own_ex {τ : Sg} {m : Bool} {pf : Nat → Pth} {N : Nat} (hB : BI τ τ m pf N N) : ∀ (d a : Nat), N ≤ a + d → a < N → ∃ o, a ≤ o ∧ o < N ∧ ¬ idl τ m (pf o) ∧ cdP τ m (pf o) = cdP τ m (pf a)
  | 0, a, h1, h2 => by omega
  | d + 1, a, h1, h2 => by
    by_cases g : idl τ m (pf a)
    · have h500 := hB.n500
      have hl := hB.len a a (Nat.le_refl _) h2
      obtain ⟨f, f1, f2, f3⟩ := hB.ch h2
      obtain ⟨w1, w2, w3⟩ := f3 0 g.2.1
      obtain ⟨o, o1, o2, o3, o4⟩ := own_ex hB d (f + 0) (by omega) w2
      refine ⟨o, by omega, o2, o3, ?_⟩
      rw [o4, w3, cdP_i (by omega) g]
    · exact ⟨a, Nat.le_refl _, h2, g, rfl⟩
