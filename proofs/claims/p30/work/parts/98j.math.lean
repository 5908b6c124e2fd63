/-! codes written: columns, cases, all -/
def cdCol (k : Nat) : Nat := pk 1 0 (k + 1) 0
def sgCols (τ σ : Sg) (c : Nat) : Nat → Nat → Nat → Nat → List Nat → Prop := sgL (fun k => sgP τ σ 50 (cpt τ c k).toNat 0) σ cdCol
def sgCase (τ σ : Sg) (c a b : Nat) : Prop := σ 34 a = (pk 0 0 c 0 : Nat) ∧ ∃ (m : Nat) (L : List Nat), sgCols τ σ c (τ 0 21).toNat 0 (a + 1) m L ∧ (∀ x ∈ L, σ 35 x = (b : Int)) ∧
  ((τ 22 c = -1 ∧ σ 34 m = (pk 10 0 c 0 : Nat) ∧ b = m + 1) ∨ (¬ τ 22 c = -1 ∧ σ 34 m = (pk 9 0 c 0 : Nat) ∧ σ 35 m = (b : Int) ∧ σ 34 (m + 1) = (pk 10 0 c 0 : Nat) ∧ b = m + 2))
def sgCs (τ σ : Sg) : Nat → Nat → Nat → Nat → Prop
  | 0, _, a, b => b = a
  | d + 1, c, a, b => ∃ m, sgCase τ σ c a m ∧ sgCs τ σ d (c + 1) m b
def AUT (τ σ : Sg) : Prop := ∃ b : Nat, sgCs τ σ (τ 0 23).toNat 0 0 b ∧ σ 34 b = (pk 11 0 0 0 : Nat) ∧ σ 33 4 = (b : Int) + 1 ∧ b + 1 ≤ 1969
theorem sgCols_ok {τ σ : Sg} {c d k a b : Nat} {L : List Nat} (h : sgCols τ σ c d k a b L) : Sok a b L := sgL_ok (fun k a b L q => sgP_ok q) h
theorem sgCols_congr {τ σ σ' : Sg} {c d k a b : Nat} {L : List Nat} (h : sgCols τ σ c d k a b L) (h34 : ∀ i, a ≤ i → i < b → σ' 34 i = σ 34 i) (h35 : ∀ i, a ≤ i → i < b → i ∉ L → σ' 35 i = σ 35 i) : sgCols τ σ' c d k a b L :=
  sgL_congr (fun k a b L q => sgP_ok q) h (fun k a' b' L' z1 z2 z3 z4 => sgP_congr z4 (fun i i1 i2 => h34 i (by omega) (by omega)) (fun i i1 i2 hL => h35 i (by omega) (by omega) (fun hm => hL (z3 i hm i1 i2)))) h34
theorem sgCase_le {τ σ : Sg} {c a b : Nat} (h : sgCase τ σ c a b) : a < b := by
  obtain ⟨-, m, L, h1, -, h2⟩ := h
  have := (sgCols_ok h1).1
  omega
theorem sgCase_congr {τ σ σ' : Sg} {c a b : Nat} (h : sgCase τ σ c a b) (hs : ∀ i, a ≤ i → i < b → σ' 34 i = σ 34 i ∧ σ' 35 i = σ 35 i) : sgCase τ σ' c a b := by
  have hl := sgCase_le h
  obtain ⟨h0, m, L, h1, h2, h3⟩ := h
  have i1 := sgCols_ok h1
  have l1 := i1.1
  have hmb : m + 1 ≤ b := by omega
  refine ⟨by rw [(hs a (by omega) hl).1]; exact h0, m, L, sgCols_congr h1 (fun i i1 i2 => (hs i (by omega) (by omega)).1) (fun i i1 i2 _ => (hs i (by omega) (by omega)).2), fun x hx => ?_, ?_⟩
  · have := i1.2.1 x hx
    rw [(hs x (by omega) (by omega)).2]; exact h2 x hx
  · rcases h3 with ⟨z1, z2, z3⟩ | ⟨z1, z2, z3, z4, z5⟩
    · exact Or.inl ⟨z1, by rw [(hs m (by omega) (by omega)).1]; exact z2, z3⟩
    · exact Or.inr ⟨z1, by rw [(hs m (by omega) (by omega)).1]; exact z2, by rw [(hs m (by omega) (by omega)).2]; exact z3, by rw [(hs (m + 1) (by omega) (by omega)).1]; exact z4, z5⟩
theorem sgCs_le {τ σ : Sg} : ∀ {d c a b : Nat}, sgCs τ σ d c a b → a ≤ b
  | 0, c, a, b, h => by rw [show b = a from h]; exact Nat.le_refl _
  | d + 1, c, a, b, h => by
    obtain ⟨m, h1, h2⟩ := h
    have := sgCase_le h1
    have := sgCs_le h2
    omega
theorem sgCs_congr {τ σ σ' : Sg} : ∀ {d c a b : Nat}, sgCs τ σ d c a b → (∀ i, a ≤ i → i < b → σ' 34 i = σ 34 i ∧ σ' 35 i = σ 35 i) → sgCs τ σ' d c a b
  | 0, c, a, b, h, _ => h
  | d + 1, c, a, b, h, hs => by
    obtain ⟨m, h1, h2⟩ := h
    have l1 := sgCase_le h1
    have l2 := sgCs_le h2
    exact ⟨m, sgCase_congr h1 (fun i i1 i2 => hs i i1 (by omega)), sgCs_congr h2 (fun i i1 i2 => hs i (by omega) i2)⟩
theorem WF.rm {a b : Nat} {σ σ' τ : Sg} (h : WF a b σ σ') (hM : RM σ τ) : RM σ' τ := hM.fr (fun r r1 r2 => h.1 r (by simp only [List.mem_cons, List.not_mem_nil, or_false, not_or]; omega))
set_option maxHeartbeats 4000000 in
theorem wC_c {τ : Sg} (hF : WFK (τ 1) (τ 2) (τ 3)) {c M : Nat} (hc : (c : Int) < τ 0 23) (hM : τ 0 21 = M) : ∀ (d k N : Nat) (ch : Int) (σ : Sg) (a : Nat) (Lc : List Nat), k + d = M → d < N → RP σ τ → RM σ τ → σ 33 4 = a → a + 80 * d ≤ 1960 → chn σ ch Lc → (∀ x ∈ Lc, x < a) → ∃ (c' : Int) (σ' : Sg) (b : Nat) (L : List Nat), iter (fun z : (Int × Int × Sg) => L_X0_compile_32 c z.1 z.2.1 z.2.2) N (ch, (k : Int), σ) = some (c', σ') ∧ sgCols τ σ' c d k a b L ∧ chn σ' c' (L ++ Lc) ∧ WF a b σ σ' ∧ σ' 33 4 = b ∧ b ≤ a + 80 * d ∧ a ≤ b
  | 0, k, N, ch, σ, a, Lc, hk, hN, hR, hRM, hcnt, hcap, hch, hLc => by
    obtain ⟨N, rfl⟩ : ∃ z, N = z + 1 := ⟨N - 1, by omega⟩
    refine ⟨ch, σ, a, [], iter_r (f := fun z : (Int × Int × Sg) => L_X0_compile_32 c z.1 z.2.1 z.2.2) (a := (ch, (k : Int), σ)) (by
      show L_X0_compile_32 c ch k σ = _
      unfold L_X0_compile_32 F_X4_columns
      rw [hRM.1, if_pos (by omega)]), ⟨rfl, rfl⟩, hch, WF.rfl', hcnt, by omega, Nat.le_refl _⟩
  | d + 1, k, N, ch, σ, a, Lc, hk, hN, hR, hRM, hcnt, hcap, hch, hLc => by
    obtain ⟨N, rfl⟩ : ∃ z, N = z + 1 := ⟨N - 1, by omega⟩
    have hW := hR.2.1
    have hWM := hRM.2.2.2.1
    have hm3 := hWM.1
    have hff := ((hWM.2.2.2.2 c hc).1 k (by omega)).1 (by omega)
    have hf1 := hff.1
    have hf2 := hff.2.1
    have hge := hW.ge (p := (cpt τ c k).toNat) (by omega)
    have hd13 := dpo_b hW (cpt τ c k).toNat (by omega)
    have w1 : WF a (a + 1) σ (wrC σ a (cdCol k : Nat) (-1)) := WF.one
    have hR1 := w1.rp hR hF
    have hRM1 := w1.rm hRM
    have hw : F_X0_write 1 0 ((k : Int) + 1) 0 (-1) σ = ((a : Int), wrC σ a (cdCol k : Nat) (-1)) := by
      have := write_c (op := 1) (d := 0) (a := k + 1) (b := 0) (e := -1) hcnt (by omega) (by omega) (by omega) (by omega) (by omega)
      rw [show ((k + 1 : Nat) : Int) = (k : Int) + 1 by omega] at this
      exact this
    have hstep0 : L_X0_compile_32 c ch k σ = (F_X0_writePattern 50 (cpt τ c k) 0 ch 0 (wrC σ a (cdCol k : Nat) (-1))).bind fun q7 => some (.inl (q7.1, (k : Int) + 1, q7.2)) := by
      have hg : F_X4_get c k (wrC σ a (cdCol k : Nat) (-1)) = cpt τ c k := get4c hRM1 hc (by omega)
      unfold L_X0_compile_32 F_X4_columns
      rw [hRM.1, if_neg (by omega), wrap_id (by omega) (by omega), hw, bnd_eq]
      dsimp only
      rw [hg]
    clear hw
    have f34 : ∀ i, wrC σ a (cdCol k : Nat) (-1) 34 i = if i = a then ((cdCol k : Nat) : Int) else σ 34 i := fun i => wrC_34
    have n1 : wrC σ a (cdCol k : Nat) (-1) 33 4 = ((a + 1 : Nat) : Int) := by rw [wrC_4]; omega
    have k1 : chn (wrC σ a (cdCol k : Nat) (-1)) ch Lc := chn_congr (fun x hx => (w1.2.2 x (by have := hLc x hx; omega)).2) hch
    generalize wrC σ a (cdCol k : Nat) (-1) = σ1 at *
    obtain ⟨c1', σ2, m, L1, e2, s2, k2, w2, n2, l2⟩ := wP_c hF 50 (cpt τ c k).toNat 0 ch 0 σ1 (a + 1) Lc (by omega) (by omega) (by omega) (by omega) (by omega) hR1 n1 (by omega) k1 (fun x hx => by have := hLc x hx; omega)
    have i2 := sgP_ok s2
    have e2' : F_X0_writePattern 50 (cpt τ c k) 0 ch 0 σ1 = some (c1', σ2) := by
      rw [show (((cpt τ c k).toNat : Nat) : Int) = cpt τ c k by omega] at e2
      exact e2
    rw [e2', Option.bind_some] at hstep0
    clear e2 e2'
    have hR2 := w2.rp hR1 hF
    have hRM2 := w2.rm hRM1
    obtain ⟨c3, σ3, b, L2, e3, s3, k3', w3, n3, l3, l3'⟩ := wC_c hF hc hM d (k + 1) N c1' σ2 m (L1 ++ Lc) (by omega) (by omega) hR2 hRM2 n2 (by omega) k2 (fun x hx => by
      rcases List.mem_append.mp hx with z | z
      · have := i2.2.1 x z; omega
      · have := hLc x z; have := i2.1; omega)
    refine ⟨c3, σ3, b, L2 ++ L1, ?_, ?_, ?_, ?_, n3, by omega, by have := i2.1; omega⟩
    · rw [iter_l (f := fun z : (Int × Int × Sg) => L_X0_compile_32 c z.1 z.2.1 z.2.2) (a := (ch, (k : Int), σ)) hstep0, show (k : Int) + 1 = ((k + 1 : Nat) : Int) by omega]
      exact e3
    · refine ⟨?_, m, L1, L2, sgP_congr s2 (fun i i1 i2' => (w3.2.2 i (by omega)).1) (fun i i1 i2' _ => (w3.2.2 i (by omega)).2), s3, rfl⟩
      have := i2.1
      rw [(w3.2.2 a (by omega)).1, (w2.2.2 a (by omega)).1, f34, if_pos rfl]
    · rw [List.append_assoc]; exact k3'
    · exact (WF.join (a := a) (b := b) w1 w2 ⟨by omega, by have := i2.1; omega⟩ ⟨by omega, by omega⟩).join w3 ⟨by omega, by omega⟩ ⟨by have := i2.1; omega, by omega⟩
set_option maxHeartbeats 4000000 in
theorem wK_c {τ : Sg} (hF : WFK (τ 1) (τ 2) (τ 3)) {c : Nat} {σ : Sg} {a : Nat} (hc : (c : Int) < τ 0 23) (hR : RP σ τ) (hRM : RM σ τ) (hcnt : σ 33 4 = a) (hcap : a + 243 ≤ 1960) : ∃ (σ' : Sg) (b : Nat), L_X0_compile_7 c σ = some (.inl ((c : Int) + 1, σ')) ∧ sgCase τ σ' c a b ∧ WF a b σ σ' ∧ σ' 33 4 = b ∧ b ≤ a + 243 := by
  have hWM := hRM.2.2.2.1
  have hm3 := hWM.1
  have h8 := hWM.2.1
  obtain ⟨M, hM⟩ : ∃ M : Nat, τ 0 21 = M := ⟨(τ 0 21).toNat, by omega⟩
  have w1 : WF a (a + 1) σ (wrC σ a (pk 0 0 c 0 : Nat) (-1)) := WF.one
  have hR1 := w1.rp hR hF
  have hRM1 := w1.rm hRM
  have hw : F_X0_write 0 0 c 0 (-1) σ = ((a : Int), wrC σ a (pk 0 0 c 0 : Nat) (-1)) := write_c (op := 0) (d := 0) (a := c) (b := 0) (e := -1) hcnt (by omega) (by omega) (by omega) (by omega) (by omega)
  have hstep0 : L_X0_compile_7 c σ = (iter (fun z : (Int × Int × Sg) => L_X0_compile_32 c z.1 z.2.1 z.2.2) 3000 ((-1), 0, wrC σ a (pk 0 0 c 0 : Nat) (-1))).bind fun y9 => if (F_X4_get c 4 y9.2) = (-1) then B_X0_compile_102 c y9.1 y9.2 else bnd (F_X0_write 9 0 c 0 y9.1 y9.2) fun q15 => B_X0_compile_102 c q15.1 q15.2 := by
    unfold L_X0_compile_7 F_X4_count
    rw [hRM.2.1, if_neg (by omega), hw, bnd_eq]
  clear hw
  have f34 : ∀ i, wrC σ a (pk 0 0 c 0 : Nat) (-1) 34 i = if i = a then ((pk 0 0 c 0 : Nat) : Int) else σ 34 i := fun i => wrC_34
  have n1 : wrC σ a (pk 0 0 c 0 : Nat) (-1) 33 4 = ((a + 1 : Nat) : Int) := by rw [wrC_4]; omega
  generalize wrC σ a (pk 0 0 c 0 : Nat) (-1) = σ1 at *
  obtain ⟨c1, σ2, m, L, e2, s2, k2, w2, n2, l2, l2'⟩ := wC_c hF hc hM M 0 3000 (-1) σ1 (a + 1) [] (by omega) (by omega) hR1 hRM1 n1 (by omega) rfl (fun x hx => by cases hx)
  rw [List.append_nil] at k2
  have i2 := sgCols_ok s2
  have s2' : sgCols τ σ2 c (τ 0 21).toNat 0 (a + 1) m L := by rw [show (τ 0 21).toNat = M by omega]; exact s2
  have hRM2 := w2.rm hRM1
  have e2' : iter (fun z : (Int × Int × Sg) => L_X0_compile_32 c z.1 z.2.1 z.2.2) 3000 ((-1), 0, σ1) = some (c1, σ2) := e2
  have w12 : WF a m σ σ2 := WF.join w1 w2 ⟨by omega, by omega⟩ ⟨by omega, by omega⟩
  have hg4 : F_X4_get c 4 σ2 = τ 22 c := (get4m hRM2 hc 4 (by omega)).trans (hRM2.2.2.2.2 c hc).2.2.1
  rw [e2', Option.bind_some] at hstep0
  dsimp only at hstep0
  rw [hg4] at hstep0
  clear e2 e2' hg4
  -- the end of a case: its code, and the failing ones led here
  have tail : ∀ (ch : Int) (L' : List Nat) (s : Sg) (q : Nat), s 33 4 = (q : Int) → q + 1 ≤ 1960 → chn s ch L' → L'.Nodup → (∀ x ∈ L', x < q) → ∃ s', B_X0_compile_102 c ch s = some (.inl ((c : Int) + 1, s')) ∧ WF a (q + 1) s s' ∧ s' 33 4 = ((q + 1 : Nat) : Int) ∧ s' 34 q = (pk 10 0 c 0 : Nat) ∧ (∀ i, ¬ i = q → s' 34 i = s 34 i) ∧ (∀ i, i < q → s' 35 i = if i ∈ L' then ((q + 1 : Nat) : Int) else s 35 i) ∨ ¬ a ≤ q ∨ ∃ x ∈ L', x < a := by
    intro ch L' s q hq hcap' hch hnd hlt
    by_cases haq : a ≤ q
    · by_cases hx : ∃ x ∈ L', x < a
      · exact ⟨s, Or.inr (Or.inr hx)⟩
      · have hwt : F_X0_write 10 0 c 0 (-1) s = ((q : Int), wrC s q (pk 10 0 c 0 : Nat) (-1)) := write_c (op := 10) (d := 0) (a := c) (b := 0) (e := -1) hq (by omega) (by omega) (by omega) (by omega) (by omega)
        have hc2 : chn (wrC s q (pk 10 0 c 0 : Nat) (-1)) ch L' := chn_congr (fun x hx => by rw [wrC_35, if_neg (by have := hlt x hx; omega)]) hch
        have hld := land_c hc2 hnd (fun x hx => by have := hlt x hx; omega)
        refine ⟨ldC (wrC s q (pk 10 0 c 0 : Nat) (-1)) L', Or.inl ⟨?_, ?_, ?_, ?_, ?_, ?_⟩⟩
        · unfold B_X0_compile_102
          rw [hwt, bnd_eq]
          dsimp only
          rw [hld, Option.bind_some, wrap_id (by omega) (by omega)]
        · exact WF.join (a := a) (b := q + 1) WF.one (WF.ld (a := a) (b := q) (fun x hx' => ⟨Classical.byContradiction fun z => hx ⟨x, hx', by omega⟩, hlt x hx'⟩)) ⟨by omega, by omega⟩ ⟨by omega, by omega⟩
        · rw [ldC_row (by omega), wrC_4]; omega
        · rw [ldC_row (by omega), wrC_34, if_pos rfl]
        · intro i hi; rw [ldC_row (by omega), wrC_34, if_neg hi]
        · intro i hi
          rw [ldC_35, wrC_4, wrC_35, if_neg (show ¬ i = q by omega)]
          split <;> omega
    · exact ⟨s, Or.inr (Or.inl haq)⟩
  by_cases g : τ 22 c = -1
  · rw [if_pos g] at hstep0
    obtain ⟨s', hs'⟩ := tail c1 L σ2 m n2 (by omega) k2 i2.2.2 (fun x hx => (i2.2.1 x hx).2)
    rcases hs' with ⟨t1, t2, t3, t4, t5, t6⟩ | t | ⟨x, x1, x2⟩
    · refine ⟨s', m + 1, by rw [hstep0]; exact t1, ⟨?_, m, L, sgCols_congr s2' (fun i i1 i2' => t5 i (by omega)) (fun i i1 i2' hL => by rw [t6 i (by omega), if_neg hL]), fun x hx => ?_, Or.inl ⟨g, t4, rfl⟩⟩, WF.join w12 t2 ⟨by omega, by omega⟩ ⟨by omega, by omega⟩, t3, by omega⟩
      · rw [t5 a (by omega), (w2.2.2 a (by omega)).1, f34, if_pos rfl]
      · rw [t6 x (i2.2.1 x hx).2, if_pos hx]
    · omega
    · have := i2.2.1 x x1; omega
  · rw [if_neg g] at hstep0
    have hw9 : F_X0_write 9 0 c 0 c1 σ2 = ((m : Int), wrC σ2 m (pk 9 0 c 0 : Nat) c1) := write_c (op := 9) (d := 0) (a := c) (b := 0) n2 (by omega) (by omega) (by omega) (by omega) (by omega)
    rw [hw9, bnd_eq] at hstep0
    dsimp only at hstep0
    have w9 : WF m (m + 1) σ2 (wrC σ2 m (pk 9 0 c 0 : Nat) c1) := WF.one
    have g34 : ∀ i, wrC σ2 m (pk 9 0 c 0 : Nat) c1 34 i = if i = m then ((pk 9 0 c 0 : Nat) : Int) else σ2 34 i := fun i => wrC_34
    have g35 : ∀ i, wrC σ2 m (pk 9 0 c 0 : Nat) c1 35 i = if i = m then c1 else σ2 35 i := fun i => wrC_35
    have n9 : wrC σ2 m (pk 9 0 c 0 : Nat) c1 33 4 = ((m + 1 : Nat) : Int) := by rw [wrC_4]; omega
    have k9 : chn (wrC σ2 m (pk 9 0 c 0 : Nat) c1) (m : Int) (m :: L) := by
      refine ⟨rfl, ?_⟩
      rw [g35, if_pos rfl]
      exact chn_congr (fun x hx => (w9.2.2 x (by have := i2.2.1 x hx; omega)).2) k2
    clear hw9
    generalize wrC σ2 m (pk 9 0 c 0 : Nat) c1 = σ9 at *
    obtain ⟨s', hs'⟩ := tail m (m :: L) σ9 (m + 1) n9 (by omega) k9 (by rw [List.nodup_cons]; exact ⟨fun q => by have := i2.2.1 m q; omega, i2.2.2⟩) (fun x hx => by
      rcases List.mem_cons.mp hx with rfl | z
      · omega
      · have := i2.2.1 x z; omega)
    rcases hs' with ⟨t1, t2, t3, t4, t5, t6⟩ | t | ⟨x, x1, x2⟩
    · refine ⟨s', m + 2, by rw [hstep0]; exact t1, ⟨?_, m, L, sgCols_congr s2' (fun i i1 i2' => by rw [t5 i (by omega), g34, if_neg (by omega)]) (fun i i1 i2' hL => ?_), fun x hx => ?_, Or.inr ⟨g, ?_, ?_, t4, rfl⟩⟩, (WF.join (a := a) (b := m + 2) w12 w9 ⟨by omega, by omega⟩ ⟨by omega, by omega⟩).join t2 ⟨by omega, by omega⟩ ⟨by omega, by omega⟩, t3, by omega⟩
      · rw [t5 a (by omega), g34, if_neg (by omega), (w2.2.2 a (by omega)).1, f34, if_pos rfl]
      · rw [t6 i (by omega), if_neg (fun q => by
          rcases List.mem_cons.mp q with z | z
          · omega
          · exact hL z), g35, if_neg (by omega)]
      · rw [t6 x (by have := i2.2.1 x hx; omega), if_pos (List.mem_cons_of_mem _ hx)]
      · rw [t5 m (by omega), g34, if_pos rfl]
      · rw [t6 m (by omega), if_pos List.mem_cons_self]
    · omega
    · rcases List.mem_cons.mp x1 with z | z
      · omega
      · have := i2.2.1 x z; omega
set_option maxHeartbeats 4000000 in
theorem wKs_c {τ : Sg} (hF : WFK (τ 1) (τ 2) (τ 3)) {m : Nat} (hm : τ 0 23 = m) : ∀ (d c N : Nat) (σ : Sg) (a : Nat), c + d = m → d < N → RP σ τ → RM σ τ → σ 33 4 = a → a + 243 * d ≤ 1960 → ∃ (σ' : Sg) (b : Nat), iter (fun z : (Int × Sg) => L_X0_compile_7 z.1 z.2) N ((c : Int), σ) = some σ' ∧ sgCs τ σ' d c a b ∧ WF a b σ σ' ∧ σ' 33 4 = b ∧ b ≤ a + 243 * d
  | 0, c, N, σ, a, hk, hN, hR, hRM, hcnt, hcap => by
    obtain ⟨N, rfl⟩ : ∃ z, N = z + 1 := ⟨N - 1, by omega⟩
    exact ⟨σ, a, iter_r (f := fun z : (Int × Sg) => L_X0_compile_7 z.1 z.2) (a := ((c : Int), σ)) (by
      show L_X0_compile_7 c σ = _
      unfold L_X0_compile_7 F_X4_count
      rw [hRM.2.1, if_pos (by omega)]), rfl, WF.rfl', hcnt, by omega⟩
  | d + 1, c, N, σ, a, hk, hN, hR, hRM, hcnt, hcap => by
    obtain ⟨N, rfl⟩ : ∃ z, N = z + 1 := ⟨N - 1, by omega⟩
    obtain ⟨σ1, q, e1, s1, w1, n1, l1⟩ := wK_c (c := c) hF (by omega) hR hRM hcnt (by omega)
    have hl := sgCase_le s1
    obtain ⟨σ2, b, e2, s2, w2, n2, l2⟩ := wKs_c hF hm d (c + 1) N σ1 q (by omega) (by omega) (w1.rp hR hF) (w1.rm hRM) n1 (by omega)
    have hl2 := sgCs_le s2
    refine ⟨σ2, b, ?_, ⟨q, sgCase_congr s1 (fun i i1 i2 => w2.2.2 i (by omega)), s2⟩, WF.join w1 w2 ⟨by omega, by omega⟩ ⟨by omega, by omega⟩, n2, by omega⟩
    rw [iter_l (f := fun z : (Int × Sg) => L_X0_compile_7 z.1 z.2) (a := ((c : Int), σ)) e1, show (c : Int) + 1 = ((c + 1 : Nat) : Int) by omega]
    exact e2
theorem compile_c {σ τ : Sg} (hF : WFK (τ 1) (τ 2) (τ 3)) (hR : RP σ τ) (hRM : RM σ τ) : ∃ σ', F_X0_compile σ = some σ' ∧ AUT τ σ' ∧ (∀ r, r ∉ [33, 34, 35] → σ' r = σ r) ∧ ∀ i, ¬ i = 4 → σ' 33 i = σ 33 i := by
  have h8 := hRM.2.2.2.1.2.1
  have hs1 : ∀ r, r ∉ [33, 34, 35] → (up2 σ 33 4 0) r = σ r := fun r hr => by
    simp only [List.mem_cons, List.not_mem_nil, or_false, not_or] at hr
    funext j; rw [up2_row (by omega)]
  have hR1 : RP (up2 σ 33 4 0) τ := RP.fr hR hF (fun r r1 r2 => hs1 r (by simp only [List.mem_cons, List.not_mem_nil, or_false, not_or]; omega)) (fun _ _ _ => rfl) rfl
  have hM1 : RM (up2 σ 33 4 0) τ := hRM.fr (fun r r1 r2 => hs1 r (by simp only [List.mem_cons, List.not_mem_nil, or_false, not_or]; omega))
  obtain ⟨σ2, b, e2, s2, w2, n2, l2⟩ := wKs_c (m := (τ 0 23).toNat) hF (by omega) (τ 0 23).toNat 0 3000 (up2 σ 33 4 0) 0 (by omega) (by omega) hR1 hM1 (by rw [up2_at rfl rfl]; rfl) (by omega)
  have hw : F_X0_write 11 0 0 0 (-1) σ2 = ((b : Int), wrC σ2 b (pk 11 0 0 0 : Nat) (-1)) := write_c (op := 11) (d := 0) (a := 0) (b := 0) n2 (by omega) (by omega) (by omega) (by omega) (by omega)
  have w3 : WF b (b + 1) σ2 (wrC σ2 b (pk 11 0 0 0 : Nat) (-1)) := WF.one
  refine ⟨wrC σ2 b (pk 11 0 0 0 : Nat) (-1), ?_, ⟨b, sgCs_congr s2 (fun i i1 i2 => w3.2.2 i (by omega)), by rw [wrC_34, if_pos rfl], by rw [wrC_4], by omega⟩, fun r hr => by rw [w3.1 r hr, w2.1 r hr, hs1 r hr], fun i hi => by rw [w3.2.1 i hi, w2.2.1 i hi, up2_idx hi]⟩
  have e2' : iter (fun z : (Int × Sg) => L_X0_compile_7 z.1 z.2) 3000 (0, up2 σ 33 4 0) = some σ2 := e2
  unfold F_X0_compile
  rw [bnd_eq, e2', Option.bind_some, hw, bnd_eq]
