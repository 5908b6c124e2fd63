/-! what the tree FIRST tells: counts, leaves, the example -/
theorem lst_of {pf : Nat → Pth} {b : Pth → Bool} {N : Nat} (hi : ∀ a c, a < N → c < N → pf a = pf c → a = c) : ∀ k : Nat, k ≤ N → ∃ L : List Pth, L.length = cl (fun n => b (pf n)) k ∧ L.Nodup ∧ ∀ P, P ∈ L ↔ ∃ n, n < k ∧ b (pf n) = true ∧ pf n = P
  | 0, _ => ⟨[], rfl, List.nodup_nil, fun P => ⟨fun h => (by cases h), fun ⟨n, h, _⟩ => (by omega)⟩⟩
  | k + 1, hk => by
    obtain ⟨L, l1, l2, l3⟩ := lst_of hi k (by omega)
    by_cases g : b (pf k) = true
    · refine ⟨pf k :: L, by rw [List.length_cons, cl_s, if_pos g, l1], ?_, fun P => ?_⟩
      · rw [List.nodup_cons]
        refine ⟨fun q => ?_, l2⟩
        obtain ⟨n, n1, n2, n3⟩ := (l3 _).mp q
        have := hi n k (by omega) (by omega) n3
        omega
      · rw [List.mem_cons, l3]
        constructor
        · rintro (q | ⟨n, n1, n2, n3⟩)
          · exact ⟨k, by omega, g, q.symm⟩
          · exact ⟨n, by omega, n2, n3⟩
        · rintro ⟨n, n1, n2, n3⟩
          by_cases q : n = k
          · rw [q] at n3; exact Or.inl n3.symm
          · exact Or.inr ⟨n, by omega, n2, n3⟩
    · refine ⟨L, by rw [cl_s, if_neg g, l1]; rfl, l2, fun P => ?_⟩
      rw [l3]
      constructor
      · rintro ⟨n, n1, n2, n3⟩
        exact ⟨n, by omega, n2, n3⟩
      · rintro ⟨n, n1, n2, n3⟩
        by_cases q : n = k
        · rw [q] at n2; exact absurd n2 g
        · exact ⟨n, by omega, n2, n3⟩
theorem TreeOK.cl_eq {τ : Sg} {m : Bool} {N N' : Nat} {ask ask' : Nat → Ask} {ch ch' : Nat → Nat → Nat} {pf pf' : Nat → Pth} (h : TreeOK τ m N ask ch pf) (h' : TreeOK τ m N' ask' ch' pf') (b : Pth → Bool) : cl (fun n => b (pf n)) N = cl (fun n => b (pf' n)) N' := by
  obtain ⟨L, l1, l2, l3⟩ := lst_of (b := b) (fun a c ha hc e => h.inj _ a c (Nat.le_refl _) ha hc e) N (Nat.le_refl _)
  obtain ⟨K, k1, k2, k3⟩ := lst_of (b := b) (fun a c ha hc e => h'.inj _ a c (Nat.le_refl _) ha hc e) N' (Nat.le_refl _)
  have x1 := sub_lenD l2 (m := K) (fun P hP => by
    obtain ⟨n, n1, n2, n3⟩ := (l3 P).mp hP
    obtain ⟨c, c1, c2⟩ := h'.sur (pf n) (h.ap n n1)
    exact (k3 P).mpr ⟨c, c1, by rw [c2]; exact n2, by rw [c2, n3]⟩)
  have x2 := sub_lenD k2 (m := L) (fun P hP => by
    obtain ⟨n, n1, n2, n3⟩ := (k3 P).mp hP
    obtain ⟨c, c1, c2⟩ := h.sur (pf' n) (h'.ap n n1)
    exact (l3 P).mpr ⟨c, c1, by rw [c2]; exact n2, by rw [c2, n3]⟩)
  omega
/-- the given program: whether a case has a leaf -/
theorem hasLeaf_k {τ σ : Sg} {t : Nat} {m : Bool} {pf : Nat → Pth} {S : Nat → Nat} {N B c : Nat} (h : GT τ σ t m pf S N B) (hc : c < 8) : F_X7_hasLeafOf t c σ = true ↔ ∃ n, n < N ∧ ((qry τ m (pf n)).1 = 0 ∨ (qry τ m (pf n)).1 = 1) ∧ (qry τ m (pf n)).2.1 = (c : Int) := by
  have hus := h.us
  rw [← h.ub c hc]
  unfold F_X7_hasLeafOf
  have e := bit_e ⟨(σ t 9).toNat, by omega⟩ ⟨c, hc⟩
  simp only at e
  rw [show (((σ t 9).toNat : Nat) : Int) = σ t 9 by omega] at e
  rw [e]
  by_cases g : (σ t 9).toNat.testBit c = true
  · rw [if_pos g, if_pos rfl, g]
  · rw [if_neg g, if_neg (by decide)]
    exact ⟨fun z => (by cases z), fun z => absurd z g⟩
/-- the given program: which branch leads to a node -/
theorem branchTo_k {τ σ : Sg} {t : Nat} {m : Bool} {pf : Nat → Pth} {S : Nat → Nat} {N B a c i : Nat} (h : GD τ σ t m pf S N B) (hB : B ≤ 499) (ha : a < N) (hi : i < wid τ (qry τ m (pf a))) (hw10 : wid τ (qry τ m (pf a)) ≤ 10) (hc : c < N) (hp : pf c = (qry τ m (pf a), i) :: pf a) : F_X7_branchTo t a c σ = some (i : Int) := by
  have hB6 : B ≤ 600 := by omega
  have hstep : ∀ j : Nat, j < wid τ (qry τ m (pf a)) → (¬ j = i → L_X7_branchTo_2 t a c σ j = some (.inl ((j : Int) + 1))) ∧ (j = i → L_X7_branchTo_2 t a c σ j = some (.inr (.inr (j : Int)))) := fun j hj => by
    obtain ⟨d, d1, d2, d3, d4⟩ := nodeBehind_t h hB ha hj
    have hwr : True → wrap ((j : Int) + 1) = (j : Int) + 1 := fun _ => wrap_id (by omega) (by omega)
    have hdc : d = c ↔ j = i := by
      constructor
      · intro e
        rw [e, hp] at d3
        injection d3 with z1 z2
        injection z1 with z3 z4
        exact z4.symm
      · intro e
        exact h.1.inj d2 hc (by rw [d3, hp, e])
    unfold L_X7_branchTo_2
    rw [widthOf_t h.1 ha hB6, if_neg (by omega), d4 trivial, hwr trivial]
    exact ⟨fun g => by rw [if_neg (fun z => g (hdc.mp (by omega)))], fun g => by rw [if_pos (by have := hdc.mpr g; omega)]⟩
  have hrun : ∀ (d k n : Nat), k + d = i → d < n → iter (fun x : Int => L_X7_branchTo_2 t a c σ x) n (k : Int) = some (.inr (i : Int)) := by
    intro d
    induction d with
    | zero =>
      intro k n hk hn
      obtain ⟨n, rfl⟩ : ∃ z, n = z + 1 := ⟨n - 1, by omega⟩
      have e : k = i := by omega
      rw [iter_r ((hstep k (by omega)).2 e), e]
    | succ d ih =>
      intro k n hk hn
      obtain ⟨n, rfl⟩ : ∃ z, n = z + 1 := ⟨n - 1, by omega⟩
      rw [iter_l ((hstep k (by omega)).1 (by omega)), show (k : Int) + 1 = ((k + 1 : Nat) : Int) by omega]
      exact ih (k + 1) n (by omega) (by omega)
  have e := hrun i 0 3000 (by omega) (by omega)
  have e' : iter (fun x : Int => L_X7_branchTo_2 t a c σ x) 3000 0 = some (.inr (i : Int)) := e
  unfold F_X7_branchTo
  rw [e', Option.bind_some, Sum.elim_inr]
/-- what the way to a leaf tells of a place -/
def exV (f : Int) : Int := if f = -9 then -4 else f
theorem example_l {τ σ : Sg} {t : Nat} {m : Bool} {pf : Nat → Pth} {S : Nat → Nat} {N B : Nat} {pl : Int} (h : GD τ σ t m pf S N B) (hB : B ≤ 499) (hok : ∀ n, n < N → okAs (qry τ m (pf n)) ∧ wid τ (qry τ m (pf n)) ≤ 10) : ∀ (d n k fu : Nat), n ≤ d → n + k ≤ 499 → n < N → d < fu → (hk (pf n) pl = -9 → iter (fun a : (Int × Int) => L_X7_exampleAt_7 t pl σ a.1 a.2) fu ((n : Int), (k : Int)) = some (.inl ())) ∧ (¬ hk (pf n) pl = -9 → iter (fun a : (Int × Int) => L_X7_exampleAt_7 t pl σ a.1 a.2) fu ((n : Int), (k : Int)) = some (.inr (hk (pf n) pl)))
  | d, n, k, fu, hnd, hnk, hn, hfu => by
    obtain ⟨fu, rfl⟩ : ∃ z, fu = z + 1 := ⟨fu - 1, by omega⟩
    have h500 := h.1.n500
    by_cases g : n = 0
    · have hp : pf n = [] := by rw [g]; exact h.1.p0
      rw [hp]
      refine ⟨fun _ => ?_, fun z => absurd rfl z⟩
      rw [iter_r (b := .inl ()) (by
        show L_X7_exampleAt_7 t pl σ n k = _
        unfold L_X7_exampleAt_7
        rw [if_neg (by omega), if_pos (by omega)])]
    · obtain ⟨a, i, a1, a2, a3, a4, a5⟩ := h.1.par n (by omega) hn
      have haN : a < N := by omega
      have hr : True → rdD (-1) σ (t + 4) 500 (n : Int) = a := fun _ => by rw [rdD_ok (by omega) (by omega), show ((n : Int)).toNat = n by omega, a3]
      have hs := fun (_ : True) => sortOf_t (h.1.asks a haN) (hok a haN).1 (show a < 500 by omega)
      have hwr : True → wrap ((k : Int) + 1) = ((k + 1 : Nat) : Int) := fun _ => by rw [wrap_id (by omega) (by omega)]; omega
      have hhk : hk (pf n) pl = if (qry τ m (pf a)).1 = 3 ∧ (qry τ m (pf a)).2.1 = pl then (i : Int) else hk (pf a) pl := by rw [a4]; rfl
      by_cases gq : (qry τ m (pf a)).1 = 3 ∧ (qry τ m (pf a)).2.1 = pl
      · rw [hhk, if_pos gq]
        refine ⟨fun z => by omega, fun _ => ?_⟩
        rw [iter_r (b := .inr (i : Int)) (by
          show L_X7_exampleAt_7 t pl σ n k = _
          unfold L_X7_exampleAt_7
          rw [if_neg (by omega), if_neg (by omega), hr trivial, bnd_eq, (hs trivial).1, (hs trivial).2.1, if_pos gq.1, if_pos gq.2, branchTo_k h hB haN a2 (hok a haN).2 hn a4, Option.bind_some])]
      · rw [hhk, if_neg gq]
        have hstep : L_X7_exampleAt_7 t pl σ n k = some (.inl ((a : Int), ((k + 1 : Nat) : Int))) := by
          unfold L_X7_exampleAt_7 B_X7_exampleAt_56
          rw [if_neg (by omega), if_neg (by omega), hr trivial, bnd_eq, (hs trivial).1, (hs trivial).2.1, hwr trivial]
          by_cases g3 : (qry τ m (pf a)).1 = 3
          · rw [if_pos g3, if_neg (fun z => gq ⟨g3, z⟩)]
          · rw [if_neg g3]
        rw [iter_l (f := fun a : (Int × Int) => L_X7_exampleAt_7 t pl σ a.1 a.2) (a := ((n : Int), (k : Int))) hstep]
        match d, hnd, hfu with
        | 0, hnd, hfu => omega
        | d + 1, hnd, hfu => exact example_l h hB hok d a (k + 1) fu (by omega) (by omega) haN (by omega)
theorem exampleAt_k {τ σ : Sg} {t : Nat} {m : Bool} {pf : Nat → Pth} {S : Nat → Nat} {N B n : Nat} {pl : Int} (h : GD τ σ t m pf S N B) (hB : B ≤ 499) (hok : ∀ n, n < N → okAs (qry τ m (pf n)) ∧ wid τ (qry τ m (pf n)) ≤ 10) (h8 : σ t 8 = n) (hn : n < N) : F_X7_exampleAt t pl σ = some (exV (hk (pf n) pl)) := by
  have h500 := h.1.n500
  obtain ⟨e1, e2⟩ := example_l (pl := pl) h hB hok 499 n 0 501 (by omega) (by omega) hn (by omega)
  unfold F_X7_exampleAt exV
  rw [h8, bnd_eq]
  by_cases g : hk (pf n) pl = -9
  · have e1' : iter (fun a : (Int × Int) => L_X7_exampleAt_7 t pl σ a.1 a.2) 501 ((n : Int), 0) = some (.inl ()) := e1 g
    rw [e1', Option.bind_some, Sum.elim_inl, if_pos g]
  · have e2' : iter (fun a : (Int × Int) => L_X7_exampleAt_7 t pl σ a.1 a.2) 501 ((n : Int), 0) = some (.inr (hk (pf n) pl)) := e2 g
    rw [e2', Option.bind_some, Sum.elim_inr, if_neg g]
/-- the first leaf that misses, by the order of the branches -/
def FMs (τ : Sg) (m : Bool) (P : Pth) : Prop := AP τ m P ∧ (qry τ m P).1 = 2 ∧ ∀ Q, AP τ m Q → (qry τ m Q).1 = 2 → Q = P ∨ lx (rp P) (rp Q)
theorem FMs.eq {τ : Sg} {m : Bool} {P Q : Pth} (h : FMs τ m P) (h' : FMs τ m Q) : P = Q := by
  rcases h.2.2 Q h'.1 h'.2.1 with g | g
  · exact g.symm
  · rcases h'.2.2 P h.1 h.2.1 with k | k
    · exact k
    · exact absurd (lx_trans _ _ _ g k) (lx_irr _)
/-- the least of the numbers with a property -/
theorem least_ex (b : Nat → Prop) : ∀ N : Nat, (∃ n, n < N ∧ b n) → ∃ n, n < N ∧ b n ∧ ∀ j, j < n → ¬ b j
  | 0, ⟨n, h, _⟩ => by omega
  | N + 1, ⟨n, h1, h2⟩ => by
    by_cases g : ∃ n, n < N ∧ b n
    · obtain ⟨k, k1, k2, k3⟩ := least_ex b N g
      exact ⟨k, by omega, k2, k3⟩
    · refine ⟨n, h1, h2, fun j hj hb => g ⟨j, by omega, hb⟩⟩
theorem firstMissed_k {τ σ : Sg} {t : Nat} {m : Bool} {pf : Nat → Pth} {S : Nat → Nat} {N B : Nat} (h : GD τ σ t m pf S N B) (hm : 0 < cl (fun n => decide ((qry τ m (pf n)).1 = 2)) N) : ∃ n : Nat, n < N ∧ σ t 8 = n ∧ FMs τ m (pf n) := by
  have hex : ∃ n, n < N ∧ (qry τ m (pf n)).1 = 2 := by
    by_cases g : ∃ n, n < N ∧ (qry τ m (pf n)).1 = 2
    · exact g
    · have := cl_up (b := fun n => decide ((qry τ m (pf n)).1 = 2)) (m := 0) N (fun c _ hc => decide_eq_false (fun z => g ⟨c, by omega, z⟩))
      rw [Nat.zero_add] at this
      rw [this] at hm
      exact absurd hm (Nat.lt_irrefl 0)
  obtain ⟨n, n1, n2, n3⟩ := least_ex (fun n => (qry τ m (pf n)).1 = 2) N hex
  refine ⟨n, n1, h.1.fm n n1 n2 n3, h.1.ap n n1, n2, fun Q hQ hQ2 => ?_⟩
  obtain ⟨c, c1, c2⟩ := h.tree.sur Q hQ
  rw [← c2] at hQ2 ⊢
  rcases Nat.lt_trichotomy c n with g | g | g
  · exact absurd hQ2 (n3 c g)
  · exact Or.inl (by rw [g])
  · exact Or.inr (h.1.ord n c g c1)
