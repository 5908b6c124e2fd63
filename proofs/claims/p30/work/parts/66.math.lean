/-! list -/
def okl (τ : Sg) (m i x : Int) : Prop := (i < m → fitsK τ x 4) ∧ (m ≤ i → x = -1)
theorem lsC {σ τ : Sg} {m a2 a3 i : Int} (h : RP σ τ) (hi : 0 ≤ i ∧ i < 2) (hv : i < m → pl τ (F_X10_pick i a2 a3 (-1))) :
    (okl τ m i (F_X10_pick i a2 a3 (-1)) → L_X10_list_43 m a2 a3 σ i = some (.inl (i + 1))) ∧ (¬ okl τ m i (F_X10_pick i a2 a3 (-1)) → L_X10_list_43 m a2 a3 σ i = some (.inr (.inr (.inr 1, σ)))) := by
  unfold okl L_X10_list_43
  rw [if_neg (by omega), bnd_eq]
  generalize F_X10_pick i a2 a3 (-1) = x at *
  by_cases h1 : i < m
  · rw [if_neg (by omega)]
    have hf := fits5 (k := 4) h (hv h1)
    by_cases h2 : fitsK τ x 4
    · rw [hf.mpr h2]; unfold B_X10_list_89; rw [if_pos rfl, wrap_id (by omega) (by omega)]
      exact ⟨fun _ => rfl, fun q => absurd ⟨fun _ => h2, fun q => by omega⟩ q⟩
    · have hff : ¬ F_X5_fits x 4 σ = true := fun q => h2 (hf.mp q)
      unfold B_X10_list_89; rw [if_neg hff]
      exact ⟨fun q => absurd (q.1 h1) h2, fun _ => rfl⟩
  · rw [if_pos (by omega)]
    by_cases h2 : x = -1
    · rw [if_pos h2]; unfold B_X10_list_89; rw [if_pos rfl, wrap_id (by omega) (by omega)]
      exact ⟨fun _ => rfl, fun q => absurd ⟨fun q => by omega, fun q => h2⟩ q⟩
    · rw [if_neg h2]; unfold B_X10_list_89; rw [if_neg (by simp)]
      exact ⟨fun q => absurd (q.2 (by omega)) h2, fun _ => rfl⟩
theorem lsM1 {τ : Sg} {m i bd x : Int} {r y need : Bool} (hW : WFP τ) (hi : 0 ≤ i ∧ i < 2) (hm : need = true ↔ i < m) : ∃ x' y' b', B_X11_list_61 r y bd i x need τ = some (.inl (x', y', b', i + 1)) ∧ (x' = true ↔ r = true ∧ (i < m → pl τ x)) ∧ (x' = true → b' = jor bd (nmN τ m i x) ∧ (y' = true ↔ y = true ∧ okl τ m i x ∧ jand (nmN τ m i x) bd = 0)) := by
  have w2 := hW.2.1
  have hj0 : jand 0 bd = 0 := by rw [jand_c]; exact jand_0 bd
  unfold okl nmN
  unfold B_X11_list_61
  rw [bnd_eq]
  generalize hv : F_X11_isPattern x τ = v
  have hvp : v = true ↔ pl τ x := by rw [← hv]; exact isPat hW
  have main : ∀ r' : Bool, (r' = true ↔ r = true ∧ (i < m → pl τ x)) → ∃ x' y' b', B_X11_list_91 y bd i x need v r' τ = some (.inl (x', y', b', i + 1)) ∧ (x' = true ↔ r = true ∧ (i < m → pl τ x)) ∧ (x' = true → b' = jor bd (if i < m then τ 15 x.toNat else 0) ∧ (y' = true ↔ y = true ∧ ((i < m → fitsK τ x 4) ∧ (m ≤ i → x = -1)) ∧ jand (if i < m then τ 15 x.toNat else 0) bd = 0)) := by
    intro r' hr'
    have tail : ∀ z : Bool, (r' = true → (z = true ↔ y = true ∧ ((i < m → fitsK τ x 4) ∧ (m ≤ i → x = -1)) ∧ jand (if i < m then τ 15 x.toNat else 0) bd = 0)) → ∃ x' y' b', B_X11_list_145 r' bd i x need v z τ = some (.inl (x', y', b', i + 1)) ∧ (x' = true ↔ r = true ∧ (i < m → pl τ x)) ∧ (x' = true → b' = jor bd (if i < m then τ 15 x.toNat else 0) ∧ (y' = true ↔ y = true ∧ ((i < m → fitsK τ x 4) ∧ (m ≤ i → x = -1)) ∧ jand (if i < m then τ 15 x.toNat else 0) bd = 0)) := by
      intro z hz
      unfold B_X11_list_145 B_X11_list_169 B_X11_list_170
      cases need with
      | false =>
        have g1 : ¬ i < m := fun q => by have := hm.mpr q; cases this
        rw [if_neg (by simp), bnd_eq, wrap_id (by omega) (by omega)]
        exact ⟨r', z, _, rfl, hr', fun q => ⟨by rw [if_neg g1], hz q⟩⟩
      | true =>
        have g1 : i < m := hm.mp rfl
        rw [if_pos rfl]
        cases v with
        | false =>
          rw [if_neg (by simp), bnd_eq, wrap_id (by omega) (by omega)]
          refine ⟨r', z, _, rfl, hr', fun q => ?_⟩
          have := hvp.mpr ((hr'.mp q).2 g1)
          cases this
        | true =>
          have g2 := hvp.mp rfl
          rw [if_pos rfl, rdn_ok g2.1 (by have := g2.2; omega), Option.bind_some, bnd_eq, wrap_id (by omega) (by omega)]
          exact ⟨r', z, _, rfl, hr', fun q => ⟨by rw [if_pos g1], hz q⟩⟩
    unfold B_X11_list_91 B_X11_list_144 B_X11_list_140
    cases y with
    | false => rw [if_neg (by simp)]; exact tail false (fun _ => by simp)
    | true =>
      rw [if_pos rfl]
      cases need with
      | false =>
        have g1 : ¬ i < m := fun q => by have := hm.mpr q; cases this
        rw [if_neg (by simp)]
        by_cases g3 : x = -1
        · rw [if_pos g3]; exact tail true (fun _ => ⟨fun _ => ⟨rfl, ⟨fun q => absurd q g1, fun _ => g3⟩, by rw [if_neg g1]; exact hj0⟩, fun _ => rfl⟩)
        · rw [if_neg g3]; exact tail false (fun _ => ⟨(fun h => by cases h), fun q => absurd (q.2.1.2 (by omega)) g3⟩)
      | true =>
        have g1 : i < m := hm.mp rfl
        rw [if_pos rfl]
        cases v with
        | false => rw [if_neg (by simp)]; exact tail false (fun q => by have := hvp.mpr ((hr'.mp q).2 g1); cases this)
        | true =>
          have g2 := hvp.mp rfl
          obtain ⟨z, z1, z2⟩ := suits_c (k := 4) hW g2
          rw [if_pos rfl, z1, Option.bind_some]
          by_cases g3 : fitsK τ x 4
          · rw [if_pos (z2.mpr g3), rdn_ok g2.1 (by have := g2.2; omega), Option.bind_some]
            by_cases g4 : jand (τ 15 x.toNat) bd = 0
            · rw [if_pos g4]; exact tail true (fun _ => ⟨fun _ => ⟨rfl, ⟨fun _ => g3, fun q => by omega⟩, by rw [if_pos g1]; exact g4⟩, fun _ => rfl⟩)
            · rw [if_neg g4]; exact tail false (fun _ => ⟨(fun h => by cases h), fun q => by rw [if_pos g1] at q; exact absurd q.2.2 g4⟩)
          · rw [if_neg (fun q => g3 (z2.mp q))]; exact tail false (fun _ => ⟨(fun h => by cases h), fun q => absurd (q.2.1.1 g1) g3⟩)
  unfold B_X11_list_86 B_X11_list_90
  cases r with
  | false => rw [if_neg (by simp)]; exact main false (by simp)
  | true =>
    rw [if_pos rfl]
    cases need with
    | false =>
      have g1 : ¬ i < m := fun q => by have := hm.mpr q; cases this
      rw [if_neg (by simp)]; exact main true (by simp [g1])
    | true =>
      have g1 : i < m := hm.mp rfl
      rw [if_pos rfl]
      cases v with
      | false =>
        have g2 : ¬ pl τ x := fun q => by have := hvp.mpr q; cases this
        rw [if_neg (by simp)]; exact main false (by simp [g1, g2])
      | true =>
        have g2 := hvp.mp rfl
        rw [if_pos rfl]; exact main true (by simp [g2])
theorem lsM {τ : Sg} {a1 a2 a3 i bd m : Int} {r y im : Bool} (hW : WFP τ) (hi : 0 ≤ i ∧ i < 2) (hm : m = if im = true then a1 else 0) : ∃ x' y' b', L_X11_list_27 a1 a2 a3 im τ r y bd i = some (.inl (x', y', b', i + 1)) ∧ (x' = true ↔ r = true ∧ (i < m → pl τ (F_X10_pick i a2 a3 (-1)))) ∧ (x' = true → b' = jor bd (nmN τ m i (F_X10_pick i a2 a3 (-1))) ∧ (y' = true ↔ y = true ∧ okl τ m i (F_X10_pick i a2 a3 (-1)) ∧ jand (nmN τ m i (F_X10_pick i a2 a3 (-1))) bd = 0)) := by
  have h43 : ∀ x : Int, ∃ x' y' b', B_X11_list_43 a1 im r y bd i x τ = some (.inl (x', y', b', i + 1)) ∧ (x' = true ↔ r = true ∧ (i < m → pl τ x)) ∧ (x' = true → b' = jor bd (nmN τ m i x) ∧ (y' = true ↔ y = true ∧ okl τ m i x ∧ jand (nmN τ m i x) bd = 0)) := by
    intro x
    unfold B_X11_list_43 B_X11_list_60
    cases im with
    | false => rw [if_neg (by simp)]; rw [if_neg (by simp)] at hm; exact lsM1 hW hi (by constructor <;> intro q; (cases q); omega)
    | true =>
      rw [if_pos rfl] at hm
      rw [if_pos rfl]
      by_cases g : a1 ≤ i
      · rw [if_pos g]; exact lsM1 hW hi (by constructor <;> intro q; (cases q); omega)
      · rw [if_neg g]; exact lsM1 hW hi (by constructor <;> intro q; omega; rfl)
  unfold L_X11_list_27
  rw [if_neg (by omega)]
  have : i = 0 ∨ i = 1 := by omega
  rcases this with rfl | rfl
  · rw [if_pos rfl]; exact h43 a2
  · rw [if_neg (by omega)]; exact h43 a3
theorem lsM_f {τ : Sg} {a1 a2 a3 : Int} {im : Bool} (hW : WFP τ) : ∀ (m : Nat) (y : Bool) (b i : Int), 0 ≤ i → i ≤ 2 → 2 - i < m → ∃ y', iter (fun a : (Bool × Bool × Int × Int) => L_X11_list_27 a1 a2 a3 im τ a.1 a.2.1 a.2.2.1 a.2.2.2) m (false, y, b, i) = some (false, y')
  | 0, y, b, i, h0, h1, h2 => by omega
  | m + 1, y, b, i, h0, h1, h2 => by
    by_cases h : i = 2
    · subst h; exact ⟨y, iter_r (f := fun a : (Bool × Bool × Int × Int) => L_X11_list_27 a1 a2 a3 im τ a.1 a.2.1 a.2.2.1 a.2.2.2) rfl⟩
    · obtain ⟨x', y', b', g1, g2, g3⟩ := lsM (τ := τ) (a1 := a1) (a2 := a2) (a3 := a3) (i := i) (bd := b) (r := false) (y := y) (im := im) hW ⟨h0, by omega⟩ rfl
      have hx : x' = false := by
        cases x' with
        | false => rfl
        | true => have := (g2.mp rfl).1; cases this
      subst hx
      obtain ⟨y2, e2⟩ := lsM_f hW m y' b' (i + 1) (by omega) (by omega) (by omega)
      exact ⟨y2, (iter_l (f := fun a : (Bool × Bool × Int × Int) => L_X11_list_27 a1 a2 a3 im τ a.1 a.2.1 a.2.2.1 a.2.2.2) (a := (false, y, b, i)) g1).trans e2⟩
theorem all2 {P : Int → Prop} : (∀ j : Int, 0 ≤ j → j < 2 → P j) ↔ P 0 ∧ P 1 := by
  constructor
  · intro h; exact ⟨h 0 (by omega) (by omega), h 1 (by omega) (by omega)⟩
  · rintro ⟨h0, h1⟩ j h3 h4
    have : j = 0 ∨ j = 1 := by omega
    rcases this with rfl | rfl
    · exact h0
    · exact h1
set_option maxHeartbeats 4000000 in
theorem op_list {σ τ : Sg} (a1 a2 a3 a4 : Int) (h : RP σ τ) (hF : WFK (τ 1) (τ 2) (τ 3)) : OpP [(0, 1), (1, 2), (2, 3)] (F_X10_list a1 a2 a3 a4 σ) (F_X11_list a1 a2 a3 a4 τ) σ τ := by
  have hW := h.2.1
  have w1 := hW.1
  have w2 := hW.2.1
  have hthrow : ∀ t : Int, ¬ t = 0 → B_X11_list_250 a1 a2 a3 a4 t τ = some (0, up2 τ 0 0 t) := fun t ht => by
    unfold B_X11_list_250; rw [bnd_eq, refused_n ht]; rfl
  have f1 : B_X11_list_216 a1 a2 a3 a4 false τ = some (0, up2 τ 0 0 1) := by
    unfold B_X11_list_216 B_X11_list_217; rw [if_neg (by simp), hthrow 1 (by omega)]
  have f2 : B_X11_list_216 a1 a2 a3 a4 true τ = some (0, up2 τ 0 0 2) := by
    unfold B_X11_list_216 B_X11_list_217; rw [if_pos rfl, if_neg (by simp), hthrow 2 (by omega)]
  obtain ⟨m, hm, hm3⟩ : ∃ m : Int, m = (if F_X10_isIn a1 0 2 = true then a1 else 0) ∧ 0 ≤ m ∧ m ≤ 2 := by
    refine ⟨_, rfl, ?_⟩
    by_cases c : 0 ≤ a1 ∧ a1 ≤ 2
    · rw [if_pos (isIn_iff.mpr c)]; exact c
    · rw [if_neg (fun q => c (isIn_iff.mp q))]; omega
  have him : F_X11_in a1 0 2 = F_X10_isIn a1 0 2 := rfl
  have hclass : F_X10_list a1 a2 a3 a4 σ = B_X10_list_19 a1 a2 a3 a4 (F_X10_isIn a1 0 2) m σ := by
    unfold F_X10_list
    rw [bnd_eq, hm]
    split <;> rfl
  rw [hclass]
  unfold B_X10_list_19 F_X11_list
  rw [bnd_eq, bnd_eq, him]
  generalize hn0 : nmN τ m 0 a2 = n0
  generalize hn1 : nmN τ m 1 a3 = n1
  have hN : ∀ i, 0 ≤ i → i < 2 → nmN τ m i (F_X10_pick i a2 a3 (-1)) = F_X10_pick i n0 n1 0 := by
    intro i i0 i3
    have : i = 0 ∨ i = 1 := by omega
    rcases this with rfl | rfl
    · exact hn0
    · exact hn1
  have hall : (∀ i : Int, 0 ≤ i → i < 2 → i < m → pl τ (F_X10_pick i a2 a3 (-1))) ↔ ∀ i : Int, 0 ≤ i → i < m → pl τ (F_X10_pick i a2 a3 (-1)) :=
    ⟨fun q i i0 i1 => q i i0 (by omega) i1, fun q i i0 i1 i2 => q i i0 i2⟩
  by_cases cr : 0 ≤ a4 ∧ a4 ≤ 2
  · have hr4 : F_X11_in a4 0 2 = true := in_iff.mpr cr
    have hr4' : F_X10_isIn a4 0 2 = true := isIn_iff.mpr cr
    obtain ⟨x, y, g1, g2, g3⟩ := for_f3 (f := fun a : Bool × Bool × Int × Int => L_X11_list_27 a1 a2 a3 (F_X10_isIn a1 0 2) τ a.1 a.2.1 a.2.2.1 a.2.2.2) (n := 2) (P := fun i => i < m → pl τ (F_X10_pick i a2 a3 (-1))) (Q := fun i => okl τ m i (F_X10_pick i a2 a3 (-1))) (N := fun i => F_X10_pick i n0 n1 0) (bd := bd3 n0 n1 0) (fun j j1 j2 => bd3_s j j1 (by omega)) (fun x y b => rfl) (fun m y b i i0 i1 i2 => lsM_f hW m y b i i0 i1 i2) 3 0 (F_X10_isIn a1 0 2) (by omega) (by omega) (by omega) (fun y j j1 j2 => by
      obtain ⟨x', y', b', e1, e2, e3⟩ := lsM (τ := τ) (a1 := a1) (a2 := a2) (a3 := a3) (i := j) (bd := bd3 n0 n1 0 j) (r := true) (y := y) (im := F_X10_isIn a1 0 2) hW ⟨j1, j2⟩ hm
      rw [hN j j1 j2] at e3
      exact ⟨x', y', b', e1, e2.trans ⟨fun q => q.2, fun q => ⟨rfl, q⟩⟩, e3⟩)
    have hg1 : iter (fun a : Bool × Bool × Int × Int => L_X11_list_27 a1 a2 a3 (F_X10_isIn a1 0 2) τ a.1 a.2.1 a.2.2.1 a.2.2.2) 3 (true, F_X10_isIn a1 0 2, 0, 0) = some (x, y) := g1
    rw [hr4, hg1, Option.bind_some]
    by_cases c2 : ∀ i, 0 ≤ i → i < m → pl τ (F_X10_pick i a2 a3 (-1))
    · have hx : x = true := g2.mpr (hall.mpr c2)
      subst hx
      have g4 := g3 rfl
      rw [demP_ok h ⟨hm3.1, by omega⟩ c2, if_pos rfl]
      show OpP _ (if F_X10_isIn a4 0 2 = true then _ else _) _ σ τ
      rw [if_pos hr4']
      by_cases cm : 0 ≤ a1 ∧ a1 ≤ 2
      · have hmt : F_X10_isIn a1 0 2 = true := isIn_iff.mpr cm
        rw [hmt] at g4 ⊢
        rw [hmt, if_pos rfl] at hm
        subst hm
        rw [if_pos rfl]
        by_cases c3 : ∀ i, 0 ≤ i → i < 2 → okl τ m i (F_X10_pick i a2 a3 (-1))
        · rw [for_ok (f := fun a : Int => L_X10_list_43 m a2 a3 σ a) (n := 2) (e := .inl ()) rfl 3 0 (by omega) (by omega) (fun j j1 j2 => (lsC h ⟨j1, j2⟩ (c2 j j1)).1 (c3 j j1 j2)), Option.bind_some, Sum.elim_inl]
          have po : ∀ i : Int, 0 ≤ i → i < 2 → plo τ (F_X10_pick i a2 a3 (-1)) := fun i i0 i3 => by
            by_cases g : i < m
            · exact Or.inr (c2 i i0 g)
            · exact Or.inl ((c3 i i0 i3).2 (by omega))
          have p0 : plo τ a2 := po 0 (by omega) (by omega)
          have p1 : plo τ a3 := po 1 (by omega) (by omega)
          have p2 : plo τ (-1) := Or.inl rfl
          have en : ∀ (i x : Int), okl τ m i x → (i < m → pl τ x) → nmN τ m i x = nmo τ x := fun i x g gv => by
            unfold nmN nmo
            by_cases g1 : i < m
            · rw [if_pos g1, if_neg (by have := (gv g1).1; omega)]
            · have := g.2 (by omega)
              rw [if_neg g1, if_pos (by omega)]
          have e0 : n0 = nmo τ a2 := by rw [← hn0]; exact en 0 a2 (c3 0 (by omega) (by omega)) (c2 0 (by omega))
          have e1 : n1 = nmo τ a3 := by rw [← hn1]; exact en 1 a3 (c3 1 (by omega) (by omega)) (c2 1 (by omega))
          have N0 : 0 ≤ n0 ∧ n0 < 64 := by rw [e0]; exact nmo64 hW p0
          have N1 : 0 ≤ n1 ∧ n1 < 64 := by rw [e1]; exact nmo64 hW p1
          have hap : (y = true) ↔ apS τ a2 a3 (-1) := by
            rw [g4]
            have := apart_iff N0 N1 (show (0 : Int) ≤ 0 ∧ (0 : Int) < 64 by omega)
            unfold apS
            rw [show nmo τ (-1) = 0 from rfl, ← e0, ← e1, ← this]
            constructor
            · rintro ⟨-, q⟩
              exact ⟨(q 0 (by omega) (by omega)).2, (q 1 (by omega) (by omega)).2, by rw [jand_c]; exact jand_0 _⟩
            · rintro ⟨q0, q1, q2⟩
              refine ⟨rfl, fun j j1 j2 => ⟨c3 j j1 j2, ?_⟩⟩
              have : j = 0 ∨ j = 1 := by omega
              rcases this with rfl | rfl
              · exact q0
              · exact q1
          have hcp := canParts5 h p0 p1 p2
          rw [depthM hW p0 p1 p2, size11 hW p0 p1 p2, Option.bind_some, Option.bind_some]
          by_cases c4 : ptS τ a2 a3 (-1)
          · obtain ⟨d1, d2, d3⟩ := id c4
            rw [if_pos (hcp.mpr c4), if_pos (hap.mpr d1), if_neg (show ¬ 4 < max3 (dpo τ a2) (dpo τ a3) (dpo τ (-1)) + 1 by omega), if_neg (show ¬ 40 < 1 + szo τ a2 + szo τ a3 + szo τ (-1) by omega)]
            unfold B_X11_list_217
            rw [if_pos rfl, if_pos rfl]
            have hcls : (if a4 = 2 then B_X10_list_124 m a2 a3 a4 7 σ else B_X10_list_124 m a2 a3 a4 6 σ) = xb (F_X10_keepPattern (if a4 = 2 then 7 else 6) 5 m (if a4 = 0 then m else 3) a2 a3 (-1) σ) (fun E σ => some (.inr E, σ)) fun v12 s13 => some (.inl v12, s13) := by
              unfold B_X10_list_124 B_X10_list_136
              by_cases q2 : a4 = 2
              · rw [if_pos q2, if_neg (by omega), if_pos q2, if_neg (by omega)]
              · rw [if_neg q2, if_neg q2]
                by_cases q0 : a4 = 0
                · rw [if_pos q0, if_pos q0]
                · rw [if_neg q0, if_neg q0]
            rw [hcls]
            by_cases c : τ 0 9 = 60
            · rw [if_pos (isFull_iff.mpr c), full_c h c]
              exact Or.inl ⟨2, 3, rfl, hthrow 3 (by omega), rfl, by decide, by decide⟩
            · obtain ⟨n, hN9⟩ : ∃ n : Nat, τ 0 9 = n := ⟨(τ 0 9).toNat, by omega⟩
              obtain ⟨σ', τ', k1, k2, k3, k4⟩ := push_all (so := if a4 = 2 then 7 else 6) (lo := m) (hi := if a4 = 0 then m else 3) (fm := 6) (hd := m) (rs := a4) (p0 := a2) (p1 := a3) (p2 := -1) (kd := 5) h hN9 (by omega) hF
                ⟨by omega, (plo_ok hN9).mp p0, (plo_ok hN9).mp p1, Or.inl rfl, d2, (by rw [if_neg (by omega)]; omega), fun h => by omega, fun h => by omega, fun h => by omega, fun h => by omega, fun h => by omega, fun h => by omega, fun _ => ⟨hm3, cr, rfl, rfl, fun k hk2 => by
                  have hq := c3 k (by omega) (by omega)
                  have hpk : F_X10_pick k a2 a3 (-1) = F_X10_pick k a2 a3 (-1) := rfl
                  exact ⟨fun hlt => hq.1 hlt, fun hge => hq.2 hge⟩⟩⟩ (by by_cases q2 : a4 = 2 <;> simp [q2]) (by rw [if_neg (by omega)]) (by simp)
              rw [if_neg (fun q => c (isFull_iff.mp q)), k1]
              refine Or.inr ⟨n, σ', τ', ⟨rfl, ?_, k3⟩, k4⟩
              unfold B_X11_list_250; rw [bnd_eq, refused_0, if_neg (by simp)]
              show ((F_X11_pattern 6 m a4 a2 a3 (-1) 5 (up2 τ 0 0 0)).bind _) = _
              rw [k2]; rfl
          · rw [if_neg (fun q => c4 (hcp.mp q))]
            refine Or.inl ⟨1, 2, rfl, ?_, rfl, by decide, by decide⟩
            by_cases d1 : apS τ a2 a3 (-1)
            · rw [if_pos (hap.mpr d1)]
              by_cases d3 : 4 < max3 (dpo τ a2) (dpo τ a3) (dpo τ (-1)) + 1
              · rw [if_pos d3, f2]
              · rw [if_neg d3, if_pos (by
                  refine Classical.byContradiction fun q => c4 ⟨d1, by omega, by omega⟩), f2]
            · rw [if_neg (fun q => d1 (hap.mp q)), f2]
        · have hy : ¬ y = true := fun q => c3 (fun j j1 j2 => ((g4.mp q).2 j j1 j2).1)
          refine Or.inl ⟨1, 2, ?_, ?_, rfl, by decide, by decide⟩
          · rw [for_no (f := fun a : Int => L_X10_list_43 m a2 a3 σ a) (n := 2) (r := .inr (.inr 1, σ)) (P := fun i => okl τ m i (F_X10_pick i a2 a3 (-1))) 3 0 (by omega) (by omega) (fun j j1 j2 j3 => (lsC h ⟨j1, j2⟩ (c2 j j1)).1 j3) (fun j j1 j2 j3 => (lsC h ⟨j1, j2⟩ (c2 j j1)).2 j3) c3]; rfl
          · rw [if_neg hy, f2]
      · have hmf : ¬ F_X10_isIn a1 0 2 = true := fun q => cm (isIn_iff.mp q)
        have hy : ¬ y = true := fun q => hmf (g4.mp q).1
        refine Or.inl ⟨1, 2, ?_, ?_, rfl, by decide, by decide⟩
        · rw [if_neg hmf]
        · rw [if_neg hy, f2]
    · have hx : ¬ x = true := fun q => c2 (hall.mp (g2.mp q))
      have hx2 : x = false := by cases x <;> simp at hx ⊢
      subst hx2
      refine Or.inl ⟨0, 1, ?_, ?_, rfl, by decide, by decide⟩
      · rw [demP_no h ⟨hm3.1, by omega⟩ c2]; rfl
      · rw [if_neg (by simp), f1]
  · have hr4 : F_X11_in a4 0 2 = false := by
      cases hq : F_X11_in a4 0 2 with
      | false => rfl
      | true => exact absurd (in_iff.mp hq) cr
    have hr4' : ¬ F_X10_isIn a4 0 2 = true := fun q => cr (isIn_iff.mp q)
    obtain ⟨y, e⟩ := lsM_f (τ := τ) (a1 := a1) (a2 := a2) (a3 := a3) (im := F_X10_isIn a1 0 2) hW 3 (F_X10_isIn a1 0 2) 0 0 (by omega) (by omega) (by omega)
    rw [hr4]
    refine Or.inl ⟨0, 1, ?_, ?_, rfl, by decide, by decide⟩
    · by_cases c2 : ∀ i, 0 ≤ i → i < m → pl τ (F_X10_pick i a2 a3 (-1))
      · rw [demP_ok h ⟨hm3.1, by omega⟩ c2]
        show (if F_X10_isIn a4 0 2 = true then _ else _) = _
        rw [if_neg hr4']
      · rw [demP_no h ⟨hm3.1, by omega⟩ c2]; rfl
    · rw [e, Option.bind_some, if_neg (by simp), f1]
