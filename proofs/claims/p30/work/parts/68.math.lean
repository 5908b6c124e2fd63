/-! add -/
def okA (τ : Sg) (m i x : Int) : Prop := (i < m → fitsK τ x (τ 19 i.toNat)) ∧ (m ≤ i → x = -1)
theorem adM1 {τ : Sg} {m i bd x : Int} {r y need : Bool} (hW : WFP τ) (hi : 0 ≤ i ∧ i < 3) (hm : need = true ↔ i < m) : ∃ x' y' b', B_X11_add_49 r y bd i x need τ = some (.inl (x', y', b', i + 1)) ∧ (x' = true ↔ r = true ∧ (i < m → pl τ x)) ∧ (x' = true → b' = jor bd (nmN τ m i x) ∧ (y' = true ↔ y = true ∧ okA τ m i x ∧ jand (nmN τ m i x) bd = 0)) := by
  have w2 := hW.2.1
  have hj0 : jand 0 bd = 0 := by rw [jand_c]; exact jand_0 bd
  unfold okA nmN
  unfold B_X11_add_49
  rw [bnd_eq]
  generalize hv : F_X11_isPattern x τ = v
  have hvp : v = true ↔ pl τ x := by rw [← hv]; exact isPat hW
  have main : ∀ r' : Bool, (r' = true ↔ r = true ∧ (i < m → pl τ x)) → ∃ x' y' b', B_X11_add_79 y bd i x need v r' τ = some (.inl (x', y', b', i + 1)) ∧ (x' = true ↔ r = true ∧ (i < m → pl τ x)) ∧ (x' = true → b' = jor bd (if i < m then τ 15 x.toNat else 0) ∧ (y' = true ↔ y = true ∧ ((i < m → fitsK τ x (τ 19 i.toNat)) ∧ (m ≤ i → x = -1)) ∧ jand (if i < m then τ 15 x.toNat else 0) bd = 0)) := by
    intro r' hr'
    have tail : ∀ z : Bool, (r' = true → (z = true ↔ y = true ∧ ((i < m → fitsK τ x (τ 19 i.toNat)) ∧ (m ≤ i → x = -1)) ∧ jand (if i < m then τ 15 x.toNat else 0) bd = 0)) → ∃ x' y' b', B_X11_add_139 r' bd i x need v z τ = some (.inl (x', y', b', i + 1)) ∧ (x' = true ↔ r = true ∧ (i < m → pl τ x)) ∧ (x' = true → b' = jor bd (if i < m then τ 15 x.toNat else 0) ∧ (y' = true ↔ y = true ∧ ((i < m → fitsK τ x (τ 19 i.toNat)) ∧ (m ≤ i → x = -1)) ∧ jand (if i < m then τ 15 x.toNat else 0) bd = 0)) := by
      intro z hz
      unfold B_X11_add_139 B_X11_add_163 B_X11_add_164
      cases need with
      | false =>
        have g1 : ¬ i < m := fun q => by have := hm.mpr q; cases this
        rw [if_neg (by simp), bnd_eq, wrap_id (by omega) (by omega)]
        exact ⟨r', z, _, rfl, hr', fun q => ⟨by rw [if_neg g1], hz q⟩⟩
      | true =>
        have g1 : i < m := hm.mp rfl
        rw [if_pos rfl]
        cases v with
        | false =>
          rw [if_neg (by simp), bnd_eq, wrap_id (by omega) (by omega)]
          refine ⟨r', z, _, rfl, hr', fun q => ?_⟩
          have := hvp.mpr ((hr'.mp q).2 g1)
          cases this
        | true =>
          have g2 := hvp.mp rfl
          rw [if_pos rfl, rdn_ok g2.1 (by have := g2.2; omega), Option.bind_some, bnd_eq, wrap_id (by omega) (by omega)]
          exact ⟨r', z, _, rfl, hr', fun q => ⟨by rw [if_pos g1], hz q⟩⟩
    unfold B_X11_add_79 B_X11_add_138 B_X11_add_134
    cases y with
    | false => rw [if_neg (by simp)]; exact tail false (fun _ => by simp)
    | true =>
      rw [if_pos rfl]
      cases need with
      | false =>
        have g1 : ¬ i < m := fun q => by have := hm.mpr q; cases this
        rw [if_neg (by simp)]
        by_cases g3 : x = -1
        · rw [if_pos g3]; exact tail true (fun _ => ⟨fun _ => ⟨rfl, ⟨fun q => absurd q g1, fun _ => g3⟩, by rw [if_neg g1]; exact hj0⟩, fun _ => rfl⟩)
        · rw [if_neg g3]; exact tail false (fun _ => ⟨(fun h => by cases h), fun q => absurd (q.2.1.2 (by omega)) g3⟩)
      | true =>
        have g1 : i < m := hm.mp rfl
        rw [if_pos rfl]
        cases v with
        | false => rw [if_neg (by simp)]; exact tail false (fun q => by have := hvp.mpr ((hr'.mp q).2 g1); cases this)
        | true =>
          have g2 := hvp.mp rfl
          obtain ⟨z, z1, z2⟩ := suits_c (k := τ 19 i.toNat) hW g2
          rw [if_pos rfl, rdn_ok hi.1 hi.2, Option.bind_some, z1, Option.bind_some]
          by_cases g3 : fitsK τ x (τ 19 i.toNat)
          · rw [if_pos (z2.mpr g3), rdn_ok g2.1 (by have := g2.2; omega), Option.bind_some]
            by_cases g4 : jand (τ 15 x.toNat) bd = 0
            · rw [if_pos g4]; exact tail true (fun _ => ⟨fun _ => ⟨rfl, ⟨fun _ => g3, fun q => by omega⟩, by rw [if_pos g1]; exact g4⟩, fun _ => rfl⟩)
            · rw [if_neg g4]; exact tail false (fun _ => ⟨(fun h => by cases h), fun q => by rw [if_pos g1] at q; exact absurd q.2.2 g4⟩)
          · rw [if_neg (fun q => g3 (z2.mp q))]; exact tail false (fun _ => ⟨(fun h => by cases h), fun q => absurd (q.2.1.1 g1) g3⟩)
  unfold B_X11_add_74 B_X11_add_78
  cases r with
  | false => rw [if_neg (by simp)]; exact main false (by simp)
  | true =>
    rw [if_pos rfl]
    cases need with
    | false =>
      have g1 : ¬ i < m := fun q => by have := hm.mpr q; cases this
      rw [if_neg (by simp)]; exact main true (by simp [g1])
    | true =>
      have g1 : i < m := hm.mp rfl
      rw [if_pos rfl]
      cases v with
      | false =>
        have g2 : ¬ pl τ x := fun q => by have := hvp.mpr q; cases this
        rw [if_neg (by simp)]; exact main false (by simp [g1, g2])
      | true =>
        have g2 := hvp.mp rfl
        rw [if_pos rfl]; exact main true (by simp [g2])
theorem adM {τ : Sg} {a1 a2 a3 i bd : Int} {r y : Bool} (hW : WFP τ) (hi : 0 ≤ i ∧ i < 3) : ∃ x' y' b', L_X11_add_19 a1 a2 a3 τ r y bd i = some (.inl (x', y', b', i + 1)) ∧ (x' = true ↔ r = true ∧ (i < τ 0 21 → pl τ (F_X10_pick i a1 a2 a3))) ∧ (x' = true → b' = jor bd (nmN τ (τ 0 21) i (F_X10_pick i a1 a2 a3)) ∧ (y' = true ↔ y = true ∧ okA τ (τ 0 21) i (F_X10_pick i a1 a2 a3) ∧ jand (nmN τ (τ 0 21) i (F_X10_pick i a1 a2 a3)) bd = 0)) := by
  unfold L_X11_add_19
  rw [if_neg (by omega), bnd_eq, qick]
  by_cases g : τ 0 21 ≤ i
  · rw [if_pos g]; exact adM1 hW hi (by constructor <;> intro q; (cases q); omega)
  · rw [if_neg g]; exact adM1 hW hi (by constructor <;> intro q; omega; rfl)
theorem adM_f {τ : Sg} {a1 a2 a3 : Int} (hW : WFP τ) : ∀ (m : Nat) (y : Bool) (b i : Int), 0 ≤ i → i ≤ 3 → 3 - i < m → ∃ y', iter (fun a : (Bool × Bool × Int × Int) => L_X11_add_19 a1 a2 a3 τ a.1 a.2.1 a.2.2.1 a.2.2.2) m (false, y, b, i) = some (false, y')
  | 0, y, b, i, h0, h1, h2 => by omega
  | m + 1, y, b, i, h0, h1, h2 => by
    by_cases h : i = 3
    · subst h; exact ⟨y, iter_r (f := fun a : (Bool × Bool × Int × Int) => L_X11_add_19 a1 a2 a3 τ a.1 a.2.1 a.2.2.1 a.2.2.2) rfl⟩
    · obtain ⟨x', y', b', g1, g2, g3⟩ := adM (τ := τ) (a1 := a1) (a2 := a2) (a3 := a3) (i := i) (bd := b) (r := false) (y := y) hW ⟨h0, by omega⟩
      have hx : x' = false := by
        cases x' with
        | false => rfl
        | true => have := (g2.mp rfl).1; cases this
      subst hx
      obtain ⟨y2, e2⟩ := adM_f hW m y' b' (i + 1) (by omega) (by omega) (by omega)
      exact ⟨y2, (iter_l (f := fun a : (Bool × Bool × Int × Int) => L_X11_add_19 a1 a2 a3 τ a.1 a.2.1 a.2.2.1 a.2.2.2) (a := (false, y, b, i)) g1).trans e2⟩
theorem adC {σ τ : Sg} {a1 a2 a3 i : Int} (h : RP σ τ) (hm : RM σ τ) (hi : 0 ≤ i ∧ i < 3) (hv : i < τ 0 21 → pl τ (F_X10_pick i a1 a2 a3)) :
    (okA τ (τ 0 21) i (F_X10_pick i a1 a2 a3) → L_X10_add_21 a1 a2 a3 (τ 0 21) σ i = some (.inl (i + 1))) ∧ (¬ okA τ (τ 0 21) i (F_X10_pick i a1 a2 a3) → L_X10_add_21 a1 a2 a3 (τ 0 21) σ i = some (.inr (.inr (.inr 1, σ)))) := by
  have hk : F_X4_kindOf i σ = τ 19 i.toNat := by unfold F_X4_kindOf; rw [rdD_ok hi.1 (by omega), hm.2.2.1 _ (by omega)]
  unfold okA L_X10_add_21
  rw [if_neg (by omega), bnd_eq, hk]
  generalize F_X10_pick i a1 a2 a3 = x at *
  by_cases h1 : i < τ 0 21
  · rw [if_neg (by omega)]
    have hf := fits5 (k := τ 19 i.toNat) h (hv h1)
    by_cases h2 : fitsK τ x (τ 19 i.toNat)
    · rw [hf.mpr h2]; unfold B_X10_add_76; rw [if_pos rfl, wrap_id (by omega) (by omega)]
      exact ⟨fun _ => rfl, fun q => absurd ⟨fun _ => h2, fun q => by omega⟩ q⟩
    · have hff : ¬ F_X5_fits x (τ 19 i.toNat) σ = true := fun q => h2 (hf.mp q)
      unfold B_X10_add_76; rw [if_neg hff]
      exact ⟨fun q => absurd (q.1 h1) h2, fun _ => rfl⟩
  · rw [if_pos (by omega)]
    by_cases h2 : x = -1
    · rw [if_pos h2]; unfold B_X10_add_76; rw [if_pos rfl, wrap_id (by omega) (by omega)]
      exact ⟨fun _ => rfl, fun q => absurd ⟨fun q => by omega, fun q => h2⟩ q⟩
    · rw [if_neg h2]; unfold B_X10_add_76; rw [if_neg (by simp)]
      exact ⟨fun q => absurd (q.2 (by omega)) h2, fun _ => rfl⟩
def cA (σ : Sg) (n p0 p1 p2 r : Int) : Sg := up2 (up2 (up2 (up2 (up2 (up2 (up2 (up2 (up2 (F_X10_forgetEngines σ) 24 1 (n + 1)) 26 (n * 8 + 0).toNat p0) 26 (n * 8 + 1).toNat p1) 26 (n * 8 + 2).toNat p2) 26 (n * 8 + 3).toNat r) 26 (n * 8 + 4).toNat (-1)) 26 (n * 8 + 5).toNat 0) 26 (n * 8 + 6).toNat 0) 26 (n * 8 + 7).toNat 0
def mA (τ : Sg) (n p0 p1 p2 r : Int) : Sg := up2 (up2 (up2 (up2 (up2 (up2 (up2 (up2 (up2 τ 0 0 0) 0 23 (n + 1)) 25 n.toNat 0) 22 n.toNat (-1)) 0 54 (-1)) 20 (3 * n + 0).toNat p0) 20 (3 * n + 1).toNat p1) 20 (3 * n + 2).toNat p2) 21 n.toNat r
theorem set4 {s : Sg} {n k v : Int} (hn : 0 ≤ n ∧ n < s 24 1) (h8 : n < 8) (hk : 0 ≤ k ∧ k ≤ 7) : F_X4_set n k v s = up2 s 26 (n * 8 + k).toNat v := by
  unfold F_X4_set F_X4_has
  rw [if_neg (show ¬ n < 0 by omega), if_neg (show ¬ s 24 1 ≤ n by omega), if_pos rfl, if_pos (isIn_iff.mpr hk), bnd_eq, wrap_id (z := n * 8) (by omega) (by omega), wrap_id (by omega) (by omega), wrD_ok (by omega) (by omega)]
set_option maxHeartbeats 4000000 in
theorem append_c {σ : Sg} {n p0 p1 p2 r : Int} (hn : σ 24 1 = n) (h8 : 0 ≤ n ∧ n < 8) : F_X4_append p0 p1 p2 r (F_X10_forgetEngines σ) = some (n, cA σ n p0 p1 p2 r) := by
  have h0 : F_X10_forgetEngines σ 24 1 = n := by rw [forget_eq]; simp (disch := omega) only [bnd_eq, bind_some', wrap_id, rdn_ok, wrn_ok, wbn_ok, rdD_ok, rdD_out, wrD_ok, wrD_out, up2_at, up2_row, up2_idx, iter_s, itp, itn, isIn_iff, in_iff, ↓reduceIte, reduceCtorEq]; exact hn
  unfold F_X4_append cA
  generalize F_X10_forgetEngines σ = s at *
  rw [bnd_eq, bnd_eq, h0, wrap_id (by omega) (by omega)]
  simp (disch := omega) only [bnd_eq, bind_some', wrap_id, rdn_ok, wrn_ok, wbn_ok, rdD_ok, rdD_out, wrD_ok, wrD_out, up2_at, up2_row, up2_idx, iter_s, itp, itn, isIn_iff, in_iff, ↓reduceIte, reduceCtorEq, L_X4_append_16, F_X10_pick]
  rw [set4 (k := 0) (v := p0) (s := up2 s 24 1 (n + 1)) ⟨h8.1, by simp (disch := omega) only [bnd_eq, bind_some', wrap_id, rdn_ok, wrn_ok, wbn_ok, rdD_ok, rdD_out, wrD_ok, wrD_out, up2_at, up2_row, up2_idx, iter_s, itp, itn, isIn_iff, in_iff, ↓reduceIte, reduceCtorEq]; omega⟩ h8.2 (by omega)]
  rw [set4 (k := 0 + 1) (v := p1) (s := up2 (up2 s 24 1 (n + 1)) 26 (n * 8 + (0)).toNat p0) ⟨h8.1, by simp (disch := omega) only [bnd_eq, bind_some', wrap_id, rdn_ok, wrn_ok, wbn_ok, rdD_ok, rdD_out, wrD_ok, wrD_out, up2_at, up2_row, up2_idx, iter_s, itp, itn, isIn_iff, in_iff, ↓reduceIte, reduceCtorEq]; omega⟩ h8.2 (by omega)]
  rw [set4 (k := 0 + 1 + 1) (v := p2) (s := up2 (up2 (up2 s 24 1 (n + 1)) 26 (n * 8 + (0)).toNat p0) 26 (n * 8 + (0 + 1)).toNat p1) ⟨h8.1, by simp (disch := omega) only [bnd_eq, bind_some', wrap_id, rdn_ok, wrn_ok, wbn_ok, rdD_ok, rdD_out, wrD_ok, wrD_out, up2_at, up2_row, up2_idx, iter_s, itp, itn, isIn_iff, in_iff, ↓reduceIte, reduceCtorEq]; omega⟩ h8.2 (by omega)]
  rw [set4 (k := 3) (v := r) (s := up2 (up2 (up2 (up2 s 24 1 (n + 1)) 26 (n * 8 + (0)).toNat p0) 26 (n * 8 + (0 + 1)).toNat p1) 26 (n * 8 + (0 + 1 + 1)).toNat p2) ⟨h8.1, by simp (disch := omega) only [bnd_eq, bind_some', wrap_id, rdn_ok, wrn_ok, wbn_ok, rdD_ok, rdD_out, wrD_ok, wrD_out, up2_at, up2_row, up2_idx, iter_s, itp, itn, isIn_iff, in_iff, ↓reduceIte, reduceCtorEq]; omega⟩ h8.2 (by omega)]
  rw [set4 (k := 4) (v := (-1)) (s := up2 (up2 (up2 (up2 (up2 s 24 1 (n + 1)) 26 (n * 8 + (0)).toNat p0) 26 (n * 8 + (0 + 1)).toNat p1) 26 (n * 8 + (0 + 1 + 1)).toNat p2) 26 (n * 8 + (3)).toNat r) ⟨h8.1, by simp (disch := omega) only [bnd_eq, bind_some', wrap_id, rdn_ok, wrn_ok, wbn_ok, rdD_ok, rdD_out, wrD_ok, wrD_out, up2_at, up2_row, up2_idx, iter_s, itp, itn, isIn_iff, in_iff, ↓reduceIte, reduceCtorEq]; omega⟩ h8.2 (by omega)]
  rw [set4 (k := 5) (v := 0) (s := up2 (up2 (up2 (up2 (up2 (up2 s 24 1 (n + 1)) 26 (n * 8 + (0)).toNat p0) 26 (n * 8 + (0 + 1)).toNat p1) 26 (n * 8 + (0 + 1 + 1)).toNat p2) 26 (n * 8 + (3)).toNat r) 26 (n * 8 + (4)).toNat (-1)) ⟨h8.1, by simp (disch := omega) only [bnd_eq, bind_some', wrap_id, rdn_ok, wrn_ok, wbn_ok, rdD_ok, rdD_out, wrD_ok, wrD_out, up2_at, up2_row, up2_idx, iter_s, itp, itn, isIn_iff, in_iff, ↓reduceIte, reduceCtorEq]; omega⟩ h8.2 (by omega)]
  rw [set4 (k := 6) (v := 0) (s := up2 (up2 (up2 (up2 (up2 (up2 (up2 s 24 1 (n + 1)) 26 (n * 8 + (0)).toNat p0) 26 (n * 8 + (0 + 1)).toNat p1) 26 (n * 8 + (0 + 1 + 1)).toNat p2) 26 (n * 8 + (3)).toNat r) 26 (n * 8 + (4)).toNat (-1)) 26 (n * 8 + (5)).toNat 0) ⟨h8.1, by simp (disch := omega) only [bnd_eq, bind_some', wrap_id, rdn_ok, wrn_ok, wbn_ok, rdD_ok, rdD_out, wrD_ok, wrD_out, up2_at, up2_row, up2_idx, iter_s, itp, itn, isIn_iff, in_iff, ↓reduceIte, reduceCtorEq]; omega⟩ h8.2 (by omega)]
  rw [set4 (k := 7) (v := 0) (s := up2 (up2 (up2 (up2 (up2 (up2 (up2 (up2 s 24 1 (n + 1)) 26 (n * 8 + (0)).toNat p0) 26 (n * 8 + (0 + 1)).toNat p1) 26 (n * 8 + (0 + 1 + 1)).toNat p2) 26 (n * 8 + (3)).toNat r) 26 (n * 8 + (4)).toNat (-1)) 26 (n * 8 + (5)).toNat 0) 26 (n * 8 + (6)).toNat 0) ⟨h8.1, by simp (disch := omega) only [bnd_eq, bind_some', wrap_id, rdn_ok, wrn_ok, wbn_ok, rdD_ok, rdD_out, wrD_ok, wrD_out, up2_at, up2_row, up2_idx, iter_s, itp, itn, isIn_iff, in_iff, ↓reduceIte, reduceCtorEq]; omega⟩ h8.2 (by omega)]
  rfl
set_option maxHeartbeats 4000000 in
theorem addM_c {τ : Sg} {n p0 p1 p2 r : Int} (hn : τ 0 23 = n) (h8 : 0 ≤ n ∧ n < 8) : B_X11_add_213 p0 p1 p2 r 0 τ = some (n, mA τ n p0 p1 p2 r) := by
  have ho : F_X11_open n (up2 τ 0 0 0) = some (up2 (up2 (up2 (up2 (up2 τ 0 0 0) 0 23 (n + 1)) 25 n.toNat 0) 22 n.toNat (-1)) 0 54 (-1)) := by
    unfold F_X11_open
    rw [bnd_eq, show (up2 τ 0 0 0) 0 23 = n by (simp (disch := omega) only [bnd_eq, bind_some', wrap_id, rdn_ok, wrn_ok, wbn_ok, rdD_ok, rdD_out, wrD_ok, wrD_out, up2_at, up2_row, up2_idx, iter_s, itp, itn, isIn_iff, in_iff, ↓reduceIte, reduceCtorEq]; exact hn)]
    rw [iter_r (f := fun a : (Int × Sg) => L_X11_open_5 n a.1 a.2) (a := (n, up2 τ 0 0 0)) (b := up2 τ 0 0 0) (by unfold L_X11_open_5; rw [if_pos (Int.le_refl _)])]
    rw [Option.bind_some, bnd_eq, show (up2 τ 0 0 0) 0 23 = n by (simp (disch := omega) only [bnd_eq, bind_some', wrap_id, rdn_ok, wrn_ok, wbn_ok, rdD_ok, rdD_out, wrD_ok, wrD_out, up2_at, up2_row, up2_idx, iter_s, itp, itn, isIn_iff, in_iff, ↓reduceIte, reduceCtorEq]; exact hn)]
    simp (disch := omega) only [bnd_eq, bind_some', wrap_id, rdn_ok, wrn_ok, wbn_ok, rdD_ok, rdD_out, wrD_ok, wrD_out, up2_at, up2_row, up2_idx, iter_s, itp, itn, isIn_iff, in_iff, ↓reduceIte, reduceCtorEq]
  unfold B_X11_add_213 mA
  rw [bnd_eq, refused_0, if_neg (by simp), bnd_eq]
  dsimp only
  rw [show (up2 τ 0 0 0) 0 23 = n by (simp (disch := omega) only [bnd_eq, bind_some', wrap_id, rdn_ok, wrn_ok, wbn_ok, rdD_ok, rdD_out, wrD_ok, wrD_out, up2_at, up2_row, up2_idx, iter_s, itp, itn, isIn_iff, in_iff, ↓reduceIte, reduceCtorEq]; exact hn), ho, Option.bind_some]
  simp (disch := omega) only [bnd_eq, bind_some', wrap_id, rdn_ok, wrn_ok, wbn_ok, rdD_ok, rdD_out, wrD_ok, wrD_out, up2_at, up2_row, up2_idx, iter_s, itp, itn, isIn_iff, in_iff, ↓reduceIte, reduceCtorEq, L_X11_add_236, F_X11_pick]
  rfl
theorem bnS_congr {τ τ' : Sg} {nm : Int} (h3 : τ' 3 = τ 3) (h8 : τ' 8 = τ 8) (h9 : τ' 9 = τ 9) (h11 : τ' 11 = τ 11) : ∀ n p k, bnS τ' nm n p k = bnS τ nm n p k
  | 0, p, k => rfl
  | n + 1, p, k => by
    have ih := bnS_congr (nm := nm) h3 h8 h9 h11 n
    have hp : ∀ a b, prt τ' a b = prt τ a b := fun a b => by unfold prt; rw [h11]
    unfold bnS
    simp only [ih, hp, h3, h8, h9]
theorem bnC_congr {τ τ' : Sg} {c : Nat} {nm : Int} (h3 : τ' 3 = τ 3) (h8 : τ' 8 = τ 8) (h9 : τ' 9 = τ 9) (h11 : τ' 11 = τ 11) (h19 : ∀ k : Nat, k < 3 → τ' 19 k = τ 19 k) (h21 : τ' 0 21 = τ 0 21) (hc : ∀ k : Nat, k < 3 → cpt τ' c k = cpt τ c k) : bnC τ' c nm = bnC τ c nm := by
  unfold bnC
  have hb := bnS_congr (nm := nm) h3 h8 h9 h11
  simp only [hb, h21, hc 0 (by omega), hc 1 (by omega), hc 2 (by omega), h19 0 (by omega), h19 1 (by omega), h19 2 (by omega)]
set_option maxHeartbeats 4000000 in
theorem RM.push {σ τ : Sg} {n : Nat} {p0 p1 p2 r : Int} (h : RM σ τ) (hn : τ 0 23 = n) (h8 : n < 8) (hcol : 0 < τ 0 21) (hr : 0 ≤ r ∧ r ≤ 99) (hf : ∀ k : Int, 0 ≤ k → k < 3 → okA τ (τ 0 21) k (F_X10_pick k p0 p1 p2)) : RM (cA σ n p0 p1 p2 r) (mA τ n p0 p1 p2 r) := by
  obtain ⟨h1, h2, h3, ⟨w1, w2, w3, w4, w5⟩, h5⟩ := h
  have hnn : (n : Int).toNat = n := by omega
  have x0 : ((n : Int) * 8 + 0).toNat = 8 * n + 0 := by omega
  have x1 : ((n : Int) * 8 + 1).toNat = 8 * n + 1 := by omega
  have x2 : ((n : Int) * 8 + 2).toNat = 8 * n + 2 := by omega
  have x3 : ((n : Int) * 8 + 3).toNat = 8 * n + 3 := by omega
  have x4 : ((n : Int) * 8 + 4).toNat = 8 * n + 4 := by omega
  have x5 : ((n : Int) * 8 + 5).toNat = 8 * n + 5 := by omega
  have x6 : ((n : Int) * 8 + 6).toNat = 8 * n + 6 := by omega
  have x7 : ((n : Int) * 8 + 7).toNat = 8 * n + 7 := by omega
  have y0 : (3 * (n : Int) + 0).toNat = 3 * n + 0 := by omega
  have y1 : (3 * (n : Int) + 1).toNat = 3 * n + 1 := by omega
  have y2 : (3 * (n : Int) + 2).toNat = 3 * n + 2 := by omega
  have rowM : ∀ k, k ∉ [0, 20, 21, 22, 25] → mA τ n p0 p1 p2 r k = τ k := by
    intro k hk
    simp only [List.mem_cons, List.not_mem_nil, or_false, not_or] at hk
    unfold mA; funext i
    simp (disch := omega) only [bnd_eq, bind_some', wrap_id, rdn_ok, wrn_ok, wbn_ok, rdD_ok, rdD_out, wrD_ok, wrD_out, up2_at, up2_row, up2_idx, iter_s, itp, itn, isIn_iff, in_iff, ↓reduceIte, reduceCtorEq]
  have m0 : ∀ i, ¬ i = 0 → ¬ i = 23 → ¬ i = 54 → mA τ n p0 p1 p2 r 0 i = τ 0 i := by
    intro i i0 i1 i2
    unfold mA
    simp (disch := omega) only [bnd_eq, bind_some', wrap_id, rdn_ok, wrn_ok, wbn_ok, rdD_ok, rdD_out, wrD_ok, wrD_out, up2_at, up2_row, up2_idx, iter_s, itp, itn, isIn_iff, in_iff, ↓reduceIte, reduceCtorEq]
  have m23 : mA τ n p0 p1 p2 r 0 23 = n + 1 := by unfold mA; simp (disch := omega) only [bnd_eq, bind_some', wrap_id, rdn_ok, wrn_ok, wbn_ok, rdD_ok, rdD_out, wrD_ok, wrD_out, up2_at, up2_row, up2_idx, iter_s, itp, itn, isIn_iff, in_iff, ↓reduceIte, reduceCtorEq]
  have oldM : ∀ c : Nat, ¬ c = n → (mA τ n p0 p1 p2 r 21 c = τ 21 c ∧ mA τ n p0 p1 p2 r 22 c = τ 22 c ∧ mA τ n p0 p1 p2 r 25 c = τ 25 c) ∧ ∀ k : Nat, k < 3 → cpt (mA τ n p0 p1 p2 r) c k = cpt τ c k := by
    intro c hc
    unfold cpt mA
    rw [hnn, y0, y1, y2]
    refine ⟨⟨?_, ?_, ?_⟩, fun k hk => ?_⟩ <;> simp (disch := omega) only [bnd_eq, bind_some', wrap_id, rdn_ok, wrn_ok, wbn_ok, rdD_ok, rdD_out, wrD_ok, wrD_out, up2_at, up2_row, up2_idx, iter_s, itp, itn, isIn_iff, in_iff, ↓reduceIte, reduceCtorEq]
  have newM : mA τ n p0 p1 p2 r 21 n = r ∧ mA τ n p0 p1 p2 r 22 n = -1 ∧ mA τ n p0 p1 p2 r 25 n = 0 ∧ cpt (mA τ n p0 p1 p2 r) n 0 = p0 ∧ cpt (mA τ n p0 p1 p2 r) n 1 = p1 ∧ cpt (mA τ n p0 p1 p2 r) n 2 = p2 := by
    unfold cpt mA
    rw [hnn, y0, y1, y2]
    refine ⟨?_, ?_, ?_, ?_, ?_, ?_⟩ <;> simp (disch := omega) only [bnd_eq, bind_some', wrap_id, rdn_ok, wrn_ok, wbn_ok, rdD_ok, rdD_out, wrD_ok, wrD_out, up2_at, up2_row, up2_idx, iter_s, itp, itn, isIn_iff, in_iff, ↓reduceIte, reduceCtorEq]
  have oldC : ∀ c : Nat, ¬ c = n → ∀ k : Nat, k < 8 → cA σ n p0 p1 p2 r 26 (8 * c + k) = σ 26 (8 * c + k) := by
    intro c hc k hk
    unfold cA
    rw [x0, x1, x2, x3, x4, x5, x6, x7, forget_eq]
    simp (disch := omega) only [bnd_eq, bind_some', wrap_id, rdn_ok, wrn_ok, wbn_ok, rdD_ok, rdD_out, wrD_ok, wrD_out, up2_at, up2_row, up2_idx, iter_s, itp, itn, isIn_iff, in_iff, ↓reduceIte, reduceCtorEq]
  have newC : cA σ n p0 p1 p2 r 26 (8 * n + 0) = p0 ∧ cA σ n p0 p1 p2 r 26 (8 * n + 1) = p1 ∧ cA σ n p0 p1 p2 r 26 (8 * n + 2) = p2 ∧ cA σ n p0 p1 p2 r 26 (8 * n + 3) = r ∧ cA σ n p0 p1 p2 r 26 (8 * n + 4) = -1 ∧ cA σ n p0 p1 p2 r 26 (8 * n + 7) = 0 := by
    unfold cA
    rw [x0, x1, x2, x3, x4, x5, x6, x7, forget_eq]
    refine ⟨?_, ?_, ?_, ?_, ?_, ?_⟩ <;> simp (disch := omega) only [bnd_eq, bind_some', wrap_id, rdn_ok, wrn_ok, wbn_ok, rdD_ok, rdD_out, wrD_ok, wrD_out, up2_at, up2_row, up2_idx, iter_s, itp, itn, isIn_iff, in_iff, ↓reduceIte, reduceCtorEq]
  have c240 : cA σ n p0 p1 p2 r 24 0 = σ 24 0 := by unfold cA; rw [forget_eq]; simp (disch := omega) only [bnd_eq, bind_some', wrap_id, rdn_ok, wrn_ok, wbn_ok, rdD_ok, rdD_out, wrD_ok, wrD_out, up2_at, up2_row, up2_idx, iter_s, itp, itn, isIn_iff, in_iff, ↓reduceIte, reduceCtorEq]
  have c241 : cA σ n p0 p1 p2 r 24 1 = n + 1 := by unfold cA; simp (disch := omega) only [bnd_eq, bind_some', wrap_id, rdn_ok, wrn_ok, wbn_ok, rdD_ok, rdD_out, wrD_ok, wrD_out, up2_at, up2_row, up2_idx, iter_s, itp, itn, isIn_iff, in_iff, ↓reduceIte, reduceCtorEq]
  have c25 : ∀ k, cA σ n p0 p1 p2 r 25 k = σ 25 k := by intro k; unfold cA; rw [forget_eq]; simp (disch := omega) only [bnd_eq, bind_some', wrap_id, rdn_ok, wrn_ok, wbn_ok, rdD_ok, rdD_out, wrD_ok, wrD_out, up2_at, up2_row, up2_idx, iter_s, itp, itn, isIn_iff, in_iff, ↓reduceIte, reduceCtorEq]
  obtain ⟨g1, g2, g3, g4, g5, g6⟩ := newM
  obtain ⟨d1, d2, d3, d4, d5, d6⟩ := newC
  generalize cA σ n p0 p1 p2 r = σ' at *
  generalize mA τ n p0 p1 p2 r = τ' at *
  have e21 : τ' 0 21 = τ 0 21 := m0 21 (by omega) (by omega) (by omega)
  have e9 : τ' 0 9 = τ 0 9 := m0 9 (by omega) (by omega) (by omega)
  have e19 := rowM 19 (by decide)
  have e12 := rowM 12 (by decide)
  have fk : ∀ x k, fitsK τ' x k ↔ fitsK τ x k := fun x k => by unfold fitsK; rw [e9, e12]
  refine ⟨by rw [c240, e21]; exact h1, by rw [c241, m23], fun k hk => by rw [c25, e19]; exact h3 k hk, ⟨by rw [e21]; exact w1, by omega, fun k hk => by rw [e19]; exact w3 k (by omega), fun q => by omega, fun c hc => ?_⟩, fun c hc => ?_⟩
  · by_cases e : c = n
    · subst e
      unfold WFM1
      rw [g1, g2]
      refine ⟨fun k hk => ?_, hr, by omega, fun q => absurd rfl q⟩
      rw [e21, e19]
      have hq := hf k (by omega) (by omega)
      have hpk : cpt τ' c k = F_X10_pick k p0 p1 p2 := by
        have : k = 0 ∨ k = 1 ∨ k = 2 := by omega
        rcases this with rfl | rfl | rfl
        · exact g4
        · exact g5
        · exact g6
      rw [hpk]
      exact ⟨fun q => (fk _ _).mpr (hq.1 q), fun q => hq.2 q⟩
    · obtain ⟨⟨o1, o2, o3⟩, o4⟩ := oldM c e
      obtain ⟨f1, f2, f3, f4⟩ := w5 c (by omega)
      unfold WFM1
      rw [o1, o2, rowM 23 (by decide), rowM 24 (by decide)]
      refine ⟨fun k hk => ?_, f2, f3, fun q => ?_⟩
      · rw [o4 k hk, e21, e19]
        exact ⟨fun q => (fk _ _).mpr ((f1 k hk).1 q), (f1 k hk).2⟩
      · rw [bnC_congr (rowM 3 (by decide)) (rowM 8 (by decide)) (rowM 9 (by decide)) (rowM 11 (by decide)) (fun k _ => by rw [e19]) e21 o4]
        exact f4 q
  · by_cases e : c = n
    · subst e
      unfold RM1
      rw [g1, g2, g3]
      refine ⟨fun k hk => ?_, d4, d5, fun q => absurd rfl q, d6⟩
      have : k = 0 ∨ k = 1 ∨ k = 2 := by omega
      rcases this with rfl | rfl | rfl
      · rw [g4]; exact d1
      · rw [g5]; exact d2
      · rw [g6]; exact d3
    · obtain ⟨⟨o1, o2, o3⟩, o4⟩ := oldM c e
      have oc := oldC c e
      obtain ⟨f1, f2, f3, f4, f5⟩ := h5 c (by omega)
      unfold RM1
      rw [o1, o2, o3, rowM 23 (by decide), rowM 24 (by decide), oc 3 (by omega), oc 4 (by omega), oc 5 (by omega), oc 6 (by omega), oc 7 (by omega)]
      exact ⟨fun k hk => by rw [oc k (by omega), o4 k hk]; exact f1 k hk, f2, f3, f4, f5⟩
set_option maxHeartbeats 4000000 in
theorem op_add {σ τ : Sg} (a1 a2 a3 a4 : Int) (h : RP σ τ) (hM : RM σ τ) : Thr [(0, 1), (1, 2), (2, 3)] (F_X10_add a1 a2 a3 a4 σ) (F_X11_add a1 a2 a3 a4 τ) σ τ ∨ ∃ v σ' τ', Okk (F_X10_add a1 a2 a3 a4 σ) (F_X11_add a1 a2 a3 a4 τ) v σ' τ' ∧ (∀ k, k ∉ [24, 26, 33, 43, 49] → σ' k = σ k) ∧ (∀ k, k ∉ [0, 20, 21, 22, 25] → τ' k = τ k) ∧ (∀ i, i ∉ [0, 23, 54] → τ' 0 i = τ 0 i) ∧ RM σ' τ' ∧ NoEng σ σ' τ' := by
  have hW := h.2.1
  obtain ⟨h1, h2, h3, ⟨w1, w2, w3, w4, w5⟩, h5⟩ := id hM
  have hthrow : ∀ t : Int, ¬ t = 0 → B_X11_add_213 a1 a2 a3 a4 t τ = some (0, up2 τ 0 0 t) := fun t ht => by
    unfold B_X11_add_213; rw [bnd_eq, refused_n ht]; rfl
  unfold F_X10_add F_X11_add B_X11_add_208
  have hcols : F_X4_columns σ = τ 0 21 := h1
  rw [bnd_eq, hcols, bnd_eq]
  generalize hm : τ 0 21 = m at *
  generalize hn0 : nmN τ m 0 a1 = n0
  generalize hn1 : nmN τ m 1 a2 = n1
  generalize hn2 : nmN τ m 2 a3 = n2
  have hN : ∀ i, 0 ≤ i → i < 3 → nmN τ m i (F_X10_pick i a1 a2 a3) = F_X10_pick i n0 n1 n2 := by
    intro i i0 i3
    have : i = 0 ∨ i = 1 ∨ i = 2 := by omega
    rcases this with rfl | rfl | rfl
    · exact hn0
    · exact hn1
    · exact hn2
  obtain ⟨x, y, g1, g2, g3⟩ := for_f3 (f := fun a : Bool × Bool × Int × Int => L_X11_add_19 a1 a2 a3 τ a.1 a.2.1 a.2.2.1 a.2.2.2) (n := 3) (P := fun i => i < m → pl τ (F_X10_pick i a1 a2 a3)) (Q := fun i => okA τ m i (F_X10_pick i a1 a2 a3)) (N := fun i => F_X10_pick i n0 n1 n2) (bd := bd3 n0 n1 n2) bd3_s (fun x y b => rfl) (fun m y b i i0 i1 i2 => adM_f hW m y b i i0 i1 i2) 4 0 (F_X11_in a4 0 99) (by omega) (by omega) (by omega) (fun y j j1 j2 => by
    obtain ⟨x', y', b', e1, e2, e3⟩ := adM (τ := τ) (a1 := a1) (a2 := a2) (a3 := a3) (i := j) (bd := bd3 n0 n1 n2 j) (r := true) (y := y) hW ⟨j1, j2⟩
    rw [hm] at e2 e3
    rw [hN j j1 j2] at e3
    exact ⟨x', y', b', e1, e2.trans ⟨fun q => q.2, fun q => ⟨rfl, q⟩⟩, e3⟩)
  have hg1 : iter (fun a : Bool × Bool × Int × Int => L_X11_add_19 a1 a2 a3 τ a.1 a.2.1 a.2.2.1 a.2.2.2) 4 (true, F_X11_in a4 0 99, 0, 0) = some (x, y) := g1
  rw [hg1, Option.bind_some]
  by_cases c2 : ∀ i, 0 ≤ i → i < m → pl τ (F_X10_pick i a1 a2 a3)
  · have hx : x = true := g2.mpr (fun j j1 j2 j3 => c2 j j1 j3)
    subst hx
    have g4 := g3 rfl
    rw [demP_ok h ⟨by omega, by omega⟩ c2, if_pos rfl]
    show Thr _ ((iter (fun a : Int => L_X10_add_21 a1 a2 a3 m σ a) 4 0).bind _) _ σ τ ∨ ∃ v σ' τ', Okk ((iter (fun a : Int => L_X10_add_21 a1 a2 a3 m σ a) 4 0).bind _) _ v σ' τ' ∧ _
    have hC := fun j j1 j2 => adC (i := j) (a1 := a1) (a2 := a2) (a3 := a3) h hM ⟨j1, j2⟩ (by rw [hm]; exact c2 j j1)
    rw [hm] at hC
    by_cases c3 : ∀ i, 0 ≤ i → i < 3 → okA τ m i (F_X10_pick i a1 a2 a3)
    · rw [for_ok (f := fun a : Int => L_X10_add_21 a1 a2 a3 m σ a) (n := 3) (e := .inl ()) rfl 4 0 (by omega) (by omega) (fun j j1 j2 => (hC j j1 j2).1 (c3 j j1 j2)), Option.bind_some, Sum.elim_inl]
      have po : ∀ i : Int, 0 ≤ i → i < 3 → plo τ (F_X10_pick i a1 a2 a3) := fun i i0 i3 => by
        by_cases g : i < m
        · exact Or.inr (c2 i i0 g)
        · exact Or.inl ((c3 i i0 i3).2 (by omega))
      have p0 : plo τ a1 := po 0 (by omega) (by omega)
      have p1 : plo τ a2 := po 1 (by omega) (by omega)
      have p2 : plo τ a3 := po 2 (by omega) (by omega)
      have en : ∀ (i x : Int), okA τ m i x → (i < m → pl τ x) → nmN τ m i x = nmo τ x := fun i x g gv => by
        unfold nmN nmo
        by_cases g1 : i < m
        · rw [if_pos g1, if_neg (by have := (gv g1).1; omega)]
        · have := g.2 (by omega)
          rw [if_neg g1, if_pos (by omega)]
      have e0 : n0 = nmo τ a1 := by rw [← hn0]; exact en 0 a1 (c3 0 (by omega) (by omega)) (c2 0 (by omega))
      have e1 : n1 = nmo τ a2 := by rw [← hn1]; exact en 1 a2 (c3 1 (by omega) (by omega)) (c2 1 (by omega))
      have e2 : n2 = nmo τ a3 := by rw [← hn2]; exact en 2 a3 (c3 2 (by omega) (by omega)) (c2 2 (by omega))
      have hap : (y = true) ↔ (0 ≤ a4 ∧ a4 ≤ 99) ∧ apS τ a1 a2 a3 := by
        rw [g4, in_iff]
        have := apart_iff (n0 := n0) (n1 := n1) (n2 := n2) (by rw [e0]; exact nmo64 hW p0) (by rw [e1]; exact nmo64 hW p1) (by rw [e2]; exact nmo64 hW p2)
        unfold apS
        rw [← e0, ← e1, ← e2, ← this]
        constructor
        · rintro ⟨q9, q⟩
          exact ⟨q9, (q 0 (by omega) (by omega)).2, (q 1 (by omega) (by omega)).2, (q 2 (by omega) (by omega)).2⟩
        · rintro ⟨q9, q0, q1, q2⟩
          refine ⟨q9, fun j j1 j2 => ⟨c3 j j1 j2, ?_⟩⟩
          have : j = 0 ∨ j = 1 ∨ j = 2 := by omega
          rcases this with rfl | rfl | rfl
          · exact q0
          · exact q1
          · exact q2
      have hba := bindApart5 h p0 p1 p2
      by_cases c4 : apS τ a1 a2 a3
      · rw [if_pos (hba.mpr c4)]
        by_cases c5 : 0 ≤ a4 ∧ a4 ≤ 99
        · rw [if_pos (isIn_iff.mpr c5), if_pos (hap.mpr ⟨c5, c4⟩)]
          unfold F_X4_isThere F_X4_count
          by_cases c6 : m = 0 ∨ τ 0 23 = 8
          · refine Or.inl ⟨2, 3, ?_, ?_, rfl, by decide, by decide⟩
            · unfold B_X10_add_135 B_X10_add_136
              by_cases c7 : m = 0
              · rw [if_pos (show σ 24 0 ≤ 0 by omega), if_neg (by simp), if_neg (by simp)]
              · rw [if_neg (show ¬ σ 24 0 ≤ 0 by omega), if_pos rfl, if_pos (show 8 ≤ σ 24 1 by omega), if_neg (by simp)]
            · by_cases c7 : m = 0
              · rw [if_pos c7, hthrow 3 (by omega)]
              · rw [if_neg c7, if_pos (by omega), hthrow 3 (by omega)]
          · obtain ⟨n, hn9⟩ : ∃ n : Nat, τ 0 23 = n := ⟨(τ 0 23).toNat, by omega⟩
            have hpush := RM.push (n := n) (p0 := a1) (p1 := a2) (p2 := a3) (r := a4) hM hn9 (by omega) (by omega) c5 (by rw [hm]; exact c3)
            refine Or.inr ⟨n, cA σ n a1 a2 a3 a4, mA τ n a1 a2 a3 a4, ⟨?_, ?_, ?_⟩, ?_, ?_, ?_, hpush, ?_⟩
            · rw [if_neg (show ¬ σ 24 0 ≤ 0 by omega), if_pos rfl, if_neg (show ¬ 8 ≤ σ 24 1 by omega)]
              unfold B_X10_add_136
              rw [if_pos rfl, bnd_eq, append_c (n := n) (by omega) (by omega)]; rfl
            · rw [if_neg (by omega), if_neg (by omega), addM_c (n := n) hn9 (by omega)]
            · unfold mA; simp (disch := omega) only [bnd_eq, bind_some', wrap_id, rdn_ok, wrn_ok, wbn_ok, rdD_ok, rdD_out, wrD_ok, wrD_out, up2_at, up2_row, up2_idx, iter_s, itp, itn, isIn_iff, in_iff, ↓reduceIte, reduceCtorEq]
            · intro k hk
              simp only [List.mem_cons, List.not_mem_nil, or_false, not_or] at hk
              unfold cA; rw [forget_eq]; funext i
              simp (disch := omega) only [bnd_eq, bind_some', wrap_id, rdn_ok, wrn_ok, wbn_ok, rdD_ok, rdD_out, wrD_ok, wrD_out, up2_at, up2_row, up2_idx, iter_s, itp, itn, isIn_iff, in_iff, ↓reduceIte, reduceCtorEq]
            · intro k hk
              simp only [List.mem_cons, List.not_mem_nil, or_false, not_or] at hk
              unfold mA; funext i
              simp (disch := omega) only [bnd_eq, bind_some', wrap_id, rdn_ok, wrn_ok, wbn_ok, rdD_ok, rdD_out, wrD_ok, wrD_out, up2_at, up2_row, up2_idx, iter_s, itp, itn, isIn_iff, in_iff, ↓reduceIte, reduceCtorEq]
            · intro i hi
              simp only [List.mem_cons, List.not_mem_nil, or_false, not_or] at hi
              unfold mA
              simp (disch := omega) only [bnd_eq, bind_some', wrap_id, rdn_ok, wrn_ok, wbn_ok, rdD_ok, rdD_out, wrD_ok, wrD_out, up2_at, up2_row, up2_idx, iter_s, itp, itn, isIn_iff, in_iff, ↓reduceIte, reduceCtorEq]
            · unfold NoEng cA mA
              rw [forget_eq]
              refine ⟨?_, ?_, ?_, ?_, ?_, ?_⟩ <;> simp (disch := omega) only [bnd_eq, bind_some', wrap_id, rdn_ok, wrn_ok, wbn_ok, rdD_ok, rdD_out, wrD_ok, wrD_out, up2_at, up2_row, up2_idx, iter_s, itp, itn, isIn_iff, in_iff, ↓reduceIte, reduceCtorEq]
        · have hy : ¬ y = true := fun q => c5 (hap.mp q).1
          refine Or.inl ⟨1, 2, ?_, ?_, rfl, by decide, by decide⟩
          · rw [if_neg (fun q => c5 (isIn_iff.mp q))]
          · rw [if_neg hy, hthrow 2 (by omega)]
      · have hy : ¬ y = true := fun q => c4 (hap.mp q).2
        refine Or.inl ⟨1, 2, ?_, ?_, rfl, by decide, by decide⟩
        · rw [if_neg (fun q => c4 (hba.mp q))]
        · rw [if_neg hy, hthrow 2 (by omega)]
    · have hy : ¬ y = true := fun q => c3 (fun j j1 j2 => ((g4.mp q).2 j j1 j2).1)
      refine Or.inl ⟨1, 2, ?_, ?_, rfl, by decide, by decide⟩
      · rw [for_no (f := fun a : Int => L_X10_add_21 a1 a2 a3 m σ a) (n := 3) (r := .inr (.inr 1, σ)) (P := fun i => okA τ m i (F_X10_pick i a1 a2 a3)) 4 0 (by omega) (by omega) (fun j j1 j2 j3 => (hC j j1 j2).1 j3) (fun j j1 j2 j3 => (hC j j1 j2).2 j3) c3]; rfl
      · rw [if_neg hy, hthrow 2 (by omega)]
  · have hx : ¬ x = true := fun q => c2 (fun j j1 j2 => g2.mp q j j1 (by omega) j2)
    refine Or.inl ⟨0, 1, ?_, ?_, rfl, by decide, by decide⟩
    · rw [demP_no h ⟨by omega, by omega⟩ c2]; rfl
    · rw [if_neg hx, hthrow 1 (by omega)]
