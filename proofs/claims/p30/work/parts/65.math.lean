/-! make -/
/-- a part fits its field -/
def okq (τ : Sg) (t c i x : Int) : Prop := (i < flv τ t c → fitsK τ x (fkv τ t c i)) ∧ (flv τ t c ≤ i → x = -1)
theorem mkC {σ τ : Sg} {t c a3 a4 a5 i : Int} (hk : RK σ τ) (h : RP σ τ) (hc : isC τ t c) (hi : 0 ≤ i ∧ i < 3) (hv : i < flv τ t c → pl τ (F_X10_pick i a3 a4 a5)) :
    (okq τ t c i (F_X10_pick i a3 a4 a5) → L_X10_make_37 t c a3 a4 a5 (flv τ t c) σ i = some (.inl (i + 1))) ∧ (¬ okq τ t c i (F_X10_pick i a3 a4 a5) → L_X10_make_37 t c a3 a4 a5 (flv τ t c) σ i = some (.inr (.inr (.inr 1, σ)))) := by
  unfold okq L_X10_make_37
  rw [if_neg (by omega), bnd_eq, fieldKind_c hk hc hi, bnd_eq]
  generalize F_X10_pick i a3 a4 a5 = x at *
  by_cases h1 : i < flv τ t c
  · rw [if_neg (by omega)]
    have hf := fits5 (k := fkv τ t c i) h (hv h1)
    by_cases h2 : fitsK τ x (fkv τ t c i)
    · rw [hf.mpr h2]; unfold B_X10_make_100; rw [if_pos rfl, wrap_id (by omega) (by omega)]
      exact ⟨fun _ => rfl, fun q => absurd ⟨fun _ => h2, fun q => by omega⟩ q⟩
    · have hff : ¬ F_X5_fits x (fkv τ t c i) σ = true := fun q => h2 (hf.mp q)
      unfold B_X10_make_100; rw [if_neg hff]
      exact ⟨fun q => absurd (q.1 h1) h2, fun _ => rfl⟩
  · rw [if_pos (by omega)]
    by_cases h2 : x = -1
    · rw [if_pos h2]; unfold B_X10_make_100; rw [if_pos rfl, wrap_id (by omega) (by omega)]
      exact ⟨fun _ => rfl, fun q => absurd ⟨fun q => by omega, fun q => h2⟩ q⟩
    · rw [if_neg h2]; unfold B_X10_make_100; rw [if_neg (by simp)]
      exact ⟨fun q => absurd (q.2 (by omega)) h2, fun _ => rfl⟩
/-- the names that a part adds to those bound -/
def nmN (τ : Sg) (n i x : Int) : Int := if i < n then τ 15 x.toNat else 0
theorem mkM {τ : Sg} {t c a3 a4 a5 i bd : Int} {y : Bool} (hK : WFK (τ 1) (τ 2) (τ 3)) (hW : WFP τ) (hc : isC τ t c) (hi : 0 ≤ i ∧ i < 3) : ∃ x' y' b', L_X11_make_33 a3 a4 a5 (4 * t + c) τ true y bd i = some (.inl (x', y', b', i + 1)) ∧ (x' = true ↔ (i < flv τ t c → pl τ (F_X10_pick i a3 a4 a5))) ∧ (x' = true → b' = jor bd (nmN τ (flv τ t c) i (F_X10_pick i a3 a4 a5)) ∧ (y' = true ↔ y = true ∧ okq τ t c i (F_X10_pick i a3 a4 a5) ∧ jand (nmN τ (flv τ t c) i (F_X10_pick i a3 a4 a5)) bd = 0)) := by
  obtain ⟨b1, b2, b3⟩ := isC_b hK hc
  obtain ⟨h1, h2, h3⟩ := id hc
  have w2 := hW.2.1
  unfold L_X11_make_33 okq nmN
  rw [if_neg (by omega), if_pos rfl, bnd_eq, rdn_ok (by omega) (by omega), Option.bind_some, qick]
  generalize F_X10_pick i a3 a4 a5 = x at *
  show ∃ x' y' b', (if flv τ t c ≤ i then _ else _) = _ ∧ _
  have hj0 : jand 0 bd = 0 := by rw [jand_c]; exact jand_0 bd
  by_cases g1 : i < flv τ t c
  · rw [if_neg (by omega)]
    unfold B_X11_make_73
    rw [if_pos rfl]
    by_cases g2 : pl τ x
    · rw [if_pos ((isPat hW).mpr g2), if_pos g1]
      have x60 : x < (60 : Nat) := by have := g2.2; omega
      have hn : rdn 60 τ 15 x = some (τ 15 x.toNat) := rdn_ok g2.1 x60
      have tail : ∀ z : Bool, (z = true ↔ y = true ∧ fitsK τ x (fkv τ t c i) ∧ jand (τ 15 x.toNat) bd = 0) → ∃ x' y' b', B_X11_make_159 true bd i x true z τ = some (.inl (x', y', b', i + 1)) ∧ (x' = true ↔ (i < flv τ t c → pl τ x)) ∧ (x' = true → b' = jor bd (τ 15 x.toNat) ∧ (y' = true ↔ y = true ∧ ((i < flv τ t c → fitsK τ x (fkv τ t c i)) ∧ (flv τ t c ≤ i → x = -1)) ∧ jand (τ 15 x.toNat) bd = 0)) := by
        intro z hz
        unfold B_X11_make_159 B_X11_make_184
        rw [if_pos rfl, if_pos rfl, hn, Option.bind_some, bnd_eq, wrap_id (by omega) (by omega)]
        refine ⟨true, z, _, rfl, ⟨fun _ _ => g2, fun _ => rfl⟩, fun _ => ⟨rfl, hz.trans ?_⟩⟩
        constructor
        · rintro ⟨q1, q2, q3⟩; exact ⟨q1, ⟨fun _ => q2, fun q => by omega⟩, q3⟩
        · rintro ⟨q1, q2, q3⟩; exact ⟨q1, q2.1 g1, q3⟩
      unfold B_X11_make_89 B_X11_make_94 B_X11_make_158 B_X11_make_154
      cases y with
      | false => rw [if_neg (by simp)]; exact tail false (by simp)
      | true =>
        obtain ⟨z, z1, z2⟩ := suits_c (k := fkv τ t c i) hW g2
        rw [if_pos rfl, if_pos rfl, if_pos rfl, wrap_id (z := 3 * (4 * t + c)) (by omega) (by omega), wrap_id (by omega) (by omega), rdn_ok (by omega) (by omega), Option.bind_some]
        show ∃ x' y' b', ((F_X11_suits x (fkv τ t c i) τ).bind _) = _ ∧ _
        rw [z1, Option.bind_some]
        by_cases g3 : fitsK τ x (fkv τ t c i)
        · rw [if_pos (z2.mpr g3), hn, Option.bind_some]
          by_cases g4 : jand (τ 15 x.toNat) bd = 0
          · rw [if_pos g4]; exact tail true (by simp [g3, g4])
          · rw [if_neg g4]; exact tail false (by simp [g4])
        · rw [if_neg (fun q => g3 (z2.mp q))]; exact tail false (by simp [g3])
    · rw [if_neg (fun q => g2 ((isPat hW).mp q))]
      have tail : ∀ z : Bool, ∃ x' y' b', B_X11_make_159 false bd i x true z τ = some (.inl (x', y', b', i + 1)) ∧ x' = false := by
        intro z
        unfold B_X11_make_159 B_X11_make_183 B_X11_make_184
        rw [if_pos rfl, if_neg (by simp), bnd_eq, wrap_id (by omega) (by omega)]
        exact ⟨false, z, _, rfl, rfl⟩
      unfold B_X11_make_94 B_X11_make_158
      have t2 := tail false
      obtain ⟨x', y', b', e1, e2⟩ := t2
      subst e2
      cases y with
      | false => rw [if_neg (by simp)]; exact ⟨false, y', b', e1, by simp; exact ⟨g1, g2⟩, fun q => by cases q⟩
      | true => rw [if_pos rfl, if_pos rfl, if_neg (by simp)]; exact ⟨false, y', b', e1, by simp; exact ⟨g1, g2⟩, fun q => by cases q⟩
  · rw [if_pos (by omega)]
    unfold B_X11_make_73 B_X11_make_89 B_X11_make_94 B_X11_make_158 B_X11_make_154
    rw [if_neg (by simp), if_neg g1]
    have tail : ∀ z : Bool, (z = true ↔ y = true ∧ x = -1) → ∃ x' y' b', B_X11_make_159 true bd i x false z τ = some (.inl (x', y', b', i + 1)) ∧ (x' = true ↔ (i < flv τ t c → pl τ x)) ∧ (x' = true → b' = jor bd 0 ∧ (y' = true ↔ y = true ∧ ((i < flv τ t c → fitsK τ x (fkv τ t c i)) ∧ (flv τ t c ≤ i → x = -1)) ∧ jand 0 bd = 0)) := by
      intro z hz
      unfold B_X11_make_159 B_X11_make_183 B_X11_make_184
      rw [if_neg (by simp), bnd_eq, wrap_id (by omega) (by omega)]
      refine ⟨true, z, _, rfl, ⟨fun _ q => absurd q g1, fun _ => rfl⟩, fun _ => ⟨rfl, hz.trans ?_⟩⟩
      constructor
      · rintro ⟨q1, q2⟩; exact ⟨q1, ⟨fun q => absurd q g1, fun _ => q2⟩, hj0⟩
      · rintro ⟨q1, q2, q3⟩; exact ⟨q1, q2.2 (by omega)⟩
    cases y with
    | false => rw [if_neg (by simp)]; exact tail false (by simp)
    | true =>
      rw [if_pos rfl, if_neg (by simp)]
      by_cases g3 : x = -1
      · rw [if_pos g3]; exact tail true (by simp [g3])
      · rw [if_neg g3]; exact tail false (by simp [g3])
theorem mkM_f {τ : Sg} {a3 a4 a5 w i b : Int} {y : Bool} : L_X11_make_33 a3 a4 a5 w τ false y b i = some (.inr (false, y)) := by
  unfold L_X11_make_33
  split
  · rfl
  · rfl
set_option maxHeartbeats 4000000 in
theorem op_make {σ τ : Sg} (a1 a2 a3 a4 a5 : Int) (hk : RK σ τ) (h : RP σ τ) : OpP [(0, 1), (1, 2), (2, 3)] (F_X10_make a1 a2 a3 a4 a5 σ) (F_X11_make a1 a2 a3 a4 a5 τ) σ τ := by
  have hW := h.2.1
  have hK := hk.2.2.2
  have w1 := hW.1
  have w2 := hW.2.1
  unfold F_X10_make F_X11_make
  obtain ⟨b, hb1, hb2⟩ := isCon_c (t := a1) (c := a2) hK
  rw [hb1, Option.bind_some]
  have hthrow : ∀ w t : Int, ¬ t = 0 → B_X11_make_268 a1 a3 a4 a5 w t τ = some (0, up2 τ 0 0 t) := fun w t ht => by
    unfold B_X11_make_268; rw [bnd_eq, refused_n ht]; rfl
  by_cases c1 : isC τ a1 a2
  · have hbt : b = true := hb2.mpr c1
    subst hbt
    obtain ⟨b1, b2, b3⟩ := isC_b hK c1
    obtain ⟨c1a, c1b, c1c⟩ := id c1
    rw [if_pos ((has_iff hk).mpr c1), if_pos rfl, bnd_eq, fieldsOf_c hk c1, wrap_id (z := 4 * a1) (by omega) (by omega), wrap_id (z := 4 * a1 + a2) (by omega) (by omega)]
    have nb : ∀ i x : Int, 0 ≤ nmN τ (flv τ a1 a2) i x ∧ nmN τ (flv τ a1 a2) i x < 64 ∨ (i < flv τ a1 a2 ∧ ¬ pl τ x) := by
      intro i x
      unfold nmN
      by_cases g : i < flv τ a1 a2
      · rw [if_pos g]
        by_cases g2 : pl τ x
        · exact Or.inl (nm_b hW g2)
        · exact Or.inr ⟨g, g2⟩
      · rw [if_neg g]; exact Or.inl (by omega)
    unfold B_X11_make_22
    generalize hn0 : nmN τ (flv τ a1 a2) 0 a3 = n0
    generalize hn1 : nmN τ (flv τ a1 a2) 1 a4 = n1
    generalize hn2 : nmN τ (flv τ a1 a2) 2 a5 = n2
    have hN : ∀ i, 0 ≤ i → i < 3 → nmN τ (flv τ a1 a2) i (F_X10_pick i a3 a4 a5) = F_X10_pick i n0 n1 n2 := by
      intro i i0 i3
      have : i = 0 ∨ i = 1 ∨ i = 2 := by omega
      rcases this with rfl | rfl | rfl
      · exact hn0
      · exact hn1
      · exact hn2
    obtain ⟨x, y, g1, g2, g3⟩ := for_f3 (f := fun a : Bool × Bool × Int × Int => L_X11_make_33 a3 a4 a5 (4 * a1 + a2) τ a.1 a.2.1 a.2.2.1 a.2.2.2) (n := 3) (P := fun i => i < flv τ a1 a2 → pl τ (F_X10_pick i a3 a4 a5)) (Q := fun i => okq τ a1 a2 i (F_X10_pick i a3 a4 a5)) (N := fun i => F_X10_pick i n0 n1 n2) (bd := bd3 n0 n1 n2) bd3_s (fun x y b => rfl) (fun m y b i i0 i1 i2 => by
      cases m with
      | zero => omega
      | succ m => exact ⟨y, iter_r mkM_f⟩) 4 0 true (by omega) (by omega) (by omega) (fun y j j1 j2 => by
        have := mkM (y := y) (bd := bd3 n0 n1 n2 j) (a3 := a3) (a4 := a4) (a5 := a5) hK hW c1 ⟨j1, j2⟩
        rw [hN j j1 j2] at this
        exact this)
    have hg1 : iter (fun a : Bool × Bool × Int × Int => L_X11_make_33 a3 a4 a5 (4 * a1 + a2) τ a.1 a.2.1 a.2.2.1 a.2.2.2) 4 (true, true, 0, 0) = some (x, y) := g1
    rw [hg1, Option.bind_some]
    by_cases c2 : ∀ i, 0 ≤ i → i < flv τ a1 a2 → pl τ (F_X10_pick i a3 a4 a5)
    · have N0 := (nb 0 a3).resolve_right (fun q => q.2 (c2 0 (by omega) q.1))
      have N1 := (nb 1 a4).resolve_right (fun q => q.2 (c2 1 (by omega) q.1))
      have N2 := (nb 2 a5).resolve_right (fun q => q.2 (c2 2 (by omega) q.1))
      rw [hn0] at N0; rw [hn1] at N1; rw [hn2] at N2
      have hx : x = true := g2.mpr (fun j j1 j2 j3 => c2 j j1 j3)
      subst hx
      have g3 := g3 rfl
      rw [demP_ok h ⟨b2, b3⟩ c2, if_pos rfl]
      show OpP _ ((iter (fun a : Int => L_X10_make_37 a1 a2 a3 a4 a5 (flv τ a1 a2) σ a) 4 0).bind _) _ σ τ
      have f2 : B_X11_make_234 a1 a3 a4 a5 true (4 * a1 + a2) τ = some (0, up2 τ 0 0 2) := by
        unfold B_X11_make_234 B_X11_make_235; rw [if_pos rfl, if_neg (by simp), hthrow _ 2 (by omega)]
      by_cases c3 : ∀ i, 0 ≤ i → i < 3 → okq τ a1 a2 i (F_X10_pick i a3 a4 a5)
      · rw [for_ok (f := fun a : Int => L_X10_make_37 a1 a2 a3 a4 a5 (flv τ a1 a2) σ a) (n := 3) (e := .inl ()) rfl 4 0 (by omega) (by omega) (fun j j1 j2 => (mkC hk h c1 ⟨j1, j2⟩ (c2 j j1)).1 (c3 j j1 j2)), Option.bind_some, Sum.elim_inl]
        have po : ∀ i : Int, 0 ≤ i → i < 3 → plo τ (F_X10_pick i a3 a4 a5) := fun i i0 i3 => by
          by_cases g : i < flv τ a1 a2
          · exact Or.inr (c2 i i0 g)
          · exact Or.inl ((c3 i i0 i3).2 (by omega))
        have p0 : plo τ a3 := po 0 (by omega) (by omega)
        have p1 : plo τ a4 := po 1 (by omega) (by omega)
        have p2 : plo τ a5 := po 2 (by omega) (by omega)
        have en : ∀ (i x : Int), okq τ a1 a2 i x → (i < flv τ a1 a2 → pl τ x) → nmN τ (flv τ a1 a2) i x = nmo τ x := fun i x g gv => by
          unfold nmN nmo
          by_cases g1 : i < flv τ a1 a2
          · rw [if_pos g1, if_neg (by have := (gv g1).1; omega)]
          · have := g.2 (by omega)
            rw [if_neg g1, if_pos (by omega)]
        have e0 : n0 = nmo τ a3 := by rw [← hn0]; exact en 0 a3 (c3 0 (by omega) (by omega)) (c2 0 (by omega))
        have e1 : n1 = nmo τ a4 := by rw [← hn1]; exact en 1 a4 (c3 1 (by omega) (by omega)) (c2 1 (by omega))
        have e2 : n2 = nmo τ a5 := by rw [← hn2]; exact en 2 a5 (c3 2 (by omega) (by omega)) (c2 2 (by omega))
        have hap : (y = true) ↔ apS τ a3 a4 a5 := by
          rw [g3]
          have := apart_iff N0 N1 N2
          unfold apS
          rw [← e0, ← e1, ← e2, ← this]
          constructor
          · rintro ⟨-, q⟩
            exact ⟨(q 0 (by omega) (by omega)).2, (q 1 (by omega) (by omega)).2, (q 2 (by omega) (by omega)).2⟩
          · rintro ⟨q0, q1, q2⟩
            refine ⟨rfl, fun j j1 j2 => ⟨c3 j j1 j2, ?_⟩⟩
            have : j = 0 ∨ j = 1 ∨ j = 2 := by omega
            rcases this with rfl | rfl | rfl
            · exact q0
            · exact q1
            · exact q2
        have hcp := canParts5 h p0 p1 p2
        rw [depthM hW p0 p1 p2, size11 hW p0 p1 p2, Option.bind_some, Option.bind_some]
        by_cases c4 : ptS τ a3 a4 a5
        · obtain ⟨d1, d2, d3⟩ := id c4
          rw [if_pos (hcp.mpr c4), if_pos (hap.mpr d1), if_neg (by omega), if_neg (by omega)]
          unfold B_X11_make_235
          rw [if_pos rfl, if_pos rfl]
          by_cases c : τ 0 9 = 60
          · rw [if_pos (isFull_iff.mpr c), full_c h c]
            exact Or.inl ⟨2, 3, rfl, hthrow _ 3 (by omega), rfl, by decide, by decide⟩
          · obtain ⟨n, hN9⟩ : ∃ n : Nat, τ 0 9 = n := ⟨(τ 0 9).toNat, by omega⟩
            have hj : jrem (4 * a1 + a2) 4 = a2 := by unfold jrem; rw [Int.tmod_eq_emod_of_nonneg (by omega)]; omega
            obtain ⟨σ', τ', k1, k2, k3, k4⟩ := push_all (so := 3) (lo := a2) (hi := a2) (fm := 3) (hd := 4 * a1 + a2) (rs := 0) (p0 := a3) (p1 := a4) (p2 := a5) (kd := a1) h hN9 (by omega) hK
              ⟨by omega, (plo_ok hN9).mp p0, (plo_ok hN9).mp p1, (plo_ok hN9).mp p2, d2, (by rw [if_neg (by omega)]; omega), fun h => by omega, fun h => by omega, fun h => by omega, fun _ => ⟨a1.toNat, a2.toNat, by omega, by omega, by omega, by omega, fun k hk3 => by
                have hf : τ 2 (4 * a1.toNat + a2.toNat) = flv τ a1 a2 := by unfold flv; congr 1; omega
                have hq := c3 k (by omega) (by omega)
                rw [hf]
                refine ⟨fun hlt => ?_, fun hge => hq.2 hge⟩
                have := hq.1 hlt
                unfold fkv at this
                rw [show (3 * (4 * a1 + a2) + (k : Int)).toNat = 3 * (4 * a1.toNat + a2.toNat) + k by omega] at this
                exact this⟩, fun h => by omega, fun h => by omega, fun h => by omega⟩ (by rw [if_neg (by omega)]) (by rw [if_pos rfl, hj]) (by rw [if_neg (by omega), if_pos rfl, hj])
            rw [if_neg (fun q => c (isFull_iff.mp q)), k1]
            refine Or.inr ⟨n, σ', τ', ⟨rfl, ?_, k3⟩, k4⟩
            unfold B_X11_make_268; rw [bnd_eq, refused_0, if_neg (by simp)]
            show ((F_X11_pattern 3 (4 * a1 + a2) 0 a3 a4 a5 a1 (up2 τ 0 0 0)).bind _) = _
            rw [k2]; rfl
        · rw [if_neg (fun q => c4 (hcp.mp q))]
          refine Or.inl ⟨1, 2, rfl, ?_, rfl, by decide, by decide⟩
          by_cases d1 : apS τ a3 a4 a5
          · rw [if_pos (hap.mpr d1)]
            by_cases d3 : 4 < max3 (dpo τ a3) (dpo τ a4) (dpo τ a5) + 1
            · rw [if_pos d3, f2]
            · rw [if_neg d3, if_pos (by
                refine Classical.byContradiction fun q => c4 ⟨d1, by omega, by omega⟩), f2]
          · rw [if_neg (fun q => d1 (hap.mp q)), f2]
      · have hy : ¬ y = true := fun q => c3 (fun j j1 j2 => ((g3.mp q).2 j j1 j2).1)
        refine Or.inl ⟨1, 2, ?_, ?_, rfl, by decide, by decide⟩
        · rw [for_no (f := fun a : Int => L_X10_make_37 a1 a2 a3 a4 a5 (flv τ a1 a2) σ a) (n := 3) (r := .inr (.inr 1, σ)) (P := fun i => okq τ a1 a2 i (F_X10_pick i a3 a4 a5)) 4 0 (by omega) (by omega) (fun j j1 j2 j3 => (mkC hk h c1 ⟨j1, j2⟩ (c2 j j1)).1 j3) (fun j j1 j2 j3 => (mkC hk h c1 ⟨j1, j2⟩ (c2 j j1)).2 j3) c3]; rfl
        · rw [if_neg hy, f2]
    · have hx : ¬ x = true := fun q => c2 (fun j j1 j2 => g2.mp q j j1 (by omega) j2)
      refine Or.inl ⟨0, 1, ?_, ?_, rfl, by decide, by decide⟩
      · rw [demP_no h ⟨b2, b3⟩ c2]; rfl
      · rw [if_neg hx]
        unfold B_X11_make_234 B_X11_make_235; rw [if_neg hx, hthrow _ 1 (by omega)]
  · have hbf : ¬ b = true := fun q => c1 (hb2.mp q)
    have hbf2 : b = false := by cases b <;> simp at hbf ⊢
    refine Or.inl ⟨0, 1, ?_, ?_, rfl, by decide, by decide⟩
    · rw [if_neg (fun q => c1 ((has_iff hk).mp q))]
    · rw [if_neg hbf, hbf2]
      unfold B_X11_make_22
      rw [iter_r (by exact mkM_f), Option.bind_some, if_neg (by simp)]
      unfold B_X11_make_234 B_X11_make_235; rw [if_neg (by simp), hthrow _ 1 (by omega)]
