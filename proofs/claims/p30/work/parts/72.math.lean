/-! guard, the call -/
/-- both refuse; the reference's stack may have been used -/
def ThrW (es : List (Nat × Int)) (f : Option ((Int ⊕ Nat) × Sg)) (g : Option (Int × Sg)) (σ τ : Sg) : Prop := ∃ (E : Nat) (t : Int) (τ2 : Sg), f = some (.inr E, σ) ∧ g = some (0, up2 τ2 0 0 t) ∧ asT τ τ2 ∧ kE es E = some t ∧ 1 ≤ t ∧ t ≤ 3
def cG (σ : Sg) (c g nm th : Int) : Sg := up2 (up2 (up2 (F_X10_forgetEngines σ) 26 (c * 8 + 4).toNat g) 26 (c * 8 + 5).toNat nm) 26 (c * 8 + 6).toNat th
def mG (τ : Sg) (c g nm th : Int) : Sg := up2 (up2 (up2 (up2 (up2 τ 0 0 0) 22 c.toNat g) 23 c.toNat nm) 24 c.toNat th) 0 54 (-1)
set_option maxHeartbeats 4000000 in
theorem RM.guard {σ τ τ2 : Sg} {c : Nat} {g nm th : Int} (h : RM σ τ) (hc : (c : Int) < τ 0 23) (hE : asT τ τ2) (hg : -1 ≤ g ∧ g ≤ 3) (hn : 0 ≤ nm ∧ nm ≤ 5) (ht : 0 ≤ th ∧ th ≤ 9) (hb : ¬ g = -1 → bnC τ c nm = (true, true)) : RM (cG σ c g nm th) (mG τ2 c g nm th) := by
  obtain ⟨h1, h2, h3, ⟨w1, w2, w3, w4, w5⟩, h5⟩ := h
  have hcc : (c : Int).toNat = c := by omega
  have x4 : ((c : Int) * 8 + 4).toNat = 8 * c + 4 := by omega
  have x5 : ((c : Int) * 8 + 5).toNat = 8 * c + 5 := by omega
  have x6 : ((c : Int) * 8 + 6).toNat = 8 * c + 6 := by omega
  have rowM : ∀ k, k ∉ [0, 22, 23, 24, 26, 27] → mG τ2 c g nm th k = τ k := by
    intro k hk
    simp only [List.mem_cons, List.not_mem_nil, or_false, not_or] at hk
    rw [← hE k (by simp only [List.mem_cons, List.not_mem_nil, or_false, not_or]; omega)]
    unfold mG; funext i
    simp (disch := omega) only [bnd_eq, bind_some', wrap_id, rdn_ok, wrn_ok, wbn_ok, rdD_ok, rdD_out, wrD_ok, wrD_out, up2_at, up2_row, up2_idx, iter_s, itp, itn, isIn_iff, in_iff, ↓reduceIte, reduceCtorEq]
  have m0 : ∀ i, ¬ i = 0 → ¬ i = 54 → mG τ2 c g nm th 0 i = τ 0 i := by
    intro i i0 i2
    rw [← hE 0 (by decide)]
    unfold mG
    simp (disch := omega) only [bnd_eq, bind_some', wrap_id, rdn_ok, wrn_ok, wbn_ok, rdD_ok, rdD_out, wrD_ok, wrD_out, up2_at, up2_row, up2_idx, iter_s, itp, itn, isIn_iff, in_iff, ↓reduceIte, reduceCtorEq]
  have oldM : ∀ d : Nat, ¬ d = c → mG τ2 c g nm th 22 d = τ 22 d ∧ mG τ2 c g nm th 23 d = τ 23 d ∧ mG τ2 c g nm th 24 d = τ 24 d := by
    intro d hd
    rw [← hE 22 (by decide), ← hE 23 (by decide), ← hE 24 (by decide)]
    unfold mG
    rw [hcc]
    refine ⟨?_, ?_, ?_⟩ <;> simp (disch := omega) only [bnd_eq, bind_some', wrap_id, rdn_ok, wrn_ok, wbn_ok, rdD_ok, rdD_out, wrD_ok, wrD_out, up2_at, up2_row, up2_idx, iter_s, itp, itn, isIn_iff, in_iff, ↓reduceIte, reduceCtorEq]
  have newM : mG τ2 c g nm th 22 c = g ∧ mG τ2 c g nm th 23 c = nm ∧ mG τ2 c g nm th 24 c = th := by
    unfold mG
    rw [hcc]
    refine ⟨?_, ?_, ?_⟩ <;> simp (disch := omega) only [bnd_eq, bind_some', wrap_id, rdn_ok, wrn_ok, wbn_ok, rdD_ok, rdD_out, wrD_ok, wrD_out, up2_at, up2_row, up2_idx, iter_s, itp, itn, isIn_iff, in_iff, ↓reduceIte, reduceCtorEq]
  have oldC : ∀ d k : Nat, k < 8 → ¬ (d = c ∧ 4 ≤ k ∧ k ≤ 6) → cG σ c g nm th 26 (8 * d + k) = σ 26 (8 * d + k) := by
    intro d k hk hd
    unfold cG
    rw [x4, x5, x6, forget_eq]
    simp (disch := omega) only [bnd_eq, bind_some', wrap_id, rdn_ok, wrn_ok, wbn_ok, rdD_ok, rdD_out, wrD_ok, wrD_out, up2_at, up2_row, up2_idx, iter_s, itp, itn, isIn_iff, in_iff, ↓reduceIte, reduceCtorEq]
  have newC : cG σ c g nm th 26 (8 * c + 4) = g ∧ cG σ c g nm th 26 (8 * c + 5) = nm ∧ cG σ c g nm th 26 (8 * c + 6) = th := by
    unfold cG
    rw [x4, x5, x6, forget_eq]
    refine ⟨?_, ?_, ?_⟩ <;> simp (disch := omega) only [bnd_eq, bind_some', wrap_id, rdn_ok, wrn_ok, wbn_ok, rdD_ok, rdD_out, wrD_ok, wrD_out, up2_at, up2_row, up2_idx, iter_s, itp, itn, isIn_iff, in_iff, ↓reduceIte, reduceCtorEq]
  have c24 : ∀ k, cG σ c g nm th 24 k = σ 24 k := by intro k; unfold cG; rw [forget_eq]; simp (disch := omega) only [bnd_eq, bind_some', wrap_id, rdn_ok, wrn_ok, wbn_ok, rdD_ok, rdD_out, wrD_ok, wrD_out, up2_at, up2_row, up2_idx, iter_s, itp, itn, isIn_iff, in_iff, ↓reduceIte, reduceCtorEq]
  have c25 : ∀ k, cG σ c g nm th 25 k = σ 25 k := by intro k; unfold cG; rw [forget_eq]; simp (disch := omega) only [bnd_eq, bind_some', wrap_id, rdn_ok, wrn_ok, wbn_ok, rdD_ok, rdD_out, wrD_ok, wrD_out, up2_at, up2_row, up2_idx, iter_s, itp, itn, isIn_iff, in_iff, ↓reduceIte, reduceCtorEq]
  obtain ⟨g1, g2, g3⟩ := newM
  obtain ⟨d1, d2, d3⟩ := newC
  generalize cG σ c g nm th = σ' at *
  generalize mG τ2 c g nm th = τ' at *
  have e21 : τ' 0 21 = τ 0 21 := m0 21 (by omega) (by omega)
  have e23 : τ' 0 23 = τ 0 23 := m0 23 (by omega) (by omega)
  have e9 : τ' 0 9 = τ 0 9 := m0 9 (by omega) (by omega)
  have e19 := rowM 19 (by decide)
  have e12 := rowM 12 (by decide)
  have e20 := rowM 20 (by decide)
  have fk : ∀ x k, fitsK τ' x k ↔ fitsK τ x k := fun x k => by unfold fitsK; rw [e9, e12]
  have ec : ∀ d k, cpt τ' d k = cpt τ d k := fun d k => by unfold cpt; rw [e20]
  have eb : ∀ d nm', bnC τ' d nm' = bnC τ d nm' := fun d nm' => bnC_congr (rowM 3 (by decide)) (rowM 8 (by decide)) (rowM 9 (by decide)) (rowM 11 (by decide)) (fun k _ => by rw [e19]) e21 (fun k _ => ec d k)
  refine ⟨by rw [c24, e21]; exact h1, by rw [c24, e23]; exact h2, fun k hk => by rw [c25, e19]; exact h3 k hk, ⟨by rw [e21]; exact w1, by rw [e23]; exact w2, fun k hk => by rw [e19]; exact w3 k (by omega), fun q => by rw [e23]; exact w4 (by omega), fun d hd => ?_⟩, fun d hd => ?_⟩
  · obtain ⟨f1, f2, f3, f4⟩ := w5 d (by omega)
    unfold WFM1
    rw [rowM 21 (by decide), e21, e19]
    refine ⟨fun k hk => by rw [ec]; exact ⟨fun q => (fk _ _).mpr ((f1 k hk).1 q), (f1 k hk).2⟩, f2, ?_, ?_⟩
    · by_cases e : d = c
      · subst e; rw [g1]; exact hg
      · rw [(oldM d e).1]; exact f3
    · by_cases e : d = c
      · subst e; rw [g1, g2, g3, eb]; exact fun q => ⟨hn, ht, hb q⟩
      · obtain ⟨o1, o2, o3⟩ := oldM d e
        rw [o1, o2, o3, eb]; exact f4
  · obtain ⟨f1, f2, f3, f4, f5⟩ := h5 d (by omega)
    unfold RM1
    rw [rowM 21 (by decide), rowM 25 (by decide), oldC d 3 (by omega) (by omega), oldC d 7 (by omega) (by omega)]
    refine ⟨fun k hk => by rw [oldC d k (by omega) (by omega), ec]; exact f1 k hk, f2, ?_, ?_, f5⟩
    · by_cases e : d = c
      · subst e; rw [g1]; exact d1
      · rw [(oldM d e).1, oldC d 4 (by omega) (fun q => e q.1)]; exact f3
    · by_cases e : d = c
      · subst e; rw [g1, g2, g3]; exact fun _ => ⟨d2, d3⟩
      · obtain ⟨o1, o2, o3⟩ := oldM d e
        rw [o1, o2, o3, oldC d 5 (by omega) (fun q => e q.1), oldC d 6 (by omega) (fun q => e q.1)]; exact f4
set_option maxHeartbeats 4000000 in
theorem op_guard {σ τ : Sg} (a1 a2 a3 a4 : Int) (hk : RK σ τ) (h : RP σ τ) (hM : RM σ τ) : ThrW [(0, 1), (1, 2)] (F_X10_guard a1 a2 a3 a4 σ) (F_X11_guard a1 a2 a3 a4 τ) σ τ ∨ ∃ v σ' τ', Okk (F_X10_guard a1 a2 a3 a4 σ) (F_X11_guard a1 a2 a3 a4 τ) v σ' τ' ∧ (∀ k, k ∉ [26, 33, 43, 49] → σ' k = σ k) ∧ (∀ k, k ∉ [0, 22, 23, 24, 26, 27] → τ' k = τ k) ∧ (∀ i, i ∉ [0, 54] → τ' 0 i = τ 0 i) ∧ RM σ' τ' ∧ NoEng σ σ' τ' := by
  have hW := h.2.1
  have hF := hk.2.2.2
  obtain ⟨h1, h2, h3, h4, h5⟩ := id hM
  obtain ⟨w1, w2, w3, w4, w5⟩ := id h4
  have hthrow : ∀ (t : Int) (s : Sg), ¬ t = 0 → B_X11_guard_97 a1 a2 a3 a4 t s = some (0, up2 s 0 0 t) := fun t s ht => by
    unfold B_X11_guard_97; rw [bnd_eq, refused_n ht]; rfl
  have hself : asT τ τ := fun _ _ => rfl
  unfold F_X10_guard F_X11_guard B_X10_guard_25 B_X11_guard_30
  have bad : ThrW [(0, 1), (1, 2)] (some (.inr 0, σ)) (B_X11_guard_31 a1 a2 a3 a4 false τ) σ τ := by
    refine ⟨0, 1, τ, rfl, ?_, hself, rfl, by decide, by decide⟩
    unfold B_X11_guard_31 B_X11_guard_74 B_X11_guard_75
    rw [if_neg (by simp), if_neg (by simp), hthrow 1 τ (by omega)]
  have b30 : B_X10_guard_30 a1 a2 a3 a4 false σ = some (.inr 0, σ) := by unfold B_X10_guard_30; rw [if_neg (by simp)]
  by_cases c1 : 0 ≤ a1 ∧ a1 < τ 0 23
  · rw [if_pos ((has4 hM).mpr c1), if_pos ((isCase_iff h4).mpr c1)]
    by_cases c2 : -1 ≤ a2 ∧ a2 ≤ 3
    · rw [if_pos (in_iff.mpr c2)]
      have hc30 : (if a2 = -1 then B_X10_guard_30 a1 a2 a3 a4 true σ else if F_X10_isIn a2 0 3 = true then B_X10_guard_30 a1 a2 a3 a4 true σ else B_X10_guard_30 a1 a2 a3 a4 false σ) = B_X10_guard_30 a1 a2 a3 a4 true σ := by
        by_cases q : a2 = -1
        · rw [if_pos q]
        · rw [if_neg q, if_pos (isIn_iff.mpr (by omega))]
      rw [hc30]
      unfold B_X10_guard_30 F_X10_isName
      rw [if_pos rfl]
      by_cases c3 : 0 ≤ a3 ∧ a3 ≤ 5
      · rw [if_pos (isIn_iff.mpr c3), if_pos (in_iff.mpr c3)]
        obtain ⟨c, hc⟩ : ∃ c : Nat, a1 = c := ⟨a1.toNat, by omega⟩
        subst hc
        -- what is tested, and the state behind the test
        obtain ⟨y, s, hs, e1, e2, e3⟩ : ∃ (y : Bool) (s : Sg), asT τ s ∧ (if a2 = -1 then (if a3 = 0 then B_X10_guard_63 c a2 a3 a4 true σ else B_X10_guard_63 c a2 a3 a4 false σ) else (F_X10_bindsNumber c a3 σ).bind fun q1 => B_X10_guard_63 c a2 a3 a4 q1 σ) = B_X10_guard_63 c a2 a3 a4 y σ ∧ (if a2 = -1 then (if a3 = 0 then B_X11_guard_70 c a2 a3 a4 true τ else B_X11_guard_74 c a2 a3 a4 true τ) else (F_X11_bindsNumber c a3 τ).bind fun q13 => if q13.1 = true then B_X11_guard_70 c a2 a3 a4 true q13.2 else B_X11_guard_74 c a2 a3 a4 true q13.2) = (if y = true then B_X11_guard_70 c a2 a3 a4 true s else B_X11_guard_74 c a2 a3 a4 true s) ∧ (y = true → ¬ a2 = -1 → bnC τ c a3 = (true, true)) := by
          by_cases q : a2 = -1
          · refine ⟨decide (a3 = 0), τ, hself, ?_, ?_, fun _ q2 => absurd q q2⟩
            · rw [if_pos q]
              by_cases q3 : a3 = 0
              · rw [if_pos q3, decide_eq_true q3]
              · rw [if_neg q3, decide_eq_false q3]
            · rw [if_pos q]
              by_cases q3 : a3 = 0
              · rw [if_pos q3, decide_eq_true q3, if_pos rfl]
              · rw [if_neg q3, decide_eq_false q3, if_neg (by simp)]
          · obtain ⟨s', b1, b2⟩ := bindsM (nm := a3) hW hF h4 c1.2
            have b3 := bindsC hk h hM c1.2 c3
            refine ⟨(bnC τ c a3).1 && (bnC τ c a3).2, s', b2, ?_, ?_, fun z _ => ?_⟩
            · rw [if_neg q, b3]; rfl
            · rw [if_neg q, b1]; rfl
            · simp only [Bool.and_eq_true] at z
              exact Prod.ext z.1 z.2
        have hf74 : ∀ s, B_X11_guard_74 c a2 a3 a4 true s = some (0, up2 s 0 0 2) := fun s => by
          unfold B_X11_guard_74 B_X11_guard_75; rw [if_pos rfl, if_neg (by simp), hthrow 2 s (by omega)]
        unfold B_X11_guard_31
        rw [if_pos rfl]
        by_cases c4 : 0 ≤ a4 ∧ a4 ≤ 9
        · rw [if_pos (in_iff.mpr c4), e1, e2]
          unfold B_X10_guard_63
          cases y with
          | false =>
            rw [if_neg (by simp), if_neg (by simp), hf74]
            exact Or.inl ⟨1, 2, s, rfl, rfl, hs, rfl, by decide, by decide⟩
          | true =>
            rw [if_pos rfl, if_pos rfl, if_pos (isDigit_iff.mpr c4)]
            have h8 : (c : Int) < 8 := by omega
            have hg := RM.guard (g := a2) (nm := a3) (th := a4) hM c1.2 hs c2 c3 c4 (fun q => e3 rfl q)
            refine Or.inr ⟨τ 22 c, cG σ c a2 a3 a4, mG s c a2 a3 a4, ⟨?_, ?_, ?_⟩, ?_, ?_, ?_, hg, ?_⟩
            · have f0 : F_X10_forgetEngines σ 24 1 = τ 0 23 := h2
              have hM0 : RM (F_X10_forgetEngines σ) τ := hM
              rw [bnd_eq, get4 hM0 c1 (by omega), bnd_eq, show (8 * ((c : Int)).toNat + ((4 : Int)).toNat) = 8 * c + 4 by omega]
              have hv : F_X10_forgetEngines σ 26 (8 * c + 4) = τ 22 c := (h5 c c1.2).2.2.1
              rw [hv]
              unfold cG
              generalize F_X10_forgetEngines σ = z at f0
              rw [bnd_eq, set4 (k := 4) (v := a2) (s := z) ⟨by omega, by omega⟩ h8 (by omega), bnd_eq, set4 (k := 5) (v := a3) (s := up2 z 26 ((c : Int) * 8 + 4).toNat a2) ⟨by omega, by simp (disch := omega) only [bnd_eq, bind_some', wrap_id, rdn_ok, wrn_ok, wbn_ok, rdD_ok, rdD_out, wrD_ok, wrD_out, up2_at, up2_row, up2_idx, iter_s, itp, itn, isIn_iff, in_iff, ↓reduceIte, reduceCtorEq]; omega⟩ h8 (by omega), bnd_eq, set4 (k := 6) (v := a4) (s := up2 (up2 z 26 ((c : Int) * 8 + 4).toNat a2) 26 ((c : Int) * 8 + 5).toNat a3) ⟨by omega, by simp (disch := omega) only [bnd_eq, bind_some', wrap_id, rdn_ok, wrn_ok, wbn_ok, rdD_ok, rdD_out, wrD_ok, wrD_out, up2_at, up2_row, up2_idx, iter_s, itp, itn, isIn_iff, in_iff, ↓reduceIte, reduceCtorEq]; omega⟩ h8 (by omega)]
            · unfold B_X11_guard_70 B_X11_guard_75 B_X11_guard_97 mG
              rw [if_pos rfl, if_pos rfl, bnd_eq, refused_0, if_neg (by simp)]
              dsimp only
              rw [rdn_ok (by omega) (by omega), Option.bind_some, wrn_ok (by omega) (by omega), Option.bind_some, wrn_ok (by omega) (by omega), Option.bind_some, wrn_ok (by omega) (by omega), Option.bind_some, bnd_eq, up2_row (by omega), show ((c : Int)).toNat = c by omega, hs 22 (by decide)]
            · unfold mG; simp (disch := omega) only [bnd_eq, bind_some', wrap_id, rdn_ok, wrn_ok, wbn_ok, rdD_ok, rdD_out, wrD_ok, wrD_out, up2_at, up2_row, up2_idx, iter_s, itp, itn, isIn_iff, in_iff, ↓reduceIte, reduceCtorEq]
            · intro k hk
              simp only [List.mem_cons, List.not_mem_nil, or_false, not_or] at hk
              unfold cG; rw [forget_eq]; funext i
              simp (disch := omega) only [bnd_eq, bind_some', wrap_id, rdn_ok, wrn_ok, wbn_ok, rdD_ok, rdD_out, wrD_ok, wrD_out, up2_at, up2_row, up2_idx, iter_s, itp, itn, isIn_iff, in_iff, ↓reduceIte, reduceCtorEq]
            · intro k hk
              simp only [List.mem_cons, List.not_mem_nil, or_false, not_or] at hk
              rw [← hs k (by simp only [List.mem_cons, List.not_mem_nil, or_false, not_or]; omega)]
              unfold mG; funext i
              simp (disch := omega) only [bnd_eq, bind_some', wrap_id, rdn_ok, wrn_ok, wbn_ok, rdD_ok, rdD_out, wrD_ok, wrD_out, up2_at, up2_row, up2_idx, iter_s, itp, itn, isIn_iff, in_iff, ↓reduceIte, reduceCtorEq]
            · intro i hi
              simp only [List.mem_cons, List.not_mem_nil, or_false, not_or] at hi
              rw [← hs 0 (by decide)]
              unfold mG
              simp (disch := omega) only [bnd_eq, bind_some', wrap_id, rdn_ok, wrn_ok, wbn_ok, rdD_ok, rdD_out, wrD_ok, wrD_out, up2_at, up2_row, up2_idx, iter_s, itp, itn, isIn_iff, in_iff, ↓reduceIte, reduceCtorEq]
            · unfold NoEng cG mG
              rw [forget_eq]
              refine ⟨?_, ?_, ?_, ?_, ?_, ?_⟩ <;> simp (disch := omega) only [bnd_eq, bind_some', wrap_id, rdn_ok, wrn_ok, wbn_ok, rdD_ok, rdD_out, wrD_ok, wrD_out, up2_at, up2_row, up2_idx, iter_s, itp, itn, isIn_iff, in_iff, ↓reduceIte, reduceCtorEq]
        · rw [if_neg (fun q => c4 (in_iff.mp q)), e1, hf74]
          refine Or.inl ⟨1, 2, τ, ?_, rfl, hself, rfl, by decide, by decide⟩
          unfold B_X10_guard_63
          split
          · rw [if_neg (fun q => c4 (isDigit_iff.mp q))]
          · rfl
      · rw [if_neg (fun q => c3 (isIn_iff.mp q)), if_neg (fun q => c3 (in_iff.mp q))]
        exact Or.inl bad
    · rw [if_neg (fun q => c2 (in_iff.mp q)), if_neg (by omega), if_neg (fun q => c2 (by have := isIn_iff.mp q; omega)), b30]
      exact Or.inl bad
  · rw [if_neg (fun q => c1 ((has4 hM).mp q)), if_neg (fun q => c1 ((isCase_iff h4).mp q))]
    exact Or.inl bad
