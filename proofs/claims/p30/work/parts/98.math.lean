/-! parts and columns in their order -/
def itm (τ : Sg) (p : Nat) (pl f : Int) (k : Nat) : Nat × Int := ((prt τ p k).toNat, 5 * pl + skipE τ p f + k + 1)
def citm (τ : Sg) (c k : Nat) : Nat × Int := ((cpt τ c k).toNat, (k : Int) + 1)
def runL (it : Nat → Nat × Int) : Nat → Nat → List (Nat × Int)
  | 0, _ => []
  | d + 1, k => it k :: runL it d (k + 1)
theorem partsL_run {τ : Sg} {p m : Nat} {pl f : Int} (hW : WFP τ) (hF : WFK (τ 1) (τ 2) (τ 3)) (hp : (p : Int) < τ 0 9) (hm : pcOf τ p = m) : partsL τ p pl f = runL (itm τ p pl f) m 0 := by
  obtain ⟨h0, h3, h⟩ := pc_spec hW hF hp
  have a0 := h 0 (by omega)
  have a1 := h 1 (by omega)
  have a2 := h 2 (by omega)
  have : m = 0 ∨ m = 1 ∨ m = 2 ∨ m = 3 := by omega
  unfold partsL part1
  rcases this with rfl | rfl | rfl | rfl
  · rw [if_pos (a0.mpr (by omega)), if_pos (a1.mpr (by omega)), if_pos (a2.mpr (by omega))]; rfl
  · rw [if_neg (fun q => by have := a0.mp q; omega), if_pos (a1.mpr (by omega)), if_pos (a2.mpr (by omega))]; rfl
  · rw [if_neg (fun q => by have := a0.mp q; omega), if_neg (fun q => by have := a1.mp q; omega), if_pos (a2.mpr (by omega))]; rfl
  · rw [if_neg (fun q => by have := a0.mp q; omega), if_neg (fun q => by have := a1.mp q; omega), if_neg (fun q => by have := a2.mp q; omega)]; rfl
theorem colsL_run {τ : Sg} {c m : Nat} (hM : WFM τ) (hm : τ 0 21 = m) : colsL τ c = runL (citm τ c) m 0 := by
  have h3 := hM.1
  have : m = 0 ∨ m = 1 ∨ m = 2 ∨ m = 3 := by omega
  unfold colsL col1L
  rcases this with rfl | rfl | rfl | rfl
  · rw [if_neg (by omega), if_neg (by omega), if_neg (by omega)]; rfl
  · rw [if_pos (by omega), if_neg (by omega), if_neg (by omega)]; rfl
  · rw [if_pos (by omega), if_pos (by omega), if_neg (by omega)]; rfl
  · rw [if_pos (by omega), if_pos (by omega), if_pos (by omega)]; rfl
theorem runL_mem {it : Nat → Nat × Int} : ∀ {d k j : Nat}, k ≤ j → j < k + d → it j ∈ runL it d k
  | 0, k, j, h1, h2 => by omega
  | d + 1, k, j, h1, h2 => by
    unfold runL
    by_cases e : j = k
    · rw [e]; exact List.mem_cons_self
    · exact List.mem_cons_of_mem _ (runL_mem (by omega) (by omega))
/-- a loop over parts or columns that a failure ends -/
theorem loopB' {f : Int × Sg → Option ((Int × Sg) ⊕ (Sg ⊕ (Bool × Sg)))} {F : Nat → Int → XS → Res} {it : Nat → Nat × Int} {m : Nat} {P : XS → Sg → Prop} (he : ∀ x σ, P x σ → f ((m : Int), σ) = some (.inr (.inl σ))) (hs : ∀ (k : Nat) (x : XS) (σ : Sg), k < m → P x σ → ∃ b σ', f ((k : Int), σ) = some (if b = true then .inl ((k : Int) + 1, σ') else .inr (.inr (false, σ'))) ∧ (F (it k).1 (it k).2 x).1 = .inl b ∧ P (F (it k).1 (it k).2 x).2 σ') : ∀ (d k n : Nat) (x : XS) (σ : Sg), k + d = m → d < n → P x σ → ∃ b σ', iter f n ((k : Int), σ) = some (if b = true then .inl σ' else .inr (false, σ')) ∧ (seqM F (runL it d k) x).1 = .inl b ∧ P (seqM F (runL it d k) x).2 σ'
  | 0, k, n, x, σ, hk, hn, hP => by
    obtain ⟨n, rfl⟩ : ∃ z, n = z + 1 := ⟨n - 1, by omega⟩
    refine ⟨true, σ, ?_, rfl, hP⟩
    have : k = m := by omega
    rw [this, iter_r (he x σ hP), if_pos rfl]
  | d + 1, k, n, x, σ, hk, hn, hP => by
    obtain ⟨n, rfl⟩ : ∃ z, n = z + 1 := ⟨n - 1, by omega⟩
    obtain ⟨b, σ', e1, e2, e3⟩ := hs k x σ (by omega) hP
    unfold runL seqM
    cases b with
    | false =>
      rw [if_neg (by simp)] at e1
      rw [iter_r e1, if_neg (by rw [e2]; simp)]
      exact ⟨false, σ', by rw [if_neg (by simp)], e2, e3⟩
    | true =>
      rw [if_pos rfl] at e1
      rw [iter_l e1, if_pos e2, show (k : Int) + 1 = ((k + 1 : Nat) : Int) by omega]
      exact loopB' he hs d (k + 1) n _ σ' (by omega) (by omega) e3
/-! the class's course -/
def FrC (σ0 σ : Sg) : Prop := (∀ r, r ∉ [27, 28, 29, 30, 31, 33, 36, 37, 38, 39, 40] → σ r = σ0 r) ∧ ∀ i, ¬ i = 5 → σ 33 i = σ0 33 i
def rnc (σ : Sg) : List (Int × Int × Int) → Prop
  | [] => True
  | e :: R => σ 30 R.length = 100000 * e.1 + 10 * e.2.1 + e.2.2 ∧ rnc σ R
theorem rnc_congr {s s' : Sg} (h : s' 30 = s 30) : ∀ {R : List (Int × Int × Int)}, rnc s R → rnc s' R
  | [], _ => trivial
  | e :: R, q => ⟨by rw [h]; exact q.1, rnc_congr h q.2⟩
def CR (σ0 : Sg) (x : XS) (σ : Sg) : Prop := FrC σ0 σ ∧ (∀ i : Nat, i < 6 → σ 31 i = x.1 i) ∧ σ 27 3 = x.2.1 ∧ σ 27 4 = x.2.2.length ∧ rnc σ x.2.2 ∧ GN σ 29 (lkR x.2.2)
theorem FrC.row {σ0 σ : Sg} (h : FrC σ0 σ) {r : Nat} (hr : r ≤ 26 ∨ 41 ≤ r ∨ r = 32 ∨ r = 34 ∨ r = 35) : σ r = σ0 r := h.1 r (by simp only [List.mem_cons, List.not_mem_nil, or_false, not_or]; omega)
theorem FrC.up {σ0 σ : Sg} {r i : Nat} {v : Int} (h : FrC σ0 σ) (hr : r ∈ [27, 28, 29, 30, 31, 36, 37, 38, 39, 40] ∨ (r = 33 ∧ i = 5)) : FrC σ0 (up2 σ r i v) := by
  have hr' : r = 27 ∨ r = 28 ∨ r = 29 ∨ r = 30 ∨ r = 31 ∨ r = 36 ∨ r = 37 ∨ r = 38 ∨ r = 39 ∨ r = 40 ∨ (r = 33 ∧ i = 5) := by
    simp only [List.mem_cons, List.not_mem_nil, or_false] at hr; omega
  refine ⟨fun k hk => ?_, fun k hk => ?_⟩
  · rw [← h.1 k hk]
    simp only [List.mem_cons, List.not_mem_nil, or_false, not_or] at hk
    funext j; rw [up2_row (by omega)]
  · rw [← h.2 k hk]
    unfold up2; rw [if_neg (by omega)]
theorem FrC.same {σ0 σ σ' : Sg} (h : FrC σ0 σ) (hs : ∀ r, r ∉ [27, 28, 29, 30, 31, 33, 36, 37, 38, 39, 40] → σ' r = σ r) (h3 : ∀ i, ¬ i = 5 → σ' 33 i = σ 33 i) : FrC σ0 σ' := ⟨fun r hr => by rw [hs r hr, h.1 r hr], fun i hi => by rw [h3 i hi, h.2 i hi]⟩
/-- a value as the class knows it -/
def cvv (v : Int) : Int := if v < 0 then 40 + (-1 - v) else v
def Fk (τ σ : Sg) (pl : Int) : Prop := σ 28 pl.toNat = cvv (va τ pl)
def vR (τ : Sg) (q : Int) : Prop := 1 ≤ q ∧ q ≤ 468 ∧ 0 ≤ kd τ (hdR τ) q
def Fmono (τ σ σ' : Sg) : Prop := ∀ q, vR τ q → Fk τ σ q → Fk τ σ' q
theorem Fmono.rfl' {τ σ : Sg} : Fmono τ σ σ := fun _ _ h => h
theorem Fmono.trans {τ a b c : Sg} (h : Fmono τ a b) (h' : Fmono τ b c) : Fmono τ a c := fun q v f => h' q v (h q v f)
theorem Fmono.row {τ σ σ' : Sg} (h : σ' 28 = σ 28) : Fmono τ σ σ' := fun q _ f => by unfold Fk at *; rw [h]; exact f
def BK (τ : Sg) (x : XS) (σ : Sg) : Prop := ∀ i : Nat, i < 6 → x.1 i = -1 ∨ (vR τ (x.1 i) ∧ Fk τ σ (x.1 i))
theorem BK.mono {τ : Sg} {x x' : XS} {σ σ' : Sg} (h : BK τ x σ) (hx : x'.1 = x.1) (hm : Fmono τ σ σ') : BK τ x' σ' := fun i hi => by
  rw [hx]
  rcases h i hi with z | ⟨z1, z2⟩
  · exact Or.inl z
  · exact Or.inr ⟨z1, hm _ z1 z2⟩
theorem BK.bind {τ : Sg} {x : XS} {σ σ' : Sg} {v pl : Int} (h : BK τ x σ) (hm : Fmono τ σ σ') (hv : vR τ pl) (hf : Fk τ σ' pl) : BK τ (bindX x v pl) σ' := fun i hi => by
  unfold bindX
  dsimp only
  by_cases c : i = v.toNat
  · rw [if_pos c]; exact Or.inr ⟨hv, hf⟩
  · rw [if_neg c]; exact h.mono (x' := x) rfl hm i hi
/-- what the class's head of a value is -/
theorem cvv_head {σ τ : Sg} {v : Int} (h : RV σ τ) (hv : (v < 0 → -10 ≤ v) ∧ (0 ≤ v → v < τ 0 4)) : 0 ≤ cvv v ∧ cvv v < 50 ∧ σ 7 (cvv v).toNat = (if v < 0 then -1 - v else τ 5 v.toNat) ∧ σ 8 (cvv v).toNat = (if v < 0 then -1 - v else τ 7 v.toNat) := by
  obtain ⟨r1, r2, r3, r4⟩ := h
  have h40 := r2.2.1
  unfold cvv
  by_cases c : v < 0
  · have := hv.1 c
    rw [if_pos c, if_pos c, if_pos c]
    obtain ⟨a1, a2, a3, -⟩ := r4 (-1 - v).toNat (by omega)
    rw [show (40 + (-1 - v)).toNat = 40 + (-1 - v).toNat by omega]
    exact ⟨by omega, by omega, by omega, by omega⟩
  · have := hv.2 (by omega)
    rw [if_neg c, if_neg c, if_neg c]
    obtain ⟨a1, a2, a3, -⟩ := r3 v.toNat (by omega)
    exact ⟨by omega, by omega, a2, a3⟩
theorem va_b {τ : Sg} (hF : WFK (τ 1) (τ 2) (τ 3)) (hV : WFV τ) (hM : WFM τ) (hG : GV τ) {pl : Int} (hv : vR τ pl) : (va τ pl < 0 → -10 ≤ va τ pl) ∧ (0 ≤ va τ pl → va τ pl < τ 0 4) := by
  obtain ⟨b1, b2⟩ := va_ok hF hV hM hG pl.toNat pl (Nat.le_refl _) hv.1 hv.2.2
  exact ⟨fun q => (b1 q).2, fun q => (b2 q).1⟩
theorem RV.fr {σ σ' τ : Sg} (h : RV σ τ) (hs : ∀ r, 5 ≤ r → r ≤ 9 → σ' r = σ r) : RV σ' τ := by
  unfold RV at *
  rw [hs 5 (by omega) (by omega), hs 6 (by omega) (by omega), hs 7 (by omega) (by omega), hs 8 (by omega) (by omega), hs 9 (by omega) (by omega)]
  exact h
theorem headAt_k {σ τ : Sg} {pl : Int} (hF : WFK (τ 1) (τ 2) (τ 3)) (hV : RV σ τ) (hM : WFM τ) (hG : GV τ) (hv : vR τ pl) (hf : Fk τ σ pl) : F_X1_headAt pl σ = hdR τ pl := by
  have hb := va_b hF hV.2.1 hM hG hv
  obtain ⟨c1, c2, c3, c4⟩ := cvv_head hV hb
  have h1 := hv.1
  have h2 := hv.2.1
  have hr : rdD (-1) σ 28 469 pl = cvv (va τ pl) := by rw [rdD_ok (by omega) (by omega)]; exact hf
  unfold F_X1_headAt F_X8_headOf hdR
  rw [hr, rdD_ok c1 c2, c3]
theorem measure_k {σ τ : Sg} {pl : Int} (hF : WFK (τ 1) (τ 2) (τ 3)) (hV : RV σ τ) (hM : WFM τ) (hG : GV τ) (hv : vR τ pl) (hf : Fk τ σ pl) : F_X8_measureOf (rdD (-1) σ 28 469 pl) σ = msR τ pl := by
  have hb := va_b hF hV.2.1 hM hG hv
  obtain ⟨c1, c2, c3, c4⟩ := cvv_head hV hb
  have h1 := hv.1
  have h2 := hv.2.1
  have hr : rdD (-1) σ 28 469 pl = cvv (va τ pl) := by rw [rdD_ok (by omega) (by omega)]; exact hf
  unfold F_X8_measureOf msR
  rw [hr, rdD_ok c1 c2, c4]
/-- what is in the value at a place -/
def opC (σ : Sg) (pl v : Nat) : Sg := fun r j => if r = 28 ∧ 5 * pl + 1 ≤ j ∧ j ≤ 5 * pl + 3 ∧ j ≤ 468 then σ 9 (3 * v + (j - (5 * pl + 1))) else σ r j
theorem open_k {σ : Sg} {pl v : Nat} (hp : 1 ≤ pl ∧ pl ≤ 468) (hv : σ 28 pl = v) (h50 : v < 50) : F_X1_open pl σ = some (opC σ pl v) := by
  let g : Nat → Sg := fun k => fun r j => if r = 28 ∧ 5 * pl + 1 ≤ j ∧ j < 5 * pl + 1 + k ∧ j ≤ 468 then σ 9 (3 * v + (j - (5 * pl + 1))) else σ r j
  have g9 : ∀ k i, g k 9 i = σ 9 i := fun k i => by show (if _ then _ else _) = _; rw [if_neg (by omega)]
  have e0 : g 0 = σ := by funext r j; show (if _ then _ else _) = _; rw [if_neg (by omega)]
  have e3 : g 3 = opC σ pl v := by
    funext r j
    show (if _ then _ else _) = (if _ then _ else _)
    by_cases c : r = 28 ∧ 5 * pl + 1 ≤ j ∧ j < 5 * pl + 1 + 3 ∧ j ≤ 468
    · rw [if_pos c, if_pos (by omega)]
    · rw [if_neg c, if_neg (by omega)]
  have := iter_up (f := fun q : (Int × Sg) => L_X1_open_11 pl v q.1 q.2) (fun j => g j.toNat) (lo := 0) (n := 3) (e := g 3) (fun j j0 j1 => by
    show L_X1_open_11 pl v j (g j.toNat) = _
    have hpo : F_X8_partOf (v : Int) j (g j.toNat) = σ 9 (3 * v + j.toNat) := by
      unfold F_X8_partOf
      rw [if_neg (by omega), if_pos (isIn_iff.mpr (by omega)), wrap_id (z := (v : Int) * 3) (by omega) (by omega), wrap_id (by omega) (by omega), rdD_ok (by omega) (by omega), g9, show ((v : Int) * 3 + j).toNat = 3 * v + j.toNat by omega]
    have hin : F_X10_inner (pl : Int) j = 5 * (pl : Int) + j + 1 := by
      unfold F_X10_inner
      rw [wrap_id (z := 5 * (pl : Int)) (by omega) (by omega), wrap_id (z := 5 * (pl : Int) + j) (by omega) (by omega), wrap_id (by omega) (by omega)]
    unfold L_X1_open_11
    rw [if_neg (by omega), hpo, hin, bnd_eq, wrap_id (by omega) (by omega)]
    refine congrArg (fun z : Sg => some (Sum.inl (j + 1, z))) ?_
    by_cases c : 5 * (pl : Int) + j + 1 < (469 : Nat)
    · rw [wrD_ok (by omega) c]
      funext r i
      show (if _ then _ else if _ then _ else _) = (if _ then _ else _)
      by_cases c2 : r = 28 ∧ i = (5 * (pl : Int) + j + 1).toNat
      · rw [if_pos c2, if_pos (by omega)]
        exact congrArg (σ 9) (by omega)
      · rw [if_neg c2]
        by_cases c3 : r = 28 ∧ 5 * pl + 1 ≤ i ∧ i < 5 * pl + 1 + j.toNat ∧ i ≤ 468
        · rw [if_pos c3, if_pos (by omega)]
        · rw [if_neg c3, if_neg (by omega)]
    · rw [wrD_out (by omega)]
      funext r i
      show (if _ then _ else _) = (if _ then _ else _)
      by_cases c3 : r = 28 ∧ 5 * pl + 1 ≤ i ∧ i < 5 * pl + 1 + j.toNat ∧ i ≤ 468
      · rw [if_pos c3, if_pos (by omega)]
      · rw [if_neg c3, if_neg (by omega)]) (by show L_X1_open_11 pl v 3 (g 3) = _; unfold L_X1_open_11; rw [if_pos (by omega)]) 4 0 (by omega) (by omega) (by omega)
  rw [show (0 : Int).toNat = 0 from rfl, e0] at this
  unfold F_X1_open
  rw [rdD_ok (by omega) (by omega), show ((pl : Nat) : Int).toNat = pl by omega, hv, bnd_eq, this, Option.bind_some, e3]
theorem open_cl {σ τ : Sg} {pl : Int} (hF : WFK (τ 1) (τ 2) (τ 3)) (hV : RV σ τ) (hM : WFM τ) (hG : GV τ) (hv : vR τ pl) (hf : Fk τ σ pl) : ∃ σ', F_X1_open pl σ = some σ' ∧ (∀ r, ¬ r = 28 → σ' r = σ r) ∧ Fmono τ σ σ' ∧ ∀ i : Int, 0 ≤ i → i ≤ 2 → vR τ (5 * pl + i + 1) → Fk τ σ' (5 * pl + i + 1) := by
  have hb := va_b hF hV.2.1 hM hG hv
  obtain ⟨c1, c2, -⟩ := cvv_head hV hb
  have h1 := hv.1
  have h2 := hv.2.1
  obtain ⟨r1, r2, r3, r4⟩ := id hV
  have h40 := r2.2.1
  have hop := open_k (σ := σ) (pl := pl.toNat) (v := (cvv (va τ pl)).toNat) ⟨by omega, by omega⟩ (by rw [hf]; omega) (by omega)
  rw [show ((pl.toNat : Nat) : Int) = pl by omega] at hop
  have child : ∀ i : Int, 0 ≤ i → i ≤ 2 → vR τ (5 * pl + i + 1) → Fk τ (opC σ pl.toNat (cvv (va τ pl)).toNat) (5 * pl + i + 1) := by
    intro i i0 i2 hc
    obtain ⟨-, nn1, nn2⟩ := va_nn hF hV.2.1 hM hG h1 ⟨i0, by omega⟩ hc.2.2
    have hc2 := hc.2.1
    obtain ⟨z1, z2, z3, z4, z5, z6⟩ := r3 (va τ pl).toNat (by omega)
    obtain ⟨y1, y2, y3⟩ := r2
    obtain ⟨v1, v2, v3, v4, v5, v6, v7, v8⟩ := y3 (va τ pl).toNat (by omega)
    have hcv : (cvv (va τ pl)).toNat = (va τ pl).toNat := by unfold cvv; rw [if_neg (by omega)]
    unfold Fk opC
    rw [if_pos ⟨rfl, by omega, by omega, by omega⟩, hcv, show (5 * pl + i + 1).toNat - (5 * pl.toNat + 1) = i.toNat by omega, va_in h1 ⟨i0, by omega⟩]
    -- the kind of the value
    have hk := hc.2.2
    rw [kd_in h1 ⟨i0, by omega⟩] at hk
    obtain ⟨b1, b2⟩ := va_ok hF ⟨y1, y2, y3⟩ hM hG pl.toNat pl (Nat.le_refl _) hv.1 hv.2.2
    obtain ⟨b3, b4⟩ := b2 nn1
    have hh : hdR τ pl = τ 5 (va τ pl).toNat := by unfold hdR; rw [if_neg (by omega)]
    unfold kdG at hk
    by_cases k5 : kd τ (hdR τ) pl = 5
    · rw [if_pos k5] at hk
      have hi : i < hdR τ pl := by
        split at hk
        · assumption
        · omega
      rw [if_pos (by omega), z5 (by omega) i.toNat (by omega), if_pos (by omega), show 3 * (va τ pl).toNat + i.toNat = (3 * va τ pl + i).toNat by omega]
      obtain ⟨u1, u2⟩ := v7 (by omega)
      have u3 := u2 i.toNat (by omega)
      rw [show 3 * (va τ pl).toNat + i.toNat = (3 * va τ pl + i).toNat by omega] at u3
      unfold cvv
      rw [if_pos (by omega)]
      omega
    · rw [if_neg k5] at hk
      by_cases k3 : 0 ≤ kd τ (hdR τ) pl ∧ kd τ (hdR τ) pl ≤ 3
      · rw [if_pos k3] at hk
        have hi : i < τ 2 (4 * kd τ (hdR τ) pl + hdR τ pl).toNat := by
          split at hk
          · rename_i z; exact z.2.2
          · omega
        rw [if_neg (by omega), z6 (by omega) i.toNat (by omega), show 3 * (va τ pl).toNat + i.toNat = (3 * va τ pl + i).toNat by omega]
        obtain ⟨u1, u2⟩ := v8 (by omega)
        have hidx : (4 * kd τ (hdR τ) pl + hdR τ pl).toNat = 4 * (τ 4 (va τ pl).toNat).toNat + (τ 5 (va τ pl).toNat).toNat := by omega
        have u3 := u2 i.toNat (by rw [← hidx]; omega)
        rw [show 3 * (va τ pl).toNat + i.toNat = (3 * va τ pl + i).toNat by omega] at u3
        unfold cvv
        rw [if_neg (by omega)]
      · rw [if_neg k3] at hk; omega
  refine ⟨_, hop, fun r hr => ?_, fun q hq hfq => ?_, child⟩
  · funext j; unfold opC; rw [if_neg (fun z => hr z.1)]
  · have q1 := hq.1
    by_cases c : 5 * pl + 1 ≤ q ∧ q ≤ 5 * pl + 3
    · have := child (q - 5 * pl - 1) (by omega) (by omega) (by rw [show 5 * pl + (q - 5 * pl - 1) + 1 = q by omega]; exact hq)
      rw [show 5 * pl + (q - 5 * pl - 1) + 1 = q by omega] at this
      exact this
    · unfold Fk opC at *
      rw [if_neg (by omega)]
      exact hfq
