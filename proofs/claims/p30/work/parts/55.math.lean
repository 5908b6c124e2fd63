/-! data -/
def isC (τ : Sg) (t c : Int) : Prop := (0 ≤ t ∧ t ≤ 3) ∧ 0 ≤ c ∧ c < τ 1 t.toNat
def flv (τ : Sg) (t c : Int) : Int := τ 2 (4 * t + c).toNat
def fkv (τ : Sg) (t c i : Int) : Int := τ 3 (3 * (4 * t + c) + i).toNat
theorem isC_b {τ : Sg} {t c : Int} (hK : WFK (τ 1) (τ 2) (τ 3)) (h : isC τ t c) : c ≤ 3 ∧ 0 ≤ flv τ t c ∧ flv τ t c ≤ 3 := by
  obtain ⟨h1, h2, h3⟩ := h
  have a1 := hK.1 t.toNat (by omega)
  have a2 := hK.2 t.toNat c.toNat (by omega) (by omega)
  have e : (4 * t + c).toNat = 4 * t.toNat + c.toNat := by omega
  unfold flv
  rw [e]
  exact ⟨by omega, a2.1, a2.2.1⟩
theorem has_iff {σ τ : Sg} {t c : Int} (h : RK σ τ) : F_X2_has t c σ = true ↔ isC τ t c := by
  obtain ⟨hc, hf, hk, hw1, hw2⟩ := h
  unfold F_X2_has F_X2_countOf isC
  rw [isIn_iff]
  by_cases ht : 0 ≤ t ∧ t ≤ 3
  · have := hw1 t.toNat (by omega)
    rw [rdD_ok ht.1 (by omega), hc t.toNat (by omega), wrap_id (by omega) (by omega)]
    omega
  · rw [rdD_out (by omega), wrap_id (by omega) (by omega)]
    omega
theorem fieldsOf_c {σ τ : Sg} {t c : Int} (h : RK σ τ) (hc : isC τ t c) : F_X2_fieldsOf t c σ = flv τ t c := by
  obtain ⟨b1, b2, b3⟩ := isC_b h.2.2.2 hc
  unfold F_X2_fieldsOf flv
  rw [if_pos ((has_iff h).mpr hc)]
  obtain ⟨h1, h2, h3⟩ := hc
  rw [wrap_id (z := t * 4) (by omega) (by omega), wrap_id (by omega) (by omega), rdD_ok (by omega) (by omega), h.2.1 _ (by omega), show (t * 4 + c).toNat = (4 * t + c).toNat by omega]
theorem fieldKind_c {σ τ : Sg} {t c i : Int} (h : RK σ τ) (hc : isC τ t c) (hi : 0 ≤ i ∧ i < 3) : F_X2_fieldKind t c i σ = fkv τ t c i := by
  obtain ⟨b1, b2, b3⟩ := isC_b h.2.2.2 hc
  unfold F_X2_fieldKind fkv
  rw [if_pos ((has_iff h).mpr hc), if_pos (isIn_iff.mpr (by omega))]
  obtain ⟨h1, h2, h3⟩ := hc
  unfold B_X2_fieldKind_23
  rw [if_pos rfl, wrap_id (z := t * 4) (by omega) (by omega), wrap_id (z := t * 4 + c) (by omega) (by omega), wrap_id (z := (t * 4 + c) * 3) (by omega) (by omega), wrap_id (by omega) (by omega), rdD_ok (by omega) (by omega), h.2.2.1 _ (by omega), show ((t * 4 + c) * 3 + i).toNat = (3 * (4 * t + c) + i).toNat by omega]
theorem isCon_c {τ : Sg} {t c : Int} (hK : WFK (τ 1) (τ 2) (τ 3)) : ∃ b, F_X11_isConstructor t c τ = some b ∧ (b = true ↔ isC τ t c) := by
  unfold F_X11_isConstructor isC
  by_cases ht : 0 ≤ t ∧ t ≤ 3
  · have := hK.1 t.toNat (by omega)
    rw [if_pos (in_iff.mpr ht), rdn_ok ht.1 (by omega), Option.bind_some, wrap_id (by omega) (by omega)]
    by_cases hc : 0 ≤ c ∧ c ≤ τ 1 t.toNat - 1
    · rw [if_pos (in_iff.mpr hc)]; exact ⟨true, rfl, by simp; omega⟩
    · rw [if_neg (fun q => hc (in_iff.mp q))]; exact ⟨false, rfl, by simp; omega⟩
  · rw [if_neg (fun q => ht (in_iff.mp q))]; exact ⟨false, rfl, by simp; omega⟩
def vl (τ : Sg) (x : Int) : Prop := 0 ≤ x ∧ x < τ 0 4
theorem isThere8 {σ τ : Sg} {x : Int} (h : RV σ τ) : F_X8_isThere x σ = true ↔ vl τ x := by
  obtain ⟨hn, ⟨h1, h2, -⟩, -⟩ := h
  unfold F_X8_isThere vl
  rw [isIn_iff, wrap_id (by omega) (by omega)]; omega
theorem demV_ok {σ τ : Sg} {n a b c : Int} (h : RV σ τ) (hn : 0 ≤ n ∧ n ≤ 3) (hv : ∀ i, 0 ≤ i → i < n → vl τ (F_X10_pick i a b c)) : F_X10_demandValues n a b c σ = some (.inl (), σ) := by
  unfold F_X10_demandValues
  rw [for_ok (f := fun a9 : Int => L_X10_demandValues_3 n a b c σ a9) (n := n) (e := .inl ()) (by unfold L_X10_demandValues_3; rw [if_pos (Int.le_refl _)]) 3000 0 hn.1 (by omega) (fun j h1 h2 => by
    unfold L_X10_demandValues_3
    rw [if_neg (by omega), if_pos ((isThere8 h).mpr (hv j h1 h2)), wrap_id (by omega) (by omega)])]
  rfl
theorem demV_no {σ τ : Sg} {n a b c : Int} (h : RV σ τ) (hn : 0 ≤ n ∧ n ≤ 3) (hv : ¬ ∀ i, 0 ≤ i → i < n → vl τ (F_X10_pick i a b c)) : F_X10_demandValues n a b c σ = some (.inr 0, σ) := by
  unfold F_X10_demandValues
  rw [for_no (f := fun a9 : Int => L_X10_demandValues_3 n a b c σ a9) (n := n) (r := .inr (.inr 0, σ)) (P := fun i => vl τ (F_X10_pick i a b c)) 3000 0 hn.1 (by omega) (fun j h1 h2 h3 => by
    unfold L_X10_demandValues_3
    rw [if_neg (by omega), if_pos ((isThere8 h).mpr h3), wrap_id (by omega) (by omega)]) (fun j h1 h2 h3 => by
    unfold L_X10_demandValues_3
    rw [if_neg (by omega), if_neg (fun q => h3 ((isThere8 h).mp q))]) hv]
  rfl
/-- the arguments fit the fields -/
def okv (τ : Sg) (t c i x : Int) : Prop := (i < flv τ t c → τ 4 x.toNat = fkv τ t c i) ∧ (flv τ t c ≤ i → x = -1)
theorem kindOf8 {σ τ : Sg} {x : Int} (h : RV σ τ) (hx : vl τ x) : F_X8_kindOf x σ = τ 4 x.toNat := by
  obtain ⟨hn, ⟨h1, h2, -⟩, hv, -⟩ := h
  obtain ⟨x1, x2⟩ := hx
  unfold F_X8_kindOf
  rw [rdD_ok x1 (by omega), (hv x.toNat (by omega)).1]
theorem dtC {σ τ : Sg} {t c a3 a4 a5 i : Int} (hk : RK σ τ) (h : RV σ τ) (hc : isC τ t c) (hi : 0 ≤ i ∧ i < 3) (hv : i < flv τ t c → vl τ (F_X10_pick i a3 a4 a5)) :
    (okv τ t c i (F_X10_pick i a3 a4 a5) → L_X10_data_37 t c a3 a4 a5 (flv τ t c) σ i = some (.inl (i + 1))) ∧ (¬ okv τ t c i (F_X10_pick i a3 a4 a5) → L_X10_data_37 t c a3 a4 a5 (flv τ t c) σ i = some (.inr (.inr (.inr 1, σ)))) := by
  unfold okv L_X10_data_37
  rw [if_neg (by omega), bnd_eq, fieldKind_c hk hc hi, bnd_eq]
  generalize F_X10_pick i a3 a4 a5 = x at *
  by_cases h1 : i < flv τ t c
  · rw [if_neg (by omega), kindOf8 h (hv h1)]
    by_cases h2 : τ 4 x.toNat = fkv τ t c i
    · rw [if_pos h2]; unfold B_X10_data_108; rw [if_pos rfl, wrap_id (by omega) (by omega)]
      exact ⟨fun _ => rfl, fun q => absurd ⟨fun _ => h2, fun q => by omega⟩ q⟩
    · rw [if_neg h2]; unfold B_X10_data_108; rw [if_neg (by simp)]
      exact ⟨fun q => absurd (q.1 h1) h2, fun _ => rfl⟩
  · rw [if_pos (by omega)]
    by_cases h2 : x = -1
    · rw [if_pos h2]; unfold B_X10_data_108; rw [if_pos rfl, wrap_id (by omega) (by omega)]
      exact ⟨fun _ => rfl, fun q => absurd ⟨fun q => by omega, fun q => h2⟩ q⟩
    · rw [if_neg h2]; unfold B_X10_data_108; rw [if_neg (by simp)]
      exact ⟨fun q => absurd (q.2 (by omega)) h2, fun _ => rfl⟩
theorem dtM {τ : Sg} {t c a3 a4 a5 i : Int} {y : Bool} (hK : WFK (τ 1) (τ 2) (τ 3)) (hn : 0 ≤ τ 0 4 ∧ τ 0 4 ≤ 40) (hc : isC τ t c) (hi : 0 ≤ i ∧ i < 3) : ∃ x' y', L_X11_data_30 a3 a4 a5 (4 * t + c) τ true y i = some (.inl (x', y', i + 1)) ∧ (x' = true ↔ (i < flv τ t c → vl τ (F_X10_pick i a3 a4 a5))) ∧ (x' = true → (y' = true ↔ y = true ∧ okv τ t c i (F_X10_pick i a3 a4 a5))) := by
  obtain ⟨b1, b2, b3⟩ := isC_b hK hc
  obtain ⟨h1, h2, h3⟩ := id hc
  unfold L_X11_data_30 okv vl
  rw [if_neg (by omega), if_pos rfl, bnd_eq, rdn_ok (by omega) (by omega), Option.bind_some, qick]
  generalize F_X10_pick i a3 a4 a5 = x at *
  show ∃ x' y', (if flv τ t c ≤ i then _ else _) = _ ∧ _
  by_cases g1 : i < flv τ t c
  · rw [if_neg (by omega)]
    by_cases g2 : 0 ≤ x ∧ x < τ 0 4
    · cases y with
      | false =>
        simp (disch := omega) only [bnd_eq, bind_some', wrap_id, rdn_ok, wrn_ok, wbn_ok, rdD_ok, rdD_out, wrD_ok, wrD_out, up2_at, up2_row, up2_idx, iter_s, itp, itn, isIn_iff, in_iff, ↓reduceIte, reduceCtorEq, B_X11_data_70, B_X11_data_92, B_X11_data_97, B_X11_data_149, B_X11_data_150, Bool.false_eq_true]
        exact ⟨_, _, rfl, by simp; omega, by simp⟩
      | true =>
        by_cases g3 : τ 4 x.toNat = fkv τ t c i
        · have g4 := g3; unfold fkv at g4
          simp (disch := omega) only [bnd_eq, bind_some', wrap_id, rdn_ok, wrn_ok, wbn_ok, rdD_ok, rdD_out, wrD_ok, wrD_out, up2_at, up2_row, up2_idx, iter_s, itp, itn, isIn_iff, in_iff, ↓reduceIte, reduceCtorEq, B_X11_data_70, B_X11_data_92, B_X11_data_97, B_X11_data_145, B_X11_data_149, B_X11_data_150, Bool.false_eq_true, if_pos g4]
          exact ⟨_, _, rfl, by simp; omega, by simp; exact ⟨fun _ => g3, fun q => by omega⟩⟩
        · have g4 := g3; unfold fkv at g4
          simp (disch := omega) only [bnd_eq, bind_some', wrap_id, rdn_ok, wrn_ok, wbn_ok, rdD_ok, rdD_out, wrD_ok, wrD_out, up2_at, up2_row, up2_idx, iter_s, itp, itn, isIn_iff, in_iff, ↓reduceIte, reduceCtorEq, B_X11_data_70, B_X11_data_92, B_X11_data_97, B_X11_data_145, B_X11_data_149, B_X11_data_150, Bool.false_eq_true, if_neg g4]
          exact ⟨_, _, rfl, by simp; omega, by simp; exact fun q => absurd (q g1) g3⟩
    · cases y <;> simp (disch := omega) only [bnd_eq, bind_some', wrap_id, rdn_ok, wrn_ok, wbn_ok, rdD_ok, rdD_out, wrD_ok, wrD_out, up2_at, up2_row, up2_idx, iter_s, itp, itn, isIn_iff, in_iff, ↓reduceIte, reduceCtorEq, B_X11_data_70, B_X11_data_97, B_X11_data_149, B_X11_data_150, Bool.false_eq_true] <;> exact ⟨_, _, rfl, by simp; omega, by simp⟩
  · rw [if_pos (by omega)]
    cases y with
    | false =>
      simp (disch := omega) only [bnd_eq, bind_some', wrap_id, rdn_ok, wrn_ok, wbn_ok, rdD_ok, rdD_out, wrD_ok, wrD_out, up2_at, up2_row, up2_idx, iter_s, itp, itn, isIn_iff, in_iff, ↓reduceIte, reduceCtorEq, B_X11_data_70, B_X11_data_92, B_X11_data_97, B_X11_data_149, B_X11_data_150, Bool.false_eq_true]
      exact ⟨_, _, rfl, by simp; omega, by simp⟩
    | true =>
      by_cases g3 : x = -1
      · simp (disch := omega) only [bnd_eq, bind_some', wrap_id, rdn_ok, wrn_ok, wbn_ok, rdD_ok, rdD_out, wrD_ok, wrD_out, up2_at, up2_row, up2_idx, iter_s, itp, itn, isIn_iff, in_iff, ↓reduceIte, reduceCtorEq, B_X11_data_70, B_X11_data_92, B_X11_data_97, B_X11_data_145, B_X11_data_149, B_X11_data_150, Bool.false_eq_true]
        exact ⟨_, _, rfl, by simp; omega, by simp; exact ⟨fun q => by omega, fun q => g3⟩⟩
      · simp (disch := omega) only [bnd_eq, bind_some', wrap_id, rdn_ok, wrn_ok, wbn_ok, rdD_ok, rdD_out, wrD_ok, wrD_out, up2_at, up2_row, up2_idx, iter_s, itp, itn, isIn_iff, in_iff, ↓reduceIte, reduceCtorEq, B_X11_data_70, B_X11_data_92, B_X11_data_97, B_X11_data_145, B_X11_data_149, B_X11_data_150, Bool.false_eq_true]
        exact ⟨_, _, rfl, by simp; omega, by simp; exact fun _ => ⟨by omega, g3⟩⟩
theorem dtM_f {τ : Sg} {a3 a4 a5 w i : Int} {y : Bool} : L_X11_data_30 a3 a4 a5 w τ false y i = some (.inr (false, y)) := by
  unfold L_X11_data_30
  split
  · rfl
  · rfl
/-- the sum of the measures -/
theorem dtSum {τ : Sg} {w n a3 a4 a5 x0 m0 m1 m2 : Int} (hw : 0 ≤ w ∧ w < 16) (hn : τ 2 w.toNat = n) (hn3 : 0 ≤ n ∧ n ≤ 3) (hx : 0 ≤ x0 ∧ x0 ≤ 100) (h0 : 0 < n → (0 ≤ a3 ∧ a3 < 40) ∧ τ 7 a3.toNat = m0 ∧ 0 ≤ m0 ∧ m0 < 97) (h1 : 1 < n → (0 ≤ a4 ∧ a4 < 40) ∧ τ 7 a4.toNat = m1 ∧ 0 ≤ m1 ∧ m1 < 97) (h2 : 2 < n → (0 ≤ a5 ∧ a5 < 40) ∧ τ 7 a5.toNat = m2 ∧ 0 ≤ m2 ∧ m2 < 97) :
    iter (fun a : (Int × Int) => L_X11_data_207 a3 a4 a5 w τ a.1 a.2) 3000 (x0, 0) = some (x0 + (if 0 < n then m0 else 0) + (if 1 < n then m1 * 2 else 0) + (if 2 < n then m2 * 3 else 0)) := by
  have hr : rdn 16 τ 2 w = some n := by rw [rdn_ok hw.1 hw.2, hn]
  have hend : ∀ (m : Nat) (x i : Int), n ≤ i → iter (fun a : (Int × Int) => L_X11_data_207 a3 a4 a5 w τ a.1 a.2) (m + 1) (x, i) = some x := by
    intro m x i hi
    refine iter_r (f := fun a : (Int × Int) => L_X11_data_207 a3 a4 a5 w τ a.1 a.2) ?_
    unfold L_X11_data_207
    rw [hr, Option.bind_some, if_pos hi]
  have step : ∀ (m : Nat) (x i v q : Int), i < n → 0 ≤ i → F_X11_pick a3 a4 a5 i = v → (0 ≤ v ∧ v < 40) → τ 7 v.toNat = q → (0 ≤ q ∧ q < 97) → (0 ≤ x ∧ x ≤ 10000) → iter (fun a : (Int × Int) => L_X11_data_207 a3 a4 a5 w τ a.1 a.2) (m + 1) (x, i) = iter (fun a : (Int × Int) => L_X11_data_207 a3 a4 a5 w τ a.1 a.2) m (x + (i + 1) * q, i + 1) := by
    intro m x i v q hi hi0 hv hv2 hq hq2 hx
    refine iter_l (f := fun a : (Int × Int) => L_X11_data_207 a3 a4 a5 w τ a.1 a.2) ?_
    unfold L_X11_data_207
    have : i = 0 ∨ i = 1 ∨ i = 2 := by omega
    rw [hr, Option.bind_some, if_neg (by omega), hv, rdn_ok hv2.1 hv2.2, Option.bind_some, hq, bnd_eq]
    rcases this with rfl | rfl | rfl
    · rw [wrap_id (z := 0 + 1) (by omega) (by omega), wrap_id (z := (0 + 1) * q) (by omega) (by omega), wrap_id (by omega) (by omega)]
    · rw [wrap_id (z := 1 + 1) (by omega) (by omega), wrap_id (z := (1 + 1) * q) (by omega) (by omega), wrap_id (by omega) (by omega)]
    · rw [wrap_id (z := 2 + 1) (by omega) (by omega), wrap_id (z := (2 + 1) * q) (by omega) (by omega), wrap_id (by omega) (by omega)]
  have hc : n = 0 ∨ n = 1 ∨ n = 2 ∨ n = 3 := by omega
  rcases hc with e | e | e | e
  · rw [show (3000 : Nat) = 2999 + 1 from rfl, hend 2999 _ _ (by omega)]; simp only [e]; simp
  · obtain ⟨p1, p2, p3⟩ := h0 (by omega)
    rw [show (3000 : Nat) = 2999 + 1 from rfl, step 2999 x0 0 a3 m0 (by omega) (by omega) rfl p1 p2 p3 (by omega), show (2999 : Nat) = 2998 + 1 from rfl, hend 2998 _ _ (by omega)]; simp only [e]; simp
  · obtain ⟨p1, p2, p3⟩ := h0 (by omega)
    obtain ⟨q1, q2, q3⟩ := h1 (by omega)
    rw [show (3000 : Nat) = 2999 + 1 from rfl, step 2999 x0 0 a3 m0 (by omega) (by omega) rfl p1 p2 p3 (by omega), show (2999 : Nat) = 2998 + 1 from rfl, step 2998 _ (0 + 1) a4 m1 (by omega) (by omega) rfl q1 q2 q3 (by omega), show (2998 : Nat) = 2997 + 1 from rfl, hend 2997 _ _ (by omega)]; simp only [e]; simp; omega
  · obtain ⟨p1, p2, p3⟩ := h0 (by omega)
    obtain ⟨q1, q2, q3⟩ := h1 (by omega)
    obtain ⟨r1, r2, r3⟩ := h2 (by omega)
    rw [show (3000 : Nat) = 2999 + 1 from rfl, step 2999 x0 0 a3 m0 (by omega) (by omega) rfl p1 p2 p3 (by omega), show (2999 : Nat) = 2998 + 1 from rfl, step 2998 _ (0 + 1) a4 m1 (by omega) (by omega) rfl q1 q2 q3 (by omega), show (2998 : Nat) = 2997 + 1 from rfl, step 2997 _ (0 + 1 + 1) a5 m2 (by omega) (by omega) rfl r1 r2 r3 (by omega), show (2997 : Nat) = 2996 + 1 from rfl, hend 2996 _ _ (by omega)]; simp only [e]; simp; omega
set_option maxHeartbeats 4000000 in
theorem op_data {σ τ : Sg} (a1 a2 a3 a4 a5 : Int) (hk : RK σ τ) (h : RV σ τ) : Thr [(0, 1), (1, 2), (2, 3)] (F_X10_data a1 a2 a3 a4 a5 σ) (F_X11_data a1 a2 a3 a4 a5 τ) σ τ ∨ ∃ v σ' τ', Okk (F_X10_data a1 a2 a3 a4 a5 σ) (F_X11_data a1 a2 a3 a4 a5 τ) v σ' τ' ∧ (∀ k, k ∉ [5, 6, 7, 8, 9] → σ' k = σ k) ∧ (∀ k, k ∉ [0, 4, 5, 6, 7] → τ' k = τ k) ∧ (∀ i, i ∉ [0, 4] → τ' 0 i = τ 0 i) ∧ RV σ' τ' := by
  obtain ⟨hn, ⟨hw1, hw2, hw⟩, hv, hd⟩ := id h
  have hK := hk.2.2.2
  unfold F_X10_data F_X11_data
  obtain ⟨b, hb1, hb2⟩ := isCon_c (t := a1) (c := a2) hK
  rw [hb1, Option.bind_some]
  have hthrow : ∀ w t : Int, ¬ t = 0 → B_X11_data_191 a1 a2 a3 a4 a5 w t τ = some (0, up2 τ 0 0 t) := fun w t ht => by
    unfold B_X11_data_191; rw [bnd_eq, refused_n ht]; rfl
  by_cases c1 : isC τ a1 a2
  · have hbt : b = true := hb2.mpr c1
    subst hbt
    obtain ⟨b1, b2, b3⟩ := isC_b hK c1
    obtain ⟨c1a, c1b, c1c⟩ := id c1
    rw [if_pos ((has_iff hk).mpr c1), if_pos rfl, bnd_eq, fieldsOf_c hk c1, wrap_id (z := 4 * a1) (by omega) (by omega), wrap_id (z := 4 * a1 + a2) (by omega) (by omega)]
    obtain ⟨x, y, g1, g2, g3⟩ := for_f2 (f := fun a : Bool × Bool × Int => L_X11_data_30 a3 a4 a5 (4 * a1 + a2) τ a.1 a.2.1 a.2.2) (n := 3) (P := fun i => i < flv τ a1 a2 → vl τ (F_X10_pick i a3 a4 a5)) (Q := fun i => okv τ a1 a2 i (F_X10_pick i a3 a4 a5)) (fun x y => rfl) (fun y i => by
      unfold L_X11_data_30; split <;> rfl) 4 0 true (by omega) (by omega) (fun y j j1 j2 => dtM hK ⟨hw1, hw2⟩ c1 ⟨j1, j2⟩)
    unfold B_X11_data_25
    rw [g1, Option.bind_some]
    by_cases c2 : ∀ i, 0 ≤ i → i < flv τ a1 a2 → vl τ (F_X10_pick i a3 a4 a5)
    · have hx : x = true := g2.mpr (fun j j1 j2 j3 => c2 j j1 j3)
      subst hx
      have g3 := g3 rfl
      rw [demV_ok h ⟨b2, b3⟩ c2, if_pos rfl]
      show Thr _ ((iter (fun a : Int => L_X10_data_37 a1 a2 a3 a4 a5 (flv τ a1 a2) σ a) 4 0).bind _) _ σ τ ∨ ∃ v σ' τ', Okk ((iter (fun a : Int => L_X10_data_37 a1 a2 a3 a4 a5 (flv τ a1 a2) σ a) 4 0).bind _) _ v σ' τ' ∧ _
      by_cases c3 : ∀ i, 0 ≤ i → i < 3 → okv τ a1 a2 i (F_X10_pick i a3 a4 a5)
      · have hy : y = true := g3.mpr ⟨rfl, c3⟩
        subst hy
        rw [for_ok (f := fun a : Int => L_X10_data_37 a1 a2 a3 a4 a5 (flv τ a1 a2) σ a) (n := 3) (e := .inl ()) rfl 4 0 (by omega) (by omega) (fun j j1 j2 => (dtC hk h c1 ⟨j1, j2⟩ (c2 j j1)).1 (c3 j j1 j2)), Option.bind_some, Sum.elim_inl, hasRoom8, if_pos rfl]
        by_cases c6 : τ 0 4 = 40
        · refine Or.inl ⟨2, 3, ?_, ?_, rfl, by decide, by decide⟩
          · rw [decide_eq_false (by omega)]; rfl
          · rw [if_pos c6, hthrow _ 3 (by omega)]
        · rw [decide_eq_true (by omega), if_pos rfl, if_neg c6]
          obtain ⟨o0, o1, o2⟩ := all3.mp c3
          rw [pick0] at o0; rw [pick1] at o1; rw [pick2] at o2
          have p0 : 0 < flv τ a1 a2 → vl τ a3 := fun q => c2 0 (by omega) q
          have p1 : 1 < flv τ a1 a2 → vl τ a4 := fun q => c2 1 (by omega) q
          have p2 : 2 < flv τ a1 a2 → vl τ a5 := fun q => c2 2 (by omega) q
          have ms : ∀ x, vl τ x → (0 ≤ x ∧ x < 40) ∧ σ 8 x.toNat = τ 7 x.toNat ∧ 0 ≤ τ 7 x.toNat ∧ τ 7 x.toNat < 97 := fun x hx => by
            obtain ⟨x1, x2⟩ := hx
            have e1 := hv x.toNat (by omega)
            have e2 := hw x.toNat (by omega)
            exact ⟨⟨x1, by omega⟩, e1.2.2.1, e2.2.2.1, e2.2.2.2.1⟩
          have q0 : ∀ i x k : Int, okv τ a1 a2 i x → (i < flv τ a1 a2 → vl τ x) → (x = -1 ∨ (0 ≤ x ∧ x < 50 ∧ 0 ≤ σ 8 x.toNat ∧ σ 8 x.toNat < 97)) ∧ msr σ x k = if i < flv τ a1 a2 then τ 7 x.toNat * k else 0 := fun i x k g gv => by
            by_cases hi : i < flv τ a1 a2
            · obtain ⟨y1, y2, y3, y4⟩ := ms x (gv hi)
              rw [if_pos hi]
              refine ⟨Or.inr ⟨y1.1, by omega, by omega, by omega⟩, ?_⟩
              unfold msr; rw [if_neg (by omega), y2]
            · rw [if_neg hi]
              have := g.2 (by omega)
              exact ⟨Or.inl this, by unfold msr; rw [if_pos this]⟩
          obtain ⟨q0a, q0b⟩ := q0 0 a3 1 o0 p0
          obtain ⟨q1a, q1b⟩ := q0 1 a4 2 o1 p1
          obtain ⟨q2a, q2b⟩ := q0 2 a5 3 o2 p2
          have ek := keep_c (σ := σ) (k := a1) (h := a2) (by omega) (by omega) (by omega) q0a q1a q2a
          have em : msum σ a1 a2 a3 a4 a5 = a2 * 5 + (if 0 < flv τ a1 a2 then τ 7 a3.toNat * 1 else 0) + (if 1 < flv τ a1 a2 then τ 7 a4.toNat * 2 else 0) + (if 2 < flv τ a1 a2 then τ 7 a5.toNat * 3 else 0) := by
            unfold msum; rw [if_neg (by omega), q0b, q1b, q2b]
          have es := dtSum (τ := up2 τ 0 0 0) (w := 4 * a1 + a2) (n := flv τ a1 a2) (a3 := a3) (a4 := a4) (a5 := a5) (x0 := 5 * a2) (m0 := τ 7 a3.toNat) (m1 := τ 7 a4.toNat) (m2 := τ 7 a5.toNat) (by omega) rfl ⟨b2, b3⟩ (by omega) (fun q => ⟨(ms a3 (p0 q)).1, rfl, (ms a3 (p0 q)).2.2⟩) (fun q => ⟨(ms a4 (p1 q)).1, rfl, (ms a4 (p1 q)).2.2⟩) (fun q => ⟨(ms a5 (p2 q)).1, rfl, (ms a5 (p2 q)).2.2⟩)
          have e9 : 5 * a2 + (if 0 < flv τ a1 a2 then τ 7 a3.toNat else 0) + (if 1 < flv τ a1 a2 then τ 7 a4.toNat * 2 else 0) + (if 2 < flv τ a1 a2 then τ 7 a5.toNat * 3 else 0) = msum σ a1 a2 a3 a4 a5 := by
            rw [em]; split <;> omega
          have hnn : 0 ≤ msum σ a1 a2 a3 a4 a5 := by
            rw [em]
            have k0 : 0 ≤ (if 0 < flv τ a1 a2 then τ 7 a3.toNat * 1 else 0) := by
              split
              · have := (ms a3 (p0 (by assumption))).2.2.1; omega
              · omega
            have k1 : 0 ≤ (if 1 < flv τ a1 a2 then τ 7 a4.toNat * 2 else 0) := by
              split
              · have := (ms a4 (p1 (by assumption))).2.2.1; omega
              · omega
            have k2 : 0 ≤ (if 2 < flv τ a1 a2 then τ 7 a5.toNat * 3 else 0) := by
              split
              · have := (ms a5 (p2 (by assumption))).2.2.1; omega
              · omega
            omega
          rw [e9] at es
          generalize msum σ a1 a2 a3 a4 a5 = mm at *
          have e2 : F_X11_value a1 a2 a3 a4 a5 mm (up2 τ 0 0 0) = some (τ 0 4, mV (up2 τ 0 0 0) a1 a2 a3 a4 a5 (jrem mm 97)) := by
            rw [value_c (by show 0 ≤ τ 0 4 ∧ τ 0 4 < 40; omega)]; rfl
          have h0 : RV σ (up2 τ 0 0 0) := h
          have hm : 0 ≤ jrem mm 97 ∧ jrem mm 97 < 97 := by rw [jrem97 hnn]; omega
          have ew : (4 * a1 + a2).toNat = 4 * a1.toNat + a2.toNat := by omega
          have kd : ∀ (i x : Int) (j : Nat), i = j → okv τ a1 a2 i x → (i < flv τ a1 a2 → vl τ x) → ((j : Int) < τ 2 (4 * a1.toNat + a2.toNat) → 0 ≤ x ∧ x < τ 0 4 ∧ τ 4 x.toNat = τ 3 (3 * (4 * a1.toNat + a2.toNat) + j)) := by
            intro i x j hij g gv hj
            have hlt : i < flv τ a1 a2 := by unfold flv; rw [ew]; omega
            have := g.1 hlt
            unfold fkv at this
            rw [show (3 * (4 * a1 + a2) + i).toNat = 3 * (4 * a1.toNat + a2.toNat) + j by omega] at this
            exact ⟨(gv hlt).1, (gv hlt).2, this⟩
          refine Or.inr ⟨τ 0 4, _, _, ⟨?_, ?_, ?_⟩, cV_row (k := a1) (h := a2) (p0 := a3) (p1 := a4) (p2 := a5) (m := jrem mm 97), ?_, ?_, h0.push (p0 := a3) (p1 := a4) (p2 := a5) (h := a2) hK (by show τ 0 4 < 40; omega) (by omega) hm (by omega) (fun h => by omega) (fun h => by omega) (fun _ => ⟨c1c, rfl, rfl, rfl, kd 0 a3 0 rfl o0 p0, kd 1 a4 1 rfl o1 p1, kd 2 a5 2 rfl o2 p2, ?_⟩)⟩
          · rw [ek, hn]; rfl
          · unfold B_X11_data_191
            rw [bnd_eq, refused_0, if_neg (by simp), bnd_eq, wrap_id (by omega) (by omega)]
            show ((iter (fun a : (Int × Int) => L_X11_data_207 a3 a4 a5 (4 * a1 + a2) (up2 τ 0 0 0) a.1 a.2) 3000 (5 * a2, 0)).bind _) = _
            rw [es, Option.bind_some, e2]; rfl
          · exact mV_0 0 (by omega)
          · intro k hk; rw [mV_row k hk]; funext i
            simp only [List.mem_cons, List.not_mem_nil, or_false, not_or] at hk
            simp (disch := omega) only [bnd_eq, bind_some', wrap_id, rdn_ok, wrn_ok, wbn_ok, rdD_ok, rdD_out, wrD_ok, wrD_out, up2_at, up2_row, up2_idx, iter_s, itp, itn, isIn_iff, in_iff, ↓reduceIte, reduceCtorEq]
          · intro i hi
            simp only [List.mem_cons, List.not_mem_nil, or_false, not_or] at hi
            rw [mV_0 i (by omega)]; simp (disch := omega) only [bnd_eq, bind_some', wrap_id, rdn_ok, wrn_ok, wbn_ok, rdD_ok, rdD_out, wrD_ok, wrD_out, up2_at, up2_row, up2_idx, iter_s, itp, itn, isIn_iff, in_iff, ↓reduceIte, reduceCtorEq]
          · show τ 2 _ ≤ 3
            rw [← ew]; exact b3
      · have hy : ¬ y = true := fun q => c3 (g3.mp q).2
        refine Or.inl ⟨1, 2, ?_, ?_, rfl, by decide, by decide⟩
        · rw [for_no (f := fun a : Int => L_X10_data_37 a1 a2 a3 a4 a5 (flv τ a1 a2) σ a) (n := 3) (r := .inr (.inr 1, σ)) (P := fun i => okv τ a1 a2 i (F_X10_pick i a3 a4 a5)) 4 0 (by omega) (by omega) (fun j j1 j2 j3 => (dtC hk h c1 ⟨j1, j2⟩ (c2 j j1)).1 j3) (fun j j1 j2 j3 => (dtC hk h c1 ⟨j1, j2⟩ (c2 j j1)).2 j3) c3]; rfl
        · rw [if_neg hy, hthrow _ 2 (by omega)]
    · have hx : ¬ x = true := fun q => c2 (fun j j1 j2 => g2.mp q j j1 (by omega) j2)
      refine Or.inl ⟨0, 1, ?_, ?_, rfl, by decide, by decide⟩
      · rw [demV_no h ⟨b2, b3⟩ c2]; rfl
      · rw [if_neg hx, hthrow _ 1 (by omega)]
  · have hbf : ¬ b = true := fun q => c1 (hb2.mp q)
    have hbf2 : b = false := by cases b <;> simp at hbf ⊢
    refine Or.inl ⟨0, 1, ?_, ?_, rfl, by decide, by decide⟩
    · rw [if_neg (fun q => c1 ((has_iff hk).mp q))]
    · rw [if_neg hbf, hbf2]
      unfold B_X11_data_25
      rw [iter_r (by exact dtM_f), Option.bind_some, if_neg (by simp), hthrow _ 1 (by omega)]
