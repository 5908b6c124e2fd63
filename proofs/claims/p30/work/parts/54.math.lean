/-! num, seq -/
theorem op_num {σ τ : Sg} (a : Int) (h : RV σ τ) (hK : WFK (τ 1) (τ 2) (τ 3)) (ha : inR a) : Thr [(1, 1), (2, 2)] (F_X10_num a σ) (F_X11_num a τ) σ τ ∨ ∃ v σ' τ', Okk (F_X10_num a σ) (F_X11_num a τ) v σ' τ' ∧ (∀ k, k ∉ [5, 6, 7, 8, 9] → σ' k = σ k) ∧ (∀ k, k ∉ [0, 4, 5, 6, 7] → τ' k = τ k) ∧ (∀ i, i ∉ [0, 4] → τ' 0 i = τ 0 i) ∧ RV σ' τ' := by
  obtain ⟨hn, ⟨hw1, hw2, hw⟩, hv, hd⟩ := id h
  unfold F_X10_num F_X11_num
  by_cases c1 : 0 ≤ a ∧ a ≤ 9
  · rw [if_pos (isDigit_iff.mpr c1), if_pos (in_iff.mpr c1), hasRoom8]
    by_cases c2 : τ 0 4 = 40
    · refine Or.inl ⟨2, 2, ?_, ?_, rfl, by decide, by decide⟩
      · rw [decide_eq_false (by omega)]; rfl
      · unfold B_X11_num_29; simp (disch := omega) only [bnd_eq, bind_some', wrap_id, rdn_ok, wrn_ok, wbn_ok, rdD_ok, rdD_out, wrD_ok, wrD_out, up2_at, up2_row, up2_idx, iter_s, itp, itn, isIn_iff, in_iff, ↓reduceIte, reduceCtorEq, refused_n]
    · have e1 : F_X8_keep 4 a (-1) (-1) (-1) σ = some (τ 0 4, cV σ 4 a (-1) (-1) (-1) a) := by rw [keep_num (by omega), hn]
      have e2 : F_X11_value 4 a 0 0 0 a (up2 τ 0 0 0) = some (τ 0 4, mV (up2 τ 0 0 0) 4 a 0 0 0 a) := by
        rw [value_c (by show 0 ≤ τ 0 4 ∧ τ 0 4 < 40; omega), jrem97 c1.1, Int.emod_eq_of_lt c1.1 (by omega)]; rfl
      have h0 : RV σ (up2 τ 0 0 0) := h
      refine Or.inr ⟨τ 0 4, cV σ 4 a (-1) (-1) (-1) a, mV (up2 τ 0 0 0) 4 a 0 0 0 a, ⟨?_, ?_, ?_⟩, cV_row, ?_, ?_, ?_⟩
      · rw [decide_eq_true (by omega), if_pos rfl, e1]; rfl
      · unfold B_X11_num_29
        rw [if_neg c2, bnd_eq, refused_0, if_neg (by simp), e2]; rfl
      · exact mV_0 0 (by omega)
      · intro k hk; rw [mV_row k hk]; funext i
        simp only [List.mem_cons, List.not_mem_nil, or_false, not_or] at hk
        simp (disch := omega) only [bnd_eq, bind_some', wrap_id, rdn_ok, wrn_ok, wbn_ok, rdD_ok, rdD_out, wrD_ok, wrD_out, up2_at, up2_row, up2_idx, iter_s, itp, itn, isIn_iff, in_iff, ↓reduceIte, reduceCtorEq]
      · intro i hi
        simp only [List.mem_cons, List.not_mem_nil, or_false, not_or] at hi
        rw [mV_0 i (by omega)]; simp (disch := omega) only [bnd_eq, bind_some', wrap_id, rdn_ok, wrn_ok, wbn_ok, rdD_ok, rdD_out, wrD_ok, wrD_out, up2_at, up2_row, up2_idx, iter_s, itp, itn, isIn_iff, in_iff, ↓reduceIte, reduceCtorEq]
      · exact h0.push hK (by show τ 0 4 < 40; omega) (by omega) (by omega) (by omega) (fun _ => ⟨c1.2, rfl, rfl, rfl, rfl⟩) (fun h => by omega) (fun h => by omega)
  · refine Or.inl ⟨1, 1, ?_, ?_, rfl, by decide, by decide⟩
    · rw [if_neg (fun q => c1 (isDigit_iff.mp q))]
    · rw [if_neg (fun q => c1 (in_iff.mp q))]; unfold B_X11_num_29; simp (disch := omega) only [bnd_eq, bind_some', wrap_id, rdn_ok, wrn_ok, wbn_ok, rdD_ok, rdD_out, wrD_ok, wrD_out, up2_at, up2_row, up2_idx, iter_s, itp, itn, isIn_iff, in_iff, ↓reduceIte, reduceCtorEq, refused_n]
def okd (n i x : Int) : Prop := (i < n ∧ 0 ≤ x ∧ x ≤ 9) ∨ (n ≤ i ∧ x = 0)
theorem sqC_s {a1 a2 a3 a4 i : Int} {σ : Sg} (hi : 0 ≤ i ∧ i < 3) (h : okd a1 i (F_X10_pick i a2 a3 a4)) : L_X10_seq_12 a1 a2 a3 a4 σ i = some (.inl (i + 1)) := by
  unfold okd at h
  unfold L_X10_seq_12
  rcases h with ⟨h1, h2⟩ | ⟨h1, h2⟩
  · simp (disch := omega) only [bnd_eq, bind_some', wrap_id, rdn_ok, wrn_ok, wbn_ok, rdD_ok, rdD_out, wrD_ok, wrD_out, up2_at, up2_row, up2_idx, iter_s, itp, itn, isIn_iff, in_iff, ↓reduceIte, reduceCtorEq, B_X10_seq_53, isDigit_iff]
  · simp (disch := omega) only [bnd_eq, bind_some', wrap_id, rdn_ok, wrn_ok, wbn_ok, rdD_ok, rdD_out, wrD_ok, wrD_out, up2_at, up2_row, up2_idx, iter_s, itp, itn, isIn_iff, in_iff, ↓reduceIte, reduceCtorEq, B_X10_seq_53, isDigit_iff]
theorem sqC_f {a1 a2 a3 a4 i : Int} {σ : Sg} (hi : 0 ≤ i ∧ i < 3) (h : ¬ okd a1 i (F_X10_pick i a2 a3 a4)) : L_X10_seq_12 a1 a2 a3 a4 σ i = some (.inr (.inr (.inr 1, σ))) := by
  unfold okd at h
  unfold L_X10_seq_12
  by_cases h1 : i < a1
  · have h2 : ¬ F_X10_isDigit (F_X10_pick i a2 a3 a4) = true := fun q => h (Or.inl ⟨h1, isDigit_iff.mp q⟩)
    simp (disch := omega) only [bnd_eq, bind_some', wrap_id, rdn_ok, wrn_ok, wbn_ok, rdD_ok, rdD_out, wrD_ok, wrD_out, up2_at, up2_row, up2_idx, iter_s, itp, itn, isIn_iff, in_iff, ↓reduceIte, reduceCtorEq, B_X10_seq_53, if_neg h2]
  · simp (disch := omega) only [bnd_eq, bind_some', wrap_id, rdn_ok, wrn_ok, wbn_ok, rdD_ok, rdD_out, wrD_ok, wrD_out, up2_at, up2_row, up2_idx, iter_s, itp, itn, isIn_iff, in_iff, ↓reduceIte, reduceCtorEq, B_X10_seq_53]
theorem sqM_s {a1 a2 a3 a4 i : Int} {σ : Sg} {x : Bool} (hi : 0 ≤ i ∧ i < 3) : ∃ y, L_X11_seq_11 a1 a2 a3 a4 σ x i = some (.inl (y, i + 1)) ∧ (y = true ↔ x = true ∧ okd a1 i (F_X10_pick i a2 a3 a4)) := by
  unfold okd L_X11_seq_11
  cases x with
  | false => simp (disch := omega) only [bnd_eq, bind_some', wrap_id, rdn_ok, wrn_ok, wbn_ok, rdD_ok, rdD_out, wrD_ok, wrD_out, up2_at, up2_row, up2_idx, iter_s, itp, itn, isIn_iff, in_iff, ↓reduceIte, reduceCtorEq, B_X11_seq_54, B_X11_seq_55]; exact ⟨_, rfl, by simp⟩
  | true =>
    by_cases h1 : i < a1
    · by_cases h2 : 0 ≤ F_X10_pick i a2 a3 a4 ∧ F_X10_pick i a2 a3 a4 ≤ 9
      · simp (disch := omega) only [bnd_eq, bind_some', wrap_id, rdn_ok, wrn_ok, wbn_ok, rdD_ok, rdD_out, wrD_ok, wrD_out, up2_at, up2_row, up2_idx, iter_s, itp, itn, isIn_iff, in_iff, ↓reduceIte, reduceCtorEq, B_X11_seq_44, B_X11_seq_54, B_X11_seq_55, qick, b2i, Bool.false_eq_true]; exact ⟨_, rfl, by simp; omega⟩
      · simp (disch := omega) only [bnd_eq, bind_some', wrap_id, rdn_ok, wrn_ok, wbn_ok, rdD_ok, rdD_out, wrD_ok, wrD_out, up2_at, up2_row, up2_idx, iter_s, itp, itn, isIn_iff, in_iff, ↓reduceIte, reduceCtorEq, B_X11_seq_44, B_X11_seq_54, B_X11_seq_55, qick, b2i, Bool.false_eq_true]; exact ⟨_, rfl, by simp; omega⟩
    · by_cases h2 : F_X10_pick i a2 a3 a4 = 0
      · simp (disch := omega) only [bnd_eq, bind_some', wrap_id, rdn_ok, wrn_ok, wbn_ok, rdD_ok, rdD_out, wrD_ok, wrD_out, up2_at, up2_row, up2_idx, iter_s, itp, itn, isIn_iff, in_iff, ↓reduceIte, reduceCtorEq, B_X11_seq_44, B_X11_seq_54, B_X11_seq_55, qick, b2i, Bool.false_eq_true]; exact ⟨_, rfl, by simp; omega⟩
      · simp (disch := omega) only [bnd_eq, bind_some', wrap_id, rdn_ok, wrn_ok, wbn_ok, rdD_ok, rdD_out, wrD_ok, wrD_out, up2_at, up2_row, up2_idx, iter_s, itp, itn, isIn_iff, in_iff, ↓reduceIte, reduceCtorEq, B_X11_seq_44, B_X11_seq_54, B_X11_seq_55, qick, b2i, Bool.false_eq_true]; exact ⟨_, rfl, by simp; omega⟩
theorem op_seq {σ τ : Sg} (a1 a2 a3 a4 : Int) (h : RV σ τ) (hK : WFK (τ 1) (τ 2) (τ 3)) : Thr [(1, 1), (2, 2)] (F_X10_seq a1 a2 a3 a4 σ) (F_X11_seq a1 a2 a3 a4 τ) σ τ ∨ ∃ v σ' τ', Okk (F_X10_seq a1 a2 a3 a4 σ) (F_X11_seq a1 a2 a3 a4 τ) v σ' τ' ∧ (∀ k, k ∉ [5, 6, 7, 8, 9] → σ' k = σ k) ∧ (∀ k, k ∉ [0, 4, 5, 6, 7] → τ' k = τ k) ∧ (∀ i, i ∉ [0, 4] → τ' 0 i = τ 0 i) ∧ RV σ' τ' := by
  obtain ⟨hn, ⟨hw1, hw2, hw⟩, hv, hd⟩ := id h
  unfold F_X10_seq F_X11_seq
  obtain ⟨b, hb1, hb2⟩ := for_fl (f := fun a : Bool × Int => L_X11_seq_11 a1 a2 a3 a4 τ a.1 a.2) (n := 3) (P := fun i => okd a1 i (F_X10_pick i a2 a3 a4)) (fun x => rfl) 4 0 (F_X11_in a1 0 3) (by omega) (by omega) (fun x j g1 g2 => sqM_s ⟨g1, g2⟩)
  rw [in_iff] at hb2
  have hC1 := for_ok (f := fun a : Int => L_X10_seq_12 a1 a2 a3 a4 σ a) (n := 3) rfl 4 0 (by omega) (by omega)
  have hC2 := for_no (f := fun a : Int => L_X10_seq_12 a1 a2 a3 a4 σ a) (n := 3) (r := .inr (.inr 1, σ)) (P := fun i => okd a1 i (F_X10_pick i a2 a3 a4)) 4 0 (by omega) (by omega) (fun j g1 g2 g3 => sqC_s ⟨g1, g2⟩ g3) (fun j g1 g2 g3 => sqC_f ⟨g1, g2⟩ g3)
  rw [bnd_eq, hb1]
  have hthrow : ∀ t : Int, ¬ t = 0 → B_X11_seq_87 a1 a2 a3 a4 t τ = some (0, up2 τ 0 0 t) := fun t ht => by
    unfold B_X11_seq_87; rw [bnd_eq, refused_n ht]; rfl
  by_cases c2 : 0 ≤ a1 ∧ a1 ≤ 3
  · by_cases c3 : ∀ i : Int, 0 ≤ i → i < 3 → okd a1 i (F_X10_pick i a2 a3 a4)
    · have hbt : b = true := hb2.mpr ⟨c2, c3⟩
      subst hbt
      rw [hC1 (fun j g1 g2 => sqC_s ⟨g1, g2⟩ (c3 j g1 g2)), if_pos (isIn_iff.mpr c2), Option.bind_some, Sum.elim_inl, hasRoom8, Option.bind_some, if_pos rfl]
      by_cases c6 : τ 0 4 = 40
      · refine Or.inl ⟨2, 2, ?_, ?_, rfl, by decide, by decide⟩
        · rw [decide_eq_false (by omega)]; rfl
        · rw [if_pos c6, hthrow 2 (by omega)]
      · rw [decide_eq_true (by omega), if_pos rfl, if_neg c6]
        obtain ⟨d0, d1, d2⟩ := all3.mp c3
        rw [pick0] at d0; rw [pick1] at d1; rw [pick2] at d2
        unfold okd at d0 d1 d2
        have dg : ∀ x : Int, 0 ≤ x → x ≤ 9 → σ 8 (40 + x).toNat = x := fun x g1 g2 => by
          have := (hd x.toNat (by omega)).2.2.1
          rw [show (40 + x).toNat = 40 + x.toNat by omega, this]; omega
        have q0 : ∀ i x : Int, ((i < a1 ∧ 0 ≤ x ∧ x ≤ 9) ∨ (a1 ≤ i ∧ x = 0)) → ((if i < a1 then 40 + x else -1) = -1 ∨ (0 ≤ (if i < a1 then 40 + x else -1) ∧ (if i < a1 then 40 + x else -1) < 50 ∧ 0 ≤ σ 8 (if i < a1 then 40 + x else -1).toNat ∧ σ 8 (if i < a1 then 40 + x else -1).toNat < 97)) ∧ msr σ (if i < a1 then 40 + x else -1) 1 = x := fun i x g => by
          by_cases hi : i < a1
          · rw [if_pos hi]
            have := dg x (by omega) (by omega)
            refine ⟨Or.inr ⟨by omega, by omega, by omega, by omega⟩, ?_⟩
            unfold msr; rw [if_neg (by omega), this]; omega
          · rw [if_neg hi]; exact ⟨Or.inl rfl, by unfold msr; rw [if_pos rfl]; omega⟩
        obtain ⟨q0a, q0b⟩ := q0 0 a2 d0
        obtain ⟨q1a, q1b⟩ := q0 1 a3 d1
        obtain ⟨q2a, q2b⟩ := q0 2 a4 d2
        have ek := keep_c (σ := σ) (k := 5) (h := a1) (by omega) (by omega) (by omega) q0a q1a q2a
        have em : msum σ 5 a1 (if 0 < a1 then 40 + a2 else -1) (if 1 < a1 then 40 + a3 else -1) (if 2 < a1 then 40 + a4 else -1) = 3 * a1 + a2 + a3 + a4 := by unfold msum; rw [if_pos rfl, q0b, q1b, q2b]; omega
        rw [em, hn] at ek
        have e2 : F_X11_value 5 a1 a2 a3 a4 (3 * a1 + a2 + a3 + a4) (up2 τ 0 0 0) = some (τ 0 4, mV (up2 τ 0 0 0) 5 a1 a2 a3 a4 (jrem (3 * a1 + a2 + a3 + a4) 97)) := by
          rw [value_c (by show 0 ≤ τ 0 4 ∧ τ 0 4 < 40; omega)]; rfl
        have h0 : RV σ (up2 τ 0 0 0) := h
        have hm : 0 ≤ jrem (3 * a1 + a2 + a3 + a4) 97 ∧ jrem (3 * a1 + a2 + a3 + a4) 97 < 97 := by rw [jrem97 (by omega)]; omega
        refine Or.inr ⟨τ 0 4, _, _, ⟨?_, ?_, ?_⟩, cV_row (k := 5) (h := a1) (p0 := if 0 < a1 then 40 + a2 else -1) (p1 := if 1 < a1 then 40 + a3 else -1) (p2 := if 2 < a1 then 40 + a4 else -1) (m := jrem (3 * a1 + a2 + a3 + a4) 97), ?_, ?_, h0.push (p0 := a2) (p1 := a3) (p2 := a4) (h := a1) hK (by show τ 0 4 < 40; omega) (by omega) hm (by omega) (fun h => by omega) (fun _ => ⟨c2.2, by omega, by omega, by omega, rfl, rfl, rfl⟩) (fun h => by omega)⟩
        · have hx : a1 = 0 ∨ a1 = 1 ∨ a1 = 2 ∨ a1 = 3 := by omega
          have g0 : F_X8_digit true a2 = 40 + a2 ∧ F_X8_digit true a3 = 40 + a3 ∧ F_X8_digit true a4 = 40 + a4 := by
            unfold F_X8_digit
            simp (disch := omega) only [bnd_eq, bind_some', wrap_id, rdn_ok, wrn_ok, wbn_ok, rdD_ok, rdD_out, wrD_ok, wrD_out, up2_at, up2_row, up2_idx, iter_s, itp, itn, isIn_iff, in_iff, ↓reduceIte, reduceCtorEq]
            exact ⟨trivial, trivial, trivial⟩
          have g1 : ∀ x, F_X8_digit false x = -1 := fun x => rfl
          rcases hx with rfl | rfl | rfl | rfl <;> (unfold B_X10_seq_87 B_X10_seq_101 B_X10_seq_115; simp (disch := omega) only [itp, itn, g0, g1] at ek ⊢; rw [ek]; rfl)
        · unfold B_X11_seq_87
          rw [bnd_eq, refused_0, if_neg (by simp), wrap_id (z := 3 * a1) (by omega) (by omega), wrap_id (z := 3 * a1 + a2) (by omega) (by omega), wrap_id (z := 3 * a1 + a2 + a3) (by omega) (by omega), wrap_id (z := 3 * a1 + a2 + a3 + a4) (by omega) (by omega), e2]; rfl
        · exact mV_0 0 (by omega)
        · intro k hk; rw [mV_row k hk]; funext i
          simp only [List.mem_cons, List.not_mem_nil, or_false, not_or] at hk
          simp (disch := omega) only [bnd_eq, bind_some', wrap_id, rdn_ok, wrn_ok, wbn_ok, rdD_ok, rdD_out, wrD_ok, wrD_out, up2_at, up2_row, up2_idx, iter_s, itp, itn, isIn_iff, in_iff, ↓reduceIte, reduceCtorEq]
        · intro i hi
          simp only [List.mem_cons, List.not_mem_nil, or_false, not_or] at hi
          rw [mV_0 i (by omega)]; simp (disch := omega) only [bnd_eq, bind_some', wrap_id, rdn_ok, wrn_ok, wbn_ok, rdD_ok, rdD_out, wrD_ok, wrD_out, up2_at, up2_row, up2_idx, iter_s, itp, itn, isIn_iff, in_iff, ↓reduceIte, reduceCtorEq]
    · have hbf : ¬ b = true := fun q => c3 (hb2.mp q).2
      refine Or.inl ⟨1, 1, ?_, ?_, rfl, by decide, by decide⟩
      · rw [hC2 c3, if_pos (isIn_iff.mpr c2)]; rfl
      · rw [Option.bind_some, if_neg hbf, hthrow 1 (by omega)]
  · have hbf : ¬ b = true := fun q => c2 (hb2.mp q).1
    refine Or.inl ⟨1, 1, ?_, ?_, rfl, by decide, by decide⟩
    · rw [if_neg (fun q => c2 (isIn_iff.mp q))]
    · rw [Option.bind_some, if_neg hbf, hthrow 1 (by omega)]
