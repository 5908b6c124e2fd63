/-! the operations again: what they do to the counts -/
theorem op_num2 {σ τ : Sg} (a : Int) (h : RV σ τ) (hK : WFK (τ 1) (τ 2) (τ 3)) (ha : inR a) : Thr [(1, 1), (2, 2)] (F_X10_num a σ) (F_X11_num a τ) σ τ ∨ ∃ v σ' τ', Okk (F_X10_num a σ) (F_X11_num a τ) v σ' τ' ∧ (∀ k, k ∉ [5, 6, 7, 8, 9] → σ' k = σ k) ∧ (∀ k, k ∉ [0, 4, 5, 6, 7] → τ' k = τ k) ∧ (∀ i, i ∉ [0, 4] → τ' 0 i = τ 0 i) ∧ RV σ' τ' ∧ v = τ 0 4 ∧ τ' 0 4 = τ 0 4 + 1 := by
  obtain ⟨hn, ⟨hw1, hw2, hw⟩, hv, hd⟩ := id h
  unfold F_X10_num F_X11_num
  by_cases c1 : 0 ≤ a ∧ a ≤ 9
  · rw [if_pos (isDigit_iff.mpr c1), if_pos (in_iff.mpr c1), hasRoom8]
    by_cases c2 : τ 0 4 = 40
    · refine Or.inl ⟨2, 2, ?_, ?_, rfl, by decide, by decide⟩
      · rw [decide_eq_false (by omega)]; rfl
      · unfold B_X11_num_29; simp (disch := omega) only [bnd_eq, bind_some', wrap_id, rdn_ok, wrn_ok, wbn_ok, rdD_ok, rdD_out, wrD_ok, wrD_out, up2_at, up2_row, up2_idx, iter_s, itp, itn, isIn_iff, in_iff, ↓reduceIte, reduceCtorEq, refused_n]
    · have e1 : F_X8_keep 4 a (-1) (-1) (-1) σ = some (τ 0 4, cV σ 4 a (-1) (-1) (-1) a) := by rw [keep_num (by omega), hn]
      have e2 : F_X11_value 4 a 0 0 0 a (up2 τ 0 0 0) = some (τ 0 4, mV (up2 τ 0 0 0) 4 a 0 0 0 a) := by
        rw [value_c (by show 0 ≤ τ 0 4 ∧ τ 0 4 < 40; omega), jrem97 c1.1, Int.emod_eq_of_lt c1.1 (by omega)]; rfl
      have h0 : RV σ (up2 τ 0 0 0) := h
      refine Or.inr ⟨τ 0 4, cV σ 4 a (-1) (-1) (-1) a, mV (up2 τ 0 0 0) 4 a 0 0 0 a, ⟨?_, ?_, ?_⟩, cV_row, ?_, ?_, ?_, rfl, ?_⟩
      · rw [decide_eq_true (by omega), if_pos rfl, e1]; rfl
      · unfold B_X11_num_29
        rw [if_neg c2, bnd_eq, refused_0, if_neg (by simp), e2]; rfl
      · exact mV_0 0 (by omega)
      · intro k hk; rw [mV_row k hk]; funext i
        simp only [List.mem_cons, List.not_mem_nil, or_false, not_or] at hk
        simp (disch := omega) only [bnd_eq, bind_some', wrap_id, rdn_ok, wrn_ok, wbn_ok, rdD_ok, rdD_out, wrD_ok, wrD_out, up2_at, up2_row, up2_idx, iter_s, itp, itn, isIn_iff, in_iff, ↓reduceIte, reduceCtorEq]
      · intro i hi
        simp only [List.mem_cons, List.not_mem_nil, or_false, not_or] at hi
        rw [mV_0 i (by omega)]; simp (disch := omega) only [bnd_eq, bind_some', wrap_id, rdn_ok, wrn_ok, wbn_ok, rdD_ok, rdD_out, wrD_ok, wrD_out, up2_at, up2_row, up2_idx, iter_s, itp, itn, isIn_iff, in_iff, ↓reduceIte, reduceCtorEq]
      · exact h0.push hK (by show τ 0 4 < 40; omega) (by omega) (by omega) (by omega) (fun _ => ⟨c1.2, rfl, rfl, rfl, rfl⟩) (fun h => by omega) (fun h => by omega)
      · unfold mV; simp (disch := omega) only [up2_at, up2_row, up2_idx]
  · refine Or.inl ⟨1, 1, ?_, ?_, rfl, by decide, by decide⟩
    · rw [if_neg (fun q => c1 (isDigit_iff.mp q))]
    · rw [if_neg (fun q => c1 (in_iff.mp q))]; unfold B_X11_num_29; simp (disch := omega) only [bnd_eq, bind_some', wrap_id, rdn_ok, wrn_ok, wbn_ok, rdD_ok, rdD_out, wrD_ok, wrD_out, up2_at, up2_row, up2_idx, iter_s, itp, itn, isIn_iff, in_iff, ↓reduceIte, reduceCtorEq, refused_n]
theorem op_seq2 {σ τ : Sg} (a1 a2 a3 a4 : Int) (h : RV σ τ) (hK : WFK (τ 1) (τ 2) (τ 3)) : Thr [(1, 1), (2, 2)] (F_X10_seq a1 a2 a3 a4 σ) (F_X11_seq a1 a2 a3 a4 τ) σ τ ∨ ∃ v σ' τ', Okk (F_X10_seq a1 a2 a3 a4 σ) (F_X11_seq a1 a2 a3 a4 τ) v σ' τ' ∧ (∀ k, k ∉ [5, 6, 7, 8, 9] → σ' k = σ k) ∧ (∀ k, k ∉ [0, 4, 5, 6, 7] → τ' k = τ k) ∧ (∀ i, i ∉ [0, 4] → τ' 0 i = τ 0 i) ∧ RV σ' τ' ∧ v = τ 0 4 ∧ τ' 0 4 = τ 0 4 + 1 := by
  obtain ⟨hn, ⟨hw1, hw2, hw⟩, hv, hd⟩ := id h
  unfold F_X10_seq F_X11_seq
  obtain ⟨b, hb1, hb2⟩ := for_fl (f := fun a : Bool × Int => L_X11_seq_11 a1 a2 a3 a4 τ a.1 a.2) (n := 3) (P := fun i => okd a1 i (F_X10_pick i a2 a3 a4)) (fun x => rfl) 4 0 (F_X11_in a1 0 3) (by omega) (by omega) (fun x j g1 g2 => sqM_s ⟨g1, g2⟩)
  rw [in_iff] at hb2
  have hC1 := for_ok (f := fun a : Int => L_X10_seq_12 a1 a2 a3 a4 σ a) (n := 3) rfl 4 0 (by omega) (by omega)
  have hC2 := for_no (f := fun a : Int => L_X10_seq_12 a1 a2 a3 a4 σ a) (n := 3) (r := .inr (.inr 1, σ)) (P := fun i => okd a1 i (F_X10_pick i a2 a3 a4)) 4 0 (by omega) (by omega) (fun j g1 g2 g3 => sqC_s ⟨g1, g2⟩ g3) (fun j g1 g2 g3 => sqC_f ⟨g1, g2⟩ g3)
  rw [bnd_eq, hb1]
  have hthrow : ∀ t : Int, ¬ t = 0 → B_X11_seq_87 a1 a2 a3 a4 t τ = some (0, up2 τ 0 0 t) := fun t ht => by
    unfold B_X11_seq_87; rw [bnd_eq, refused_n ht]; rfl
  by_cases c2 : 0 ≤ a1 ∧ a1 ≤ 3
  · by_cases c3 : ∀ i : Int, 0 ≤ i → i < 3 → okd a1 i (F_X10_pick i a2 a3 a4)
    · have hbt : b = true := hb2.mpr ⟨c2, c3⟩
      subst hbt
      rw [hC1 (fun j g1 g2 => sqC_s ⟨g1, g2⟩ (c3 j g1 g2)), if_pos (isIn_iff.mpr c2), Option.bind_some, Sum.elim_inl, hasRoom8, Option.bind_some, if_pos rfl]
      by_cases c6 : τ 0 4 = 40
      · refine Or.inl ⟨2, 2, ?_, ?_, rfl, by decide, by decide⟩
        · rw [decide_eq_false (by omega)]; rfl
        · rw [if_pos c6, hthrow 2 (by omega)]
      · rw [decide_eq_true (by omega), if_pos rfl, if_neg c6]
        obtain ⟨d0, d1, d2⟩ := all3.mp c3
        rw [pick0] at d0; rw [pick1] at d1; rw [pick2] at d2
        unfold okd at d0 d1 d2
        have dg : ∀ x : Int, 0 ≤ x → x ≤ 9 → σ 8 (40 + x).toNat = x := fun x g1 g2 => by
          have := (hd x.toNat (by omega)).2.2.1
          rw [show (40 + x).toNat = 40 + x.toNat by omega, this]; omega
        have q0 : ∀ i x : Int, ((i < a1 ∧ 0 ≤ x ∧ x ≤ 9) ∨ (a1 ≤ i ∧ x = 0)) → ((if i < a1 then 40 + x else -1) = -1 ∨ (0 ≤ (if i < a1 then 40 + x else -1) ∧ (if i < a1 then 40 + x else -1) < 50 ∧ 0 ≤ σ 8 (if i < a1 then 40 + x else -1).toNat ∧ σ 8 (if i < a1 then 40 + x else -1).toNat < 97)) ∧ msr σ (if i < a1 then 40 + x else -1) 1 = x := fun i x g => by
          by_cases hi : i < a1
          · rw [if_pos hi]
            have := dg x (by omega) (by omega)
            refine ⟨Or.inr ⟨by omega, by omega, by omega, by omega⟩, ?_⟩
            unfold msr; rw [if_neg (by omega), this]; omega
          · rw [if_neg hi]; exact ⟨Or.inl rfl, by unfold msr; rw [if_pos rfl]; omega⟩
        obtain ⟨q0a, q0b⟩ := q0 0 a2 d0
        obtain ⟨q1a, q1b⟩ := q0 1 a3 d1
        obtain ⟨q2a, q2b⟩ := q0 2 a4 d2
        have ek := keep_c (σ := σ) (k := 5) (h := a1) (by omega) (by omega) (by omega) q0a q1a q2a
        have em : msum σ 5 a1 (if 0 < a1 then 40 + a2 else -1) (if 1 < a1 then 40 + a3 else -1) (if 2 < a1 then 40 + a4 else -1) = 3 * a1 + a2 + a3 + a4 := by unfold msum; rw [if_pos rfl, q0b, q1b, q2b]; omega
        rw [em, hn] at ek
        have e2 : F_X11_value 5 a1 a2 a3 a4 (3 * a1 + a2 + a3 + a4) (up2 τ 0 0 0) = some (τ 0 4, mV (up2 τ 0 0 0) 5 a1 a2 a3 a4 (jrem (3 * a1 + a2 + a3 + a4) 97)) := by
          rw [value_c (by show 0 ≤ τ 0 4 ∧ τ 0 4 < 40; omega)]; rfl
        have h0 : RV σ (up2 τ 0 0 0) := h
        have hm : 0 ≤ jrem (3 * a1 + a2 + a3 + a4) 97 ∧ jrem (3 * a1 + a2 + a3 + a4) 97 < 97 := by rw [jrem97 (by omega)]; omega
        refine Or.inr ⟨τ 0 4, _, _, ⟨?_, ?_, ?_⟩, cV_row (k := 5) (h := a1) (p0 := if 0 < a1 then 40 + a2 else -1) (p1 := if 1 < a1 then 40 + a3 else -1) (p2 := if 2 < a1 then 40 + a4 else -1) (m := jrem (3 * a1 + a2 + a3 + a4) 97), ?_, ?_, h0.push (p0 := a2) (p1 := a3) (p2 := a4) (h := a1) hK (by show τ 0 4 < 40; omega) (by omega) hm (by omega) (fun h => by omega) (fun _ => ⟨c2.2, by omega, by omega, by omega, rfl, rfl, rfl⟩) (fun h => by omega), rfl, ?_⟩
        · have hx : a1 = 0 ∨ a1 = 1 ∨ a1 = 2 ∨ a1 = 3 := by omega
          have g0 : F_X8_digit true a2 = 40 + a2 ∧ F_X8_digit true a3 = 40 + a3 ∧ F_X8_digit true a4 = 40 + a4 := by
            unfold F_X8_digit
            simp (disch := omega) only [bnd_eq, bind_some', wrap_id, rdn_ok, wrn_ok, wbn_ok, rdD_ok, rdD_out, wrD_ok, wrD_out, up2_at, up2_row, up2_idx, iter_s, itp, itn, isIn_iff, in_iff, ↓reduceIte, reduceCtorEq]
            exact ⟨trivial, trivial, trivial⟩
          have g1 : ∀ x, F_X8_digit false x = -1 := fun x => rfl
          rcases hx with rfl | rfl | rfl | rfl <;> (unfold B_X10_seq_87 B_X10_seq_101 B_X10_seq_115; simp (disch := omega) only [itp, itn, g0, g1] at ek ⊢; rw [ek]; rfl)
        · unfold B_X11_seq_87
          rw [bnd_eq, refused_0, if_neg (by simp), wrap_id (z := 3 * a1) (by omega) (by omega), wrap_id (z := 3 * a1 + a2) (by omega) (by omega), wrap_id (z := 3 * a1 + a2 + a3) (by omega) (by omega), wrap_id (z := 3 * a1 + a2 + a3 + a4) (by omega) (by omega), e2]; rfl
        · exact mV_0 0 (by omega)
        · intro k hk; rw [mV_row k hk]; funext i
          simp only [List.mem_cons, List.not_mem_nil, or_false, not_or] at hk
          simp (disch := omega) only [bnd_eq, bind_some', wrap_id, rdn_ok, wrn_ok, wbn_ok, rdD_ok, rdD_out, wrD_ok, wrD_out, up2_at, up2_row, up2_idx, iter_s, itp, itn, isIn_iff, in_iff, ↓reduceIte, reduceCtorEq]
        · intro i hi
          simp only [List.mem_cons, List.not_mem_nil, or_false, not_or] at hi
          rw [mV_0 i (by omega)]; simp (disch := omega) only [bnd_eq, bind_some', wrap_id, rdn_ok, wrn_ok, wbn_ok, rdD_ok, rdD_out, wrD_ok, wrD_out, up2_at, up2_row, up2_idx, iter_s, itp, itn, isIn_iff, in_iff, ↓reduceIte, reduceCtorEq]
        · unfold mV; simp (disch := omega) only [up2_at, up2_row, up2_idx]
    · have hbf : ¬ b = true := fun q => c3 (hb2.mp q).2
      refine Or.inl ⟨1, 1, ?_, ?_, rfl, by decide, by decide⟩
      · rw [hC2 c3, if_pos (isIn_iff.mpr c2)]; rfl
      · rw [Option.bind_some, if_neg hbf, hthrow 1 (by omega)]
  · have hbf : ¬ b = true := fun q => c2 (hb2.mp q).1
    refine Or.inl ⟨1, 1, ?_, ?_, rfl, by decide, by decide⟩
    · rw [if_neg (fun q => c2 (isIn_iff.mp q))]
    · rw [Option.bind_some, if_neg hbf, hthrow 1 (by omega)]

set_option maxHeartbeats 4000000 in
theorem op_data2 {σ τ : Sg} (a1 a2 a3 a4 a5 : Int) (hk : RK σ τ) (h : RV σ τ) : Thr [(0, 1), (1, 2), (2, 3)] (F_X10_data a1 a2 a3 a4 a5 σ) (F_X11_data a1 a2 a3 a4 a5 τ) σ τ ∨ ∃ v σ' τ', Okk (F_X10_data a1 a2 a3 a4 a5 σ) (F_X11_data a1 a2 a3 a4 a5 τ) v σ' τ' ∧ (∀ k, k ∉ [5, 6, 7, 8, 9] → σ' k = σ k) ∧ (∀ k, k ∉ [0, 4, 5, 6, 7] → τ' k = τ k) ∧ (∀ i, i ∉ [0, 4] → τ' 0 i = τ 0 i) ∧ RV σ' τ' ∧ v = τ 0 4 ∧ τ' 0 4 = τ 0 4 + 1 := by
  obtain ⟨hn, ⟨hw1, hw2, hw⟩, hv, hd⟩ := id h
  have hK := hk.2.2.2
  unfold F_X10_data F_X11_data
  obtain ⟨b, hb1, hb2⟩ := isCon_c (t := a1) (c := a2) hK
  rw [hb1, Option.bind_some]
  have hthrow : ∀ w t : Int, ¬ t = 0 → B_X11_data_191 a1 a2 a3 a4 a5 w t τ = some (0, up2 τ 0 0 t) := fun w t ht => by
    unfold B_X11_data_191; rw [bnd_eq, refused_n ht]; rfl
  by_cases c1 : isC τ a1 a2
  · have hbt : b = true := hb2.mpr c1
    subst hbt
    obtain ⟨b1, b2, b3⟩ := isC_b hK c1
    obtain ⟨c1a, c1b, c1c⟩ := id c1
    rw [if_pos ((has_iff hk).mpr c1), if_pos rfl, bnd_eq, fieldsOf_c hk c1, wrap_id (z := 4 * a1) (by omega) (by omega), wrap_id (z := 4 * a1 + a2) (by omega) (by omega)]
    obtain ⟨x, y, g1, g2, g3⟩ := for_f2 (f := fun a : Bool × Bool × Int => L_X11_data_30 a3 a4 a5 (4 * a1 + a2) τ a.1 a.2.1 a.2.2) (n := 3) (P := fun i => i < flv τ a1 a2 → vl τ (F_X10_pick i a3 a4 a5)) (Q := fun i => okv τ a1 a2 i (F_X10_pick i a3 a4 a5)) (fun x y => rfl) (fun y i => by
      unfold L_X11_data_30; split <;> rfl) 4 0 true (by omega) (by omega) (fun y j j1 j2 => dtM hK ⟨hw1, hw2⟩ c1 ⟨j1, j2⟩)
    unfold B_X11_data_25
    rw [g1, Option.bind_some]
    by_cases c2 : ∀ i, 0 ≤ i → i < flv τ a1 a2 → vl τ (F_X10_pick i a3 a4 a5)
    · have hx : x = true := g2.mpr (fun j j1 j2 j3 => c2 j j1 j3)
      subst hx
      have g3 := g3 rfl
      rw [demV_ok h ⟨b2, b3⟩ c2, if_pos rfl]
      show Thr _ ((iter (fun a : Int => L_X10_data_37 a1 a2 a3 a4 a5 (flv τ a1 a2) σ a) 4 0).bind _) _ σ τ ∨ ∃ v σ' τ', Okk ((iter (fun a : Int => L_X10_data_37 a1 a2 a3 a4 a5 (flv τ a1 a2) σ a) 4 0).bind _) _ v σ' τ' ∧ _
      by_cases c3 : ∀ i, 0 ≤ i → i < 3 → okv τ a1 a2 i (F_X10_pick i a3 a4 a5)
      · have hy : y = true := g3.mpr ⟨rfl, c3⟩
        subst hy
        rw [for_ok (f := fun a : Int => L_X10_data_37 a1 a2 a3 a4 a5 (flv τ a1 a2) σ a) (n := 3) (e := .inl ()) rfl 4 0 (by omega) (by omega) (fun j j1 j2 => (dtC hk h c1 ⟨j1, j2⟩ (c2 j j1)).1 (c3 j j1 j2)), Option.bind_some, Sum.elim_inl, hasRoom8, if_pos rfl]
        by_cases c6 : τ 0 4 = 40
        · refine Or.inl ⟨2, 3, ?_, ?_, rfl, by decide, by decide⟩
          · rw [decide_eq_false (by omega)]; rfl
          · rw [if_pos c6, hthrow _ 3 (by omega)]
        · rw [decide_eq_true (by omega), if_pos rfl, if_neg c6]
          obtain ⟨o0, o1, o2⟩ := all3.mp c3
          rw [pick0] at o0; rw [pick1] at o1; rw [pick2] at o2
          have p0 : 0 < flv τ a1 a2 → vl τ a3 := fun q => c2 0 (by omega) q
          have p1 : 1 < flv τ a1 a2 → vl τ a4 := fun q => c2 1 (by omega) q
          have p2 : 2 < flv τ a1 a2 → vl τ a5 := fun q => c2 2 (by omega) q
          have ms : ∀ x, vl τ x → (0 ≤ x ∧ x < 40) ∧ σ 8 x.toNat = τ 7 x.toNat ∧ 0 ≤ τ 7 x.toNat ∧ τ 7 x.toNat < 97 := fun x hx => by
            obtain ⟨x1, x2⟩ := hx
            have e1 := hv x.toNat (by omega)
            have e2 := hw x.toNat (by omega)
            exact ⟨⟨x1, by omega⟩, e1.2.2.1, e2.2.2.1, e2.2.2.2.1⟩
          have q0 : ∀ i x k : Int, okv τ a1 a2 i x → (i < flv τ a1 a2 → vl τ x) → (x = -1 ∨ (0 ≤ x ∧ x < 50 ∧ 0 ≤ σ 8 x.toNat ∧ σ 8 x.toNat < 97)) ∧ msr σ x k = if i < flv τ a1 a2 then τ 7 x.toNat * k else 0 := fun i x k g gv => by
            by_cases hi : i < flv τ a1 a2
            · obtain ⟨y1, y2, y3, y4⟩ := ms x (gv hi)
              rw [if_pos hi]
              refine ⟨Or.inr ⟨y1.1, by omega, by omega, by omega⟩, ?_⟩
              unfold msr; rw [if_neg (by omega), y2]
            · rw [if_neg hi]
              have := g.2 (by omega)
              exact ⟨Or.inl this, by unfold msr; rw [if_pos this]⟩
          obtain ⟨q0a, q0b⟩ := q0 0 a3 1 o0 p0
          obtain ⟨q1a, q1b⟩ := q0 1 a4 2 o1 p1
          obtain ⟨q2a, q2b⟩ := q0 2 a5 3 o2 p2
          have ek := keep_c (σ := σ) (k := a1) (h := a2) (by omega) (by omega) (by omega) q0a q1a q2a
          have em : msum σ a1 a2 a3 a4 a5 = a2 * 5 + (if 0 < flv τ a1 a2 then τ 7 a3.toNat * 1 else 0) + (if 1 < flv τ a1 a2 then τ 7 a4.toNat * 2 else 0) + (if 2 < flv τ a1 a2 then τ 7 a5.toNat * 3 else 0) := by
            unfold msum; rw [if_neg (by omega), q0b, q1b, q2b]
          have es := dtSum (τ := up2 τ 0 0 0) (w := 4 * a1 + a2) (n := flv τ a1 a2) (a3 := a3) (a4 := a4) (a5 := a5) (x0 := 5 * a2) (m0 := τ 7 a3.toNat) (m1 := τ 7 a4.toNat) (m2 := τ 7 a5.toNat) (by omega) rfl ⟨b2, b3⟩ (by omega) (fun q => ⟨(ms a3 (p0 q)).1, rfl, (ms a3 (p0 q)).2.2⟩) (fun q => ⟨(ms a4 (p1 q)).1, rfl, (ms a4 (p1 q)).2.2⟩) (fun q => ⟨(ms a5 (p2 q)).1, rfl, (ms a5 (p2 q)).2.2⟩)
          have e9 : 5 * a2 + (if 0 < flv τ a1 a2 then τ 7 a3.toNat else 0) + (if 1 < flv τ a1 a2 then τ 7 a4.toNat * 2 else 0) + (if 2 < flv τ a1 a2 then τ 7 a5.toNat * 3 else 0) = msum σ a1 a2 a3 a4 a5 := by
            rw [em]; split <;> omega
          have hnn : 0 ≤ msum σ a1 a2 a3 a4 a5 := by
            rw [em]
            have k0 : 0 ≤ (if 0 < flv τ a1 a2 then τ 7 a3.toNat * 1 else 0) := by
              split
              · have := (ms a3 (p0 (by assumption))).2.2.1; omega
              · omega
            have k1 : 0 ≤ (if 1 < flv τ a1 a2 then τ 7 a4.toNat * 2 else 0) := by
              split
              · have := (ms a4 (p1 (by assumption))).2.2.1; omega
              · omega
            have k2 : 0 ≤ (if 2 < flv τ a1 a2 then τ 7 a5.toNat * 3 else 0) := by
              split
              · have := (ms a5 (p2 (by assumption))).2.2.1; omega
              · omega
            omega
          rw [e9] at es
          generalize msum σ a1 a2 a3 a4 a5 = mm at *
          have e2 : F_X11_value a1 a2 a3 a4 a5 mm (up2 τ 0 0 0) = some (τ 0 4, mV (up2 τ 0 0 0) a1 a2 a3 a4 a5 (jrem mm 97)) := by
            rw [value_c (by show 0 ≤ τ 0 4 ∧ τ 0 4 < 40; omega)]; rfl
          have h0 : RV σ (up2 τ 0 0 0) := h
          have hm : 0 ≤ jrem mm 97 ∧ jrem mm 97 < 97 := by rw [jrem97 hnn]; omega
          have ew : (4 * a1 + a2).toNat = 4 * a1.toNat + a2.toNat := by omega
          have kd : ∀ (i x : Int) (j : Nat), i = j → okv τ a1 a2 i x → (i < flv τ a1 a2 → vl τ x) → ((j : Int) < τ 2 (4 * a1.toNat + a2.toNat) → 0 ≤ x ∧ x < τ 0 4 ∧ τ 4 x.toNat = τ 3 (3 * (4 * a1.toNat + a2.toNat) + j)) := by
            intro i x j hij g gv hj
            have hlt : i < flv τ a1 a2 := by unfold flv; rw [ew]; omega
            have := g.1 hlt
            unfold fkv at this
            rw [show (3 * (4 * a1 + a2) + i).toNat = 3 * (4 * a1.toNat + a2.toNat) + j by omega] at this
            exact ⟨(gv hlt).1, (gv hlt).2, this⟩
          refine Or.inr ⟨τ 0 4, _, _, ⟨?_, ?_, ?_⟩, cV_row (k := a1) (h := a2) (p0 := a3) (p1 := a4) (p2 := a5) (m := jrem mm 97), ?_, ?_, h0.push (p0 := a3) (p1 := a4) (p2 := a5) (h := a2) hK (by show τ 0 4 < 40; omega) (by omega) hm (by omega) (fun h => by omega) (fun h => by omega) (fun _ => ⟨c1c, rfl, rfl, rfl, kd 0 a3 0 rfl o0 p0, kd 1 a4 1 rfl o1 p1, kd 2 a5 2 rfl o2 p2, ?_⟩), rfl, ?_⟩
          · rw [ek, hn]; rfl
          · unfold B_X11_data_191
            rw [bnd_eq, refused_0, if_neg (by simp), bnd_eq, wrap_id (by omega) (by omega)]
            show ((iter (fun a : (Int × Int) => L_X11_data_207 a3 a4 a5 (4 * a1 + a2) (up2 τ 0 0 0) a.1 a.2) 3000 (5 * a2, 0)).bind _) = _
            rw [es, Option.bind_some, e2]; rfl
          · exact mV_0 0 (by omega)
          · intro k hk; rw [mV_row k hk]; funext i
            simp only [List.mem_cons, List.not_mem_nil, or_false, not_or] at hk
            simp (disch := omega) only [bnd_eq, bind_some', wrap_id, rdn_ok, wrn_ok, wbn_ok, rdD_ok, rdD_out, wrD_ok, wrD_out, up2_at, up2_row, up2_idx, iter_s, itp, itn, isIn_iff, in_iff, ↓reduceIte, reduceCtorEq]
          · intro i hi
            simp only [List.mem_cons, List.not_mem_nil, or_false, not_or] at hi
            rw [mV_0 i (by omega)]; simp (disch := omega) only [bnd_eq, bind_some', wrap_id, rdn_ok, wrn_ok, wbn_ok, rdD_ok, rdD_out, wrD_ok, wrD_out, up2_at, up2_row, up2_idx, iter_s, itp, itn, isIn_iff, in_iff, ↓reduceIte, reduceCtorEq]
          · show τ 2 _ ≤ 3
            rw [← ew]; exact b3
          · unfold mV; simp (disch := omega) only [up2_at, up2_row, up2_idx]
      · have hy : ¬ y = true := fun q => c3 (g3.mp q).2
        refine Or.inl ⟨1, 2, ?_, ?_, rfl, by decide, by decide⟩
        · rw [for_no (f := fun a : Int => L_X10_data_37 a1 a2 a3 a4 a5 (flv τ a1 a2) σ a) (n := 3) (r := .inr (.inr 1, σ)) (P := fun i => okv τ a1 a2 i (F_X10_pick i a3 a4 a5)) 4 0 (by omega) (by omega) (fun j j1 j2 j3 => (dtC hk h c1 ⟨j1, j2⟩ (c2 j j1)).1 j3) (fun j j1 j2 j3 => (dtC hk h c1 ⟨j1, j2⟩ (c2 j j1)).2 j3) c3]; rfl
        · rw [if_neg hy, hthrow _ 2 (by omega)]
    · have hx : ¬ x = true := fun q => c2 (fun j j1 j2 => g2.mp q j j1 (by omega) j2)
      refine Or.inl ⟨0, 1, ?_, ?_, rfl, by decide, by decide⟩
      · rw [demV_no h ⟨b2, b3⟩ c2]; rfl
      · rw [if_neg hx, hthrow _ 1 (by omega)]
  · have hbf : ¬ b = true := fun q => c1 (hb2.mp q)
    have hbf2 : b = false := by cases b <;> simp at hbf ⊢
    refine Or.inl ⟨0, 1, ?_, ?_, rfl, by decide, by decide⟩
    · rw [if_neg (fun q => c1 ((has_iff hk).mp q))]
    · rw [if_neg hbf, hbf2]
      unfold B_X11_data_25
      rw [iter_r (by exact dtM_f), Option.bind_some, if_neg (by simp), hthrow _ 1 (by omega)]

/-- what a new pattern leaves as it was -/
def FrP2 (σ τ σ' τ' : Sg) : Prop := (∀ r, r < 10 ∨ 21 < r → σ' r = σ r) ∧ (∀ r, r ∉ [0, 8, 9, 10, 11, 12, 13, 14, 15, 16, 17] → τ' r = τ r) ∧ (∀ i, ¬ i = 0 → ¬ i = 9 → τ' 0 i = τ 0 i) ∧ ExtP τ τ' ∧ RP σ' τ' ∧ τ' 0 9 = τ 0 9 + 1
set_option maxHeartbeats 4000000 in
theorem push_all2 {σ τ : Sg} {n : Nat} {so lo hi fm hd rs p0 p1 p2 kd : Int} (hr : RP σ τ) (hN : τ 0 9 = n) (hn : n < 60) (hF : WFK (τ 1) (τ 2) (τ 3)) (h : NewP τ n fm hd rs p0 p1 p2 kd)
    (hso : so = if fm = 6 ∧ rs = 2 then 7 else fm) (hlo : lo = if fm = 3 then jrem hd 4 else hd) (hhi : hi = if fm = 2 then rs else if fm = 3 then jrem hd 4 else if fm = 6 then (if rs = 0 then hd else 3) else hd) :
    ∃ σ' τ', F_X10_keepPattern so kd lo hi p0 p1 p2 σ = some (.inl (n : Int), σ') ∧ F_X11_pattern fm hd rs p0 p1 p2 kd (up2 τ 0 0 0) = some ((n : Int), τ') ∧ τ' 0 0 = 0 ∧ FrP2 σ τ σ' τ' := by
  have hz := hr.z (t := 0) hF
  obtain ⟨r1, ⟨w1, w2, w3⟩, r3, r4⟩ := id hr
  obtain ⟨c0, o0, o1, o2, c1, c2, f0, f1, f2, f3, f4, f5, f6⟩ := id h
  have hnC : σ 10 0 = n := by omega
  have rp : ∀ p, okp n p → ¬ p = -1 → RP1 σ τ p.toNat ∧ WFP1 τ p.toNat := fun p hp h0 => ⟨r3 p.toNat (by rcases hp with h | h <;> omega), w3 p.toNat (by rcases hp with h | h <;> omega)⟩
  have szb : ∀ q : Nat, (q : Int) < τ 0 9 → 1 ≤ τ 14 q ∧ τ 14 q ≤ 40 := by
    intro q
    induction q using Nat.strongRecOn with
    | _ q ih =>
      intro hq
      have w := w3 q hq
      have sb : ∀ k : Nat, k < 3 → 0 ≤ szo τ (prt τ q k) := fun k hk => by
        unfold szo
        have := w.2.1 k hk
        split
        · omega
        · have := ih (prt τ q k).toNat (by omega) (by omega); omega
      have a0 := sb 0 (by omega)
      have a1 := sb 1 (by omega)
      have a2 := sb 2 (by omega)
      have := w.2.2.1
      have := w.2.2.2.1
      omega
  have dpb : ∀ q : Nat, (q : Int) < τ 0 9 → 0 ≤ τ 13 q ∧ τ 13 q ≤ 4 := by
    intro q
    induction q using Nat.strongRecOn with
    | _ q ih =>
      intro hq
      have w := w3 q hq
      have sb : ∀ k : Nat, k < 3 → 0 ≤ dpo τ (prt τ q k) := fun k hk => by
        unfold dpo
        have := w.2.1 k hk
        split
        · omega
        · have := ih (prt τ q k).toNat (by omega) (by omega); omega
      have a0 := sb 0 (by omega)
      have h13 := w.2.2.2.2.1
      have h14 := w.2.2.2.2.2.1
      unfold max3 at h13
      split at h13 <;> omega
  have sC : ∀ p, okp (σ 10 0) p → 0 ≤ szC σ p ∧ szC σ p ≤ 40 := fun p hp => by
    rw [hnC] at hp
    unfold szC
    split
    · omega
    · rw [(rp p hp (by assumption)).1.2.2.2.2.2.2.2.1]
      have := szb p.toNat (by rcases hp with h | h <;> omega); omega
  have dC : ∀ p, okp (σ 10 0) p → 0 ≤ dpC σ p ∧ dpC σ p ≤ 4 := fun p hp => by
    rw [hnC] at hp
    unfold dpC
    split
    · omega
    · rw [(rp p hp (by assumption)).1.2.2.2.2.2.2.1]
      exact dpb p.toNat (by rcases hp with h | h <;> omega)
  obtain ⟨vf, v1, v2, ek⟩ := keepP (σ := σ) (so := so) (kd := kd) (lo := lo) (hi := hi) (p0 := p0) (p1 := p1) (p2 := p2) (by omega) (by rw [hnC]; exact r4 n (by omega) (by omega)) (by rw [hnC]; exact o0) (by rw [hnC]; exact o1) (by rw [hnC]; exact o2) sC dC
    (fun q => by
      have : fm = 4 := by rw [hso] at q; split at q <;> omega
      exact ⟨(f4 this).1, (f4 this).2.1⟩) (fun q => by
      have g2 : fm = 2 := by rw [hso] at q; split at q <;> omega
      have := (f2 g2).1
      rw [hhi, if_pos g2]; omega)
  obtain ⟨τ', em, hM⟩ := patM (τ := up2 τ 0 0 0) (n := n) (fm := fm) (hd := hd) (rs := rs) (p0 := p0) (p1 := p1) (p2 := p2) (kd := kd) (by rw [up2_idx (by omega)]; exact hN) hn o0 o1 o2 (fun p hp => by
      show 0 ≤ szo τ p ∧ szo τ p ≤ 40
      unfold szo
      split
      · omega
      · have := szb p.toNat (by rcases hp with h | h <;> omega); omega) (fun j hj => dpb j (by omega)) (fun r hr j hj => by
      have w := w3 j (by omega)
      simp only [List.mem_cons, List.not_mem_nil, or_false] at hr
      rcases hr with rfl | rfl
      · exact w.2.2.2.2.2.2.2.2.1
      · exact w.2.2.2.2.2.2.2.2.2.1) (fun q => (f1 q).1)
  have hrp := NewP.rp (τ := up2 τ 0 0 0) hz (by rw [up2_idx (by omega)]; exact hN) hn hF hM h hso hlo hhi v1 v2
  rw [hnC] at ek
  refine ⟨_, τ', ?_, em, ?_, ?_, ?_, ?_, ?_, hrp, ?_⟩
  · unfold F_X10_keepPattern
    rw [hasRoom5, decide_eq_true (by omega), if_pos rfl, ek]; rfl
  · rw [hM.2.1 0 (by omega)]; rfl
  · intro r hr
    unfold cPb cPa
    funext i
    simp (disch := omega) only [bnd_eq, bind_some', wrap_id, rdn_ok, wrn_ok, wbn_ok, rdD_ok, rdD_out, wrD_ok, wrD_out, up2_at, up2_row, up2_idx, iter_s, itp, itn, isIn_iff, in_iff, ↓reduceIte, reduceCtorEq]
  · intro r hr
    rw [hM.1 r hr]
    simp only [List.mem_cons, List.not_mem_nil, or_false, not_or] at hr
    funext i; simp (disch := omega) only [bnd_eq, bind_some', wrap_id, rdn_ok, wrn_ok, wbn_ok, rdD_ok, rdD_out, wrD_ok, wrD_out, up2_at, up2_row, up2_idx, iter_s, itp, itn, isIn_iff, in_iff, ↓reduceIte, reduceCtorEq]
  · intro i h0 h9
    rw [hM.2.1 i h9]; simp (disch := omega) only [bnd_eq, bind_some', wrap_id, rdn_ok, wrn_ok, wbn_ok, rdD_ok, rdD_out, wrD_ok, wrD_out, up2_at, up2_row, up2_idx, iter_s, itp, itn, isIn_iff, in_iff, ↓reduceIte, reduceCtorEq]
  · have hX := KM.ext (τ := up2 τ 0 0 0) (by rw [up2_idx (by omega)]; exact hN) hM
    refine ⟨hX.1, fun p hp => ⟨fun r hr => ?_, fun k hk => ?_⟩⟩
    · rw [(hX.2 p hp).1 r hr, up2_row (by simp only [List.mem_cons, List.not_mem_nil, or_false] at hr; omega)]
    · rw [(hX.2 p hp).2 k hk, up2_row (by omega)]
  · rw [hN]; exact hM.2.2.1
def OpP2 (es : List (Nat × Int)) (f : Option ((Int ⊕ Nat) × Sg)) (g : Option (Int × Sg)) (σ τ : Sg) : Prop := Thr es f g σ τ ∨ ∃ v σ' τ', Okk f g v σ' τ' ∧ FrP2 σ τ σ' τ' ∧ v = τ 0 9
theorem op_any2 {σ τ : Sg} (h : RP σ τ) (hF : WFK (τ 1) (τ 2) (τ 3)) : OpP2 [(2, 1)] (F_X10_any σ) (F_X11_any τ) σ τ := by
  obtain ⟨r1, ⟨w1, w2, w3⟩, r3, r4⟩ := id h
  unfold F_X10_any F_X11_any
  by_cases c : τ 0 9 = 60
  · rw [if_pos (isFull_iff.mpr c), full_c h c]
    refine Or.inl ⟨2, 1, rfl, ?_, rfl, by decide, by decide⟩
    unfold B_X11_any_13; rw [bnd_eq, show b2i true = 1 from rfl, refused_n (by omega)]; rfl
  · obtain ⟨n, hN⟩ : ∃ n : Nat, τ 0 9 = n := ⟨(τ 0 9).toNat, by omega⟩
    obtain ⟨σ', τ', e1, e2, e3, e4⟩ := push_all2 (so := 0) (lo := 0) (hi := 0) (fm := 0) (hd := 0) (rs := 0) (p0 := -1) (p1 := -1) (p2 := -1) (kd := -1) h hN (by omega) hF
      ⟨by omega, Or.inl rfl, Or.inl rfl, Or.inl rfl, (by show (1 : Int) + 0 + 0 + 0 ≤ 40; decide), (by show (max3 0 0 0 + 1 : Int) ≤ 4; decide), fun _ => ⟨rfl, rfl, rfl, rfl, rfl, rfl⟩, fun h => by omega, fun h => by omega, fun h => by omega, fun h => by omega, fun h => by omega, fun h => by omega⟩ (by decide) (by decide) (by decide)
    rw [if_neg (fun q => c (isFull_iff.mp q)), e1]
    refine Or.inr ⟨n, σ', τ', ⟨rfl, ?_, e3⟩, e4, by omega⟩
    unfold B_X11_any_13; rw [bnd_eq, show b2i false = 0 from rfl, refused_0, if_neg (by simp), e2]; rfl
theorem op_range2 {σ τ : Sg} (a b : Int) (h : RP σ τ) (hF : WFK (τ 1) (τ 2) (τ 3)) : OpP2 [(1, 1), (2, 2)] (F_X10_range a b σ) (F_X11_range a b τ) σ τ := by
  obtain ⟨r1, ⟨w1, w2, w3⟩, r3, r4⟩ := id h
  have hthrow : ∀ t : Int, ¬ t = 0 → B_X11_range_47 a b t τ = some (0, up2 τ 0 0 t) := fun t ht => by
    unfold B_X11_range_47; rw [bnd_eq, refused_n ht]; rfl
  unfold F_X10_range F_X11_range B_X10_range_21 B_X11_range_24
  by_cases c1 : 0 ≤ a ∧ a ≤ 9
  · rw [if_pos (isDigit_iff.mpr c1), if_pos (in_iff.mpr c1)]
    by_cases c2 : a ≤ b ∧ b ≤ 9
    · rw [if_pos (isIn_iff.mpr c2), if_pos (in_iff.mpr c2)]
      unfold B_X10_range_22 B_X11_range_25
      rw [if_pos rfl, if_pos rfl]
      by_cases c : τ 0 9 = 60
      · rw [if_pos (isFull_iff.mpr c), full_c h c]
        exact Or.inl ⟨2, 2, rfl, hthrow 2 (by omega), rfl, by decide, by decide⟩
      · obtain ⟨n, hN⟩ : ∃ n : Nat, τ 0 9 = n := ⟨(τ 0 9).toNat, by omega⟩
        obtain ⟨σ', τ', e1, e2, e3, e4⟩ := push_all2 (so := 2) (lo := a) (hi := b) (fm := 2) (hd := a) (rs := b) (p0 := -1) (p1 := -1) (p2 := -1) (kd := 4) h hN (by omega) hF
          ⟨by omega, Or.inl rfl, Or.inl rfl, Or.inl rfl, (by show (1 : Int) + 0 + 0 + 0 ≤ 40; decide), (by show (max3 0 0 0 + 1 : Int) ≤ 4; decide), fun h => by omega, fun h => by omega, fun h => ⟨by omega, rfl, rfl, rfl, rfl⟩, fun h => by omega, fun h => by omega, fun h => by omega, fun h => by omega⟩ (by rw [if_neg (by omega)]) (by rw [if_neg (by omega)]) (by rw [if_pos rfl])
        rw [if_neg (fun q => c (isFull_iff.mp q)), e1]
        refine Or.inr ⟨n, σ', τ', ⟨rfl, ?_, e3⟩, e4, by omega⟩
        unfold B_X11_range_47; rw [bnd_eq, refused_0, if_neg (by simp), e2]; rfl
    · rw [if_neg (fun q => c2 (isIn_iff.mp q)), if_neg (fun q => c2 (in_iff.mp q))]
      refine Or.inl ⟨1, 1, rfl, ?_, rfl, by decide, by decide⟩
      unfold B_X11_range_25; rw [if_neg (by simp), hthrow 1 (by omega)]
  · rw [if_neg (fun q => c1 (isDigit_iff.mp q)), if_neg (fun q => c1 (in_iff.mp q))]
    refine Or.inl ⟨1, 1, rfl, ?_, rfl, by decide, by decide⟩
    unfold B_X11_range_25; rw [if_neg (by simp), hthrow 1 (by omega)]
/-! what patterns tell -/
set_option maxHeartbeats 4000000 in
theorem op_name2 {σ τ : Sg} (a b : Int) (h : RP σ τ) (hF : WFK (τ 1) (τ 2) (τ 3)) : OpP2 [(0, 1), (1, 2), (2, 3)] (F_X10_name a b σ) (F_X11_name a b τ) σ τ := by
  have hW := h.2.1
  obtain ⟨r1, ⟨w1, w2, w3⟩, r3, r4⟩ := id h
  have hthrow : ∀ t : Int, ¬ t = 0 → B_X11_name_89 a b t τ = some (0, up2 τ 0 0 t) := fun t ht => by
    unfold B_X11_name_89; rw [bnd_eq, refused_n ht]; rfl
  unfold F_X10_name F_X11_name F_X10_isName B_X10_name_22 B_X11_name_21
  have bad : OpP2 [(0, 1), (1, 2), (2, 3)] (B_X10_name_23 a b false σ) (B_X11_name_22 a b false τ) σ τ := by
    refine Or.inl ⟨0, 1, ?_, ?_, rfl, by decide, by decide⟩
    · unfold B_X10_name_23; rw [if_neg (by simp)]
    · unfold B_X11_name_22 B_X11_name_56 B_X11_name_57; rw [if_neg (by simp), if_neg (by simp), hthrow 1 (by omega)]
  by_cases c1 : 0 ≤ a ∧ a ≤ 5
  · rw [if_pos (isIn_iff.mpr c1), if_pos (in_iff.mpr c1)]
    by_cases c2 : pl τ b
    · rw [if_pos ((isThere5 h).mpr c2), if_pos ((isPat hW).mpr c2)]
      have hb := binds5 h c2 c1
      have no : plo τ (-1) := Or.inl rfl
      have hs := isSmall5 h (Or.inr c2) no no
      have hsz := size11 hW (Or.inr c2) no no
      have hbit := bit_n (nm_b hW c2) c1
      unfold B_X10_name_23 B_X11_name_22
      rw [if_pos rfl, if_pos rfl, rdn_ok c2.1 (by have := c2.2; omega), Option.bind_some, hbit]
      have bad2 : OpP2 [(0, 1), (1, 2), (2, 3)] (some (.inr 1, σ)) (B_X11_name_56 a b true τ) σ τ := by
        refine Or.inl ⟨1, 2, rfl, ?_, rfl, by decide, by decide⟩
        unfold B_X11_name_56 B_X11_name_57; rw [if_pos rfl, if_neg (by simp), hthrow 2 (by omega)]
      by_cases c3 : hasN τ b a
      · rw [if_pos (hb.mpr c3)]
        unfold hasN at c3
        rw [if_pos c3, if_neg (by decide)]
        unfold B_X10_name_43
        rw [if_neg (by simp)]
        exact bad2
      · rw [if_neg (fun q => c3 (hb.mp q))]
        unfold hasN at c3
        rw [if_neg c3, if_pos rfl, hsz, Option.bind_some]
        unfold B_X10_name_43
        rw [if_pos rfl]
        by_cases c4 : 1 + szo τ b + szo τ (-1) + szo τ (-1) ≤ 40
        · rw [if_pos (hs.mpr c4), if_neg (by omega)]
          unfold B_X11_name_57
          rw [if_pos rfl, if_pos rfl, kindOf5 h c2]
          by_cases c : τ 0 9 = 60
          · rw [if_pos (isFull_iff.mpr c), full_c h c]
            exact Or.inl ⟨2, 3, rfl, hthrow 3 (by omega), rfl, by decide, by decide⟩
          · obtain ⟨n, hN⟩ : ∃ n : Nat, τ 0 9 = n := ⟨(τ 0 9).toNat, by omega⟩
            have hdb := dpo_b hW b.toNat (by have := c2.1; have := c2.2; omega)
            obtain ⟨σ', τ', e1, e2, e3, e4⟩ := push_all2 (so := 1) (lo := a) (hi := a) (fm := 1) (hd := a) (rs := 0) (p0 := b) (p1 := -1) (p2 := -1) (kd := τ 12 b.toNat) h hN (by omega) hF
              ⟨by omega, (plo_ok hN).mp (Or.inr c2), Or.inl rfl, Or.inl rfl, c4, (by rw [if_pos (Or.inl rfl)]; show max (dpo τ b) (max (dpo τ (-1)) (dpo τ (-1))) + 0 ≤ 4; unfold dpo; rw [if_neg (by have := c2.1; omega), if_pos (by omega)]; omega), fun h => by omega, fun h => ⟨c1, c2.1, rfl, rfl, rfl, c3⟩, fun h => by omega, fun h => by omega, fun h => by omega, fun h => by omega, fun h => by omega⟩ (by rw [if_neg (by omega)]) (by rw [if_neg (by omega)]) (by rw [if_neg (by omega), if_neg (by omega), if_neg (by omega)])
            rw [if_neg (fun q => c (isFull_iff.mp q)), e1]
            refine Or.inr ⟨n, σ', τ', ⟨rfl, ?_, e3⟩, e4, by omega⟩
            unfold B_X11_name_89; rw [bnd_eq, refused_0, if_neg (by simp), rdn_ok c2.1 (by have := c2.2; omega), Option.bind_some]
            show ((F_X11_pattern 1 a 0 b (-1) (-1) (τ 12 b.toNat) (up2 τ 0 0 0)).bind _) = _
            rw [e2]; rfl
        · rw [if_neg (fun q => c4 (hs.mp q)), if_pos (by omega)]
          exact bad2
    · rw [if_neg (fun q => c2 ((isThere5 h).mp q)), if_neg (fun q => c2 ((isPat hW).mp q))]; exact bad
  · rw [if_neg (fun q => c1 (isIn_iff.mp q)), if_neg (fun q => c1 (in_iff.mp q))]; exact bad

set_option maxHeartbeats 4000000 in
theorem op_view2 {σ τ : Sg} (a b : Int) (h : RP σ τ) (hF : WFK (τ 1) (τ 2) (τ 3)) : OpP2 [(0, 1), (1, 2), (2, 3)] (F_X10_view a b σ) (F_X11_view a b τ) σ τ := by
  have hW := h.2.1
  obtain ⟨r1, ⟨w1, w2, w3⟩, r3, r4⟩ := id h
  have hthrow : ∀ t : Int, ¬ t = 0 → B_X11_view_85 a b t τ = some (0, up2 τ 0 0 t) := fun t ht => by
    unfold B_X11_view_85; rw [bnd_eq, refused_n ht]; rfl
  unfold F_X10_view F_X11_view F_X10_isView B_X10_view_22 B_X11_view_21
  have bad : OpP2 [(0, 1), (1, 2), (2, 3)] (B_X10_view_23 a b false σ) (B_X11_view_22 a b false τ) σ τ := by
    refine Or.inl ⟨0, 1, ?_, ?_, rfl, by decide, by decide⟩
    · unfold B_X10_view_23; rw [if_neg (by simp)]
    · unfold B_X11_view_22 B_X11_view_52 B_X11_view_53; rw [if_neg (by simp), if_neg (by simp), hthrow 1 (by omega)]
  by_cases c1 : 0 ≤ a ∧ a ≤ 2
  · rw [if_pos (isIn_iff.mpr c1), if_pos (in_iff.mpr c1)]
    by_cases c2 : pl τ b
    · rw [if_pos ((isThere5 h).mpr c2), if_pos ((isPat hW).mpr c2)]
      have hb := bare5 h c2
      have no : plo τ (-1) := Or.inl rfl
      have hs := isSmall5 h (Or.inr c2) no no
      have hsz := size11 hW (Or.inr c2) no no
      have hbr := (w3 b.toNat (by have := c2.1; have := c2.2; omega)).2.2.2.2.2.2.2.2.2.1
      unfold B_X10_view_23 B_X11_view_22
      rw [if_pos rfl, if_pos rfl, rdn_ok c2.1 (by have := c2.2; omega), Option.bind_some]
      have bad2 : OpP2 [(0, 1), (1, 2), (2, 3)] (B_X10_view_54 a b σ) (B_X11_view_52 a b true τ) σ τ := by
        refine Or.inl ⟨1, 2, ?_, ?_, rfl, by decide, by decide⟩
        · unfold B_X10_view_54 B_X10_view_55; rw [if_neg (by simp)]
        · unfold B_X11_view_52 B_X11_view_53; rw [if_pos rfl, if_neg (by simp), hthrow 2 (by omega)]
      by_cases c3 : τ 17 b.toNat = 1
      · rw [if_pos (hb.mpr c3), if_neg (show ¬ τ 17 b.toNat = 0 by omega), hsz, Option.bind_some]
        by_cases c4 : 1 + szo τ b + szo τ (-1) + szo τ (-1) ≤ 40
        · rw [if_pos (hs.mpr c4), if_neg (by omega)]
          unfold B_X11_view_53 B_X10_view_55
          rw [if_pos rfl, if_pos rfl, if_pos rfl]
          by_cases c : τ 0 9 = 60
          · rw [if_pos (isFull_iff.mpr c), full_c h c]
            exact Or.inl ⟨2, 3, rfl, hthrow 3 (by omega), rfl, by decide, by decide⟩
          · obtain ⟨n, hN⟩ : ∃ n : Nat, τ 0 9 = n := ⟨(τ 0 9).toNat, by omega⟩
            have hdb := dpo_b hW b.toNat (by have := c2.1; have := c2.2; omega)
            obtain ⟨σ', τ', e1, e2, e3, e4⟩ := push_all2 (so := 5) (lo := a) (hi := a) (fm := 5) (hd := a) (rs := 0) (p0 := b) (p1 := -1) (p2 := -1) (kd := -1) h hN (by omega) hF
              ⟨by omega, (plo_ok hN).mp (Or.inr c2), Or.inl rfl, Or.inl rfl, c4, (by rw [if_pos (Or.inr (Or.inr rfl))]; show max (dpo τ b) (max (dpo τ (-1)) (dpo τ (-1))) + 0 ≤ 4; unfold dpo; rw [if_neg (by have := c2.1; omega), if_pos (by omega)]; omega), fun h => by omega, fun h => by omega, fun h => by omega, fun h => by omega, fun h => by omega, fun h => ⟨c1, c2.1, rfl, rfl, rfl, c3⟩, fun h => by omega⟩ (by rw [if_neg (by omega)]) (by rw [if_neg (by omega)]) (by rw [if_neg (by omega), if_neg (by omega), if_neg (by omega)])
            rw [if_neg (fun q => c (isFull_iff.mp q)), e1]
            refine Or.inr ⟨n, σ', τ', ⟨rfl, ?_, e3⟩, e4, by omega⟩
            unfold B_X11_view_85; rw [bnd_eq, refused_0, if_neg (by simp)]
            show ((F_X11_pattern 5 a 0 b (-1) (-1) (-1) (up2 τ 0 0 0)).bind _) = _
            rw [e2]; rfl
        · rw [if_neg (fun q => c4 (hs.mp q)), if_pos (by omega)]
          exact bad2
      · rw [if_neg (fun q => c3 (hb.mp q)), if_pos (show τ 17 b.toNat = 0 by omega)]
        exact bad2
    · rw [if_neg (fun q => c2 ((isThere5 h).mp q)), if_neg (fun q => c2 ((isPat hW).mp q))]; exact bad
  · rw [if_neg (fun q => c1 (isIn_iff.mp q)), if_neg (fun q => c1 (in_iff.mp q))]; exact bad
set_option maxHeartbeats 4000000 in
theorem push_alt2 {σ τ : Sg} {a b : Int} {n : Nat} (h : RP σ τ) (hF : WFK (τ 1) (τ 2) (τ 3)) (hN : τ 0 9 = n) (hn : n < 60) (ha : pl τ a) (hb : pl τ b) (hA : altS τ a b) :
    ∃ σ' τ', F_X10_keepPattern 4 (if τ 12 a.toNat = -1 then τ 12 b.toNat else τ 12 a.toNat) 0 0 a b (-1) σ = some (.inl (n : Int), σ') ∧ F_X11_alternatives a b (up2 τ 0 0 0) = some ((n : Int), τ') ∧ τ' 0 0 = 0 ∧ FrP2 σ τ σ' τ' := by
  have hW := h.2.1
  have w2 := hW.2.1
  have a60 : a < (60 : Nat) := by have := ha.2; omega
  have b60 : b < (60 : Nat) := by have := hb.2; omega
  have hda := dpo_b hW a.toNat (by have := ha.1; have := ha.2; omega)
  have hdb := dpo_b hW b.toNat (by have := hb.1; have := hb.2; omega)
  obtain ⟨σ', τ', e1, e2, e3, e4⟩ := push_all2 (so := 4) (lo := 0) (hi := 0) (fm := 4) (hd := 0) (rs := 0) (p0 := a) (p1 := b) (p2 := -1) (kd := if τ 12 a.toNat = -1 then τ 12 b.toNat else τ 12 a.toNat) h hN hn hF
    ⟨by omega, (plo_ok hN).mp (Or.inr ha), (plo_ok hN).mp (Or.inr hb), Or.inl rfl, hA.2.2, (by rw [if_pos (Or.inr (Or.inl rfl))]; show max (dpo τ a) (max (dpo τ b) (dpo τ (-1))) + 0 ≤ 4; unfold dpo; rw [if_neg (by have := ha.1; omega), if_neg (by have := hb.1; omega), if_pos (by omega)]; omega), fun h => by omega, fun h => by omega, fun h => by omega, fun h => by omega, fun h => ⟨ha.1, hb.1, rfl, rfl, hA.1, hA.2.1⟩, fun h => by omega, fun h => by omega⟩ (by rw [if_neg (by omega)]) (by rw [if_neg (by omega)]) (by rw [if_neg (by omega), if_neg (by omega), if_neg (by omega)])
  refine ⟨σ', τ', e1, ?_, e3, e4⟩
  unfold F_X11_alternatives B_X11_alternatives_32
  rw [rdn_ok ha.1 a60, Option.bind_some, rdn_ok hb.1 b60, Option.bind_some]
  show (if τ 12 a.toNat = -1 then ((F_X11_pattern 4 0 0 a b (-1) (τ 12 b.toNat) (up2 τ 0 0 0)).bind fun q5 => some (q5.1, q5.2)) else ((some (τ 12 a.toNat)).bind fun v3 => (F_X11_pattern 4 0 0 a b (-1) v3 (up2 τ 0 0 0)).bind fun q5 => some (q5.1, q5.2))) = _
  by_cases c : τ 12 a.toNat = -1
  · rw [if_pos c] at e2 ⊢; rw [e2]; rfl
  · rw [if_neg c] at e2 ⊢; rw [Option.bind_some, e2]; rfl
set_option maxHeartbeats 4000000 in
theorem op_either2 {σ τ : Sg} (a b : Int) (h : RP σ τ) (hF : WFK (τ 1) (τ 2) (τ 3)) : OpP2 [(0, 1), (1, 2), (2, 3)] (F_X10_either a b σ) (F_X11_either a b τ) σ τ := by
  have hW := h.2.1
  obtain ⟨r1, ⟨w1, w2, w3⟩, r3, r4⟩ := id h
  have hthrow : ∀ t : Int, ¬ t = 0 → B_X11_either_56 a b t τ = some (0, up2 τ 0 0 t) := fun t ht => by
    unfold B_X11_either_56; rw [bnd_eq, refused_n ht]; rfl
  have hall : (∀ i : Int, 0 ≤ i → i < 2 → pl τ (F_X10_pick i a b (-1))) ↔ pl τ a ∧ pl τ b := by
    constructor
    · intro q; exact ⟨q 0 (by omega) (by omega), q 1 (by omega) (by omega)⟩
    · rintro ⟨q0, q1⟩ i i0 i1
      have : i = 0 ∨ i = 1 := by omega
      rcases this with rfl | rfl
      · exact q0
      · exact q1
  unfold F_X10_either F_X11_either B_X11_either_20
  by_cases c1 : pl τ a ∧ pl τ b
  · obtain ⟨ha, hb⟩ := c1
    rw [demP_ok h (by omega) (hall.mpr ⟨ha, hb⟩), if_pos ((isPat hW).mpr ha), if_pos ((isPat hW).mpr hb)]
    unfold B_X11_either_21
    obtain ⟨y, y1, y2⟩ := areAlt hW ha hb
    rw [if_pos rfl, y1, Option.bind_some]
    show OpP2 _ (if F_X5_canAlternate a b σ = true then _ else _) _ σ τ
    by_cases c2 : altS τ a b
    · rw [if_pos ((canAlt5 h ha hb).mpr c2), if_pos (y2.mpr c2), kindBoth5 h ha hb]
      by_cases c : τ 0 9 = 60
      · rw [if_pos (isFull_iff.mpr c), full_c h c]
        exact Or.inl ⟨2, 3, rfl, hthrow 3 (by omega), rfl, by decide, by decide⟩
      · obtain ⟨n, hN⟩ : ∃ n : Nat, τ 0 9 = n := ⟨(τ 0 9).toNat, by omega⟩
        obtain ⟨σ', τ', e1, e2, e3, e4⟩ := push_alt2 h hF hN (by omega) ha hb c2
        rw [if_neg (fun q => c (isFull_iff.mp q)), e1]
        refine Or.inr ⟨n, σ', τ', ⟨rfl, ?_, e3⟩, e4, by omega⟩
        unfold B_X11_either_56; rw [bnd_eq, refused_0, if_neg (by simp), e2]; rfl
    · rw [if_neg (fun q => c2 ((canAlt5 h ha hb).mp q)), if_neg (fun q => c2 (y2.mp q))]
      exact Or.inl ⟨1, 2, rfl, hthrow 2 (by omega), rfl, by decide, by decide⟩
  · rw [demP_no h (by omega) (fun q => c1 (hall.mp q))]
    refine Or.inl ⟨0, 1, rfl, ?_, rfl, by decide, by decide⟩
    have hf : B_X11_either_21 a b false τ = some (0, up2 τ 0 0 1) := by unfold B_X11_either_21; rw [if_neg (by simp), hthrow 1 (by omega)]
    rw [hf]
    by_cases ha : pl τ a
    · rw [if_pos ((isPat hW).mpr ha), if_neg (fun q => c1 ⟨ha, (isPat hW).mp q⟩)]
    · rw [if_neg (fun q => ha ((isPat hW).mp q))]

set_option maxHeartbeats 4000000 in
theorem op_make2 {σ τ : Sg} (a1 a2 a3 a4 a5 : Int) (hk : RK σ τ) (h : RP σ τ) : OpP2 [(0, 1), (1, 2), (2, 3)] (F_X10_make a1 a2 a3 a4 a5 σ) (F_X11_make a1 a2 a3 a4 a5 τ) σ τ := by
  have hW := h.2.1
  have hK := hk.2.2.2
  have w1 := hW.1
  have w2 := hW.2.1
  unfold F_X10_make F_X11_make
  obtain ⟨b, hb1, hb2⟩ := isCon_c (t := a1) (c := a2) hK
  rw [hb1, Option.bind_some]
  have hthrow : ∀ w t : Int, ¬ t = 0 → B_X11_make_268 a1 a3 a4 a5 w t τ = some (0, up2 τ 0 0 t) := fun w t ht => by
    unfold B_X11_make_268; rw [bnd_eq, refused_n ht]; rfl
  by_cases c1 : isC τ a1 a2
  · have hbt : b = true := hb2.mpr c1
    subst hbt
    obtain ⟨b1, b2, b3⟩ := isC_b hK c1
    obtain ⟨c1a, c1b, c1c⟩ := id c1
    rw [if_pos ((has_iff hk).mpr c1), if_pos rfl, bnd_eq, fieldsOf_c hk c1, wrap_id (z := 4 * a1) (by omega) (by omega), wrap_id (z := 4 * a1 + a2) (by omega) (by omega)]
    have nb : ∀ i x : Int, 0 ≤ nmN τ (flv τ a1 a2) i x ∧ nmN τ (flv τ a1 a2) i x < 64 ∨ (i < flv τ a1 a2 ∧ ¬ pl τ x) := by
      intro i x
      unfold nmN
      by_cases g : i < flv τ a1 a2
      · rw [if_pos g]
        by_cases g2 : pl τ x
        · exact Or.inl (nm_b hW g2)
        · exact Or.inr ⟨g, g2⟩
      · rw [if_neg g]; exact Or.inl (by omega)
    unfold B_X11_make_22
    generalize hn0 : nmN τ (flv τ a1 a2) 0 a3 = n0
    generalize hn1 : nmN τ (flv τ a1 a2) 1 a4 = n1
    generalize hn2 : nmN τ (flv τ a1 a2) 2 a5 = n2
    have hN : ∀ i, 0 ≤ i → i < 3 → nmN τ (flv τ a1 a2) i (F_X10_pick i a3 a4 a5) = F_X10_pick i n0 n1 n2 := by
      intro i i0 i3
      have : i = 0 ∨ i = 1 ∨ i = 2 := by omega
      rcases this with rfl | rfl | rfl
      · exact hn0
      · exact hn1
      · exact hn2
    obtain ⟨x, y, g1, g2, g3⟩ := for_f3 (f := fun a : Bool × Bool × Int × Int => L_X11_make_33 a3 a4 a5 (4 * a1 + a2) τ a.1 a.2.1 a.2.2.1 a.2.2.2) (n := 3) (P := fun i => i < flv τ a1 a2 → pl τ (F_X10_pick i a3 a4 a5)) (Q := fun i => okq τ a1 a2 i (F_X10_pick i a3 a4 a5)) (N := fun i => F_X10_pick i n0 n1 n2) (bd := bd3 n0 n1 n2) bd3_s (fun x y b => rfl) (fun m y b i i0 i1 i2 => by
      cases m with
      | zero => omega
      | succ m => exact ⟨y, iter_r mkM_f⟩) 4 0 true (by omega) (by omega) (by omega) (fun y j j1 j2 => by
        have := mkM (y := y) (bd := bd3 n0 n1 n2 j) (a3 := a3) (a4 := a4) (a5 := a5) hK hW c1 ⟨j1, j2⟩
        rw [hN j j1 j2] at this
        exact this)
    have hg1 : iter (fun a : Bool × Bool × Int × Int => L_X11_make_33 a3 a4 a5 (4 * a1 + a2) τ a.1 a.2.1 a.2.2.1 a.2.2.2) 4 (true, true, 0, 0) = some (x, y) := g1
    rw [hg1, Option.bind_some]
    by_cases c2 : ∀ i, 0 ≤ i → i < flv τ a1 a2 → pl τ (F_X10_pick i a3 a4 a5)
    · have N0 := (nb 0 a3).resolve_right (fun q => q.2 (c2 0 (by omega) q.1))
      have N1 := (nb 1 a4).resolve_right (fun q => q.2 (c2 1 (by omega) q.1))
      have N2 := (nb 2 a5).resolve_right (fun q => q.2 (c2 2 (by omega) q.1))
      rw [hn0] at N0; rw [hn1] at N1; rw [hn2] at N2
      have hx : x = true := g2.mpr (fun j j1 j2 j3 => c2 j j1 j3)
      subst hx
      have g3 := g3 rfl
      rw [demP_ok h ⟨b2, b3⟩ c2, if_pos rfl]
      show OpP2 _ ((iter (fun a : Int => L_X10_make_37 a1 a2 a3 a4 a5 (flv τ a1 a2) σ a) 4 0).bind _) _ σ τ
      have f2 : B_X11_make_234 a1 a3 a4 a5 true (4 * a1 + a2) τ = some (0, up2 τ 0 0 2) := by
        unfold B_X11_make_234 B_X11_make_235; rw [if_pos rfl, if_neg (by simp), hthrow _ 2 (by omega)]
      by_cases c3 : ∀ i, 0 ≤ i → i < 3 → okq τ a1 a2 i (F_X10_pick i a3 a4 a5)
      · rw [for_ok (f := fun a : Int => L_X10_make_37 a1 a2 a3 a4 a5 (flv τ a1 a2) σ a) (n := 3) (e := .inl ()) rfl 4 0 (by omega) (by omega) (fun j j1 j2 => (mkC hk h c1 ⟨j1, j2⟩ (c2 j j1)).1 (c3 j j1 j2)), Option.bind_some, Sum.elim_inl]
        have po : ∀ i : Int, 0 ≤ i → i < 3 → plo τ (F_X10_pick i a3 a4 a5) := fun i i0 i3 => by
          by_cases g : i < flv τ a1 a2
          · exact Or.inr (c2 i i0 g)
          · exact Or.inl ((c3 i i0 i3).2 (by omega))
        have p0 : plo τ a3 := po 0 (by omega) (by omega)
        have p1 : plo τ a4 := po 1 (by omega) (by omega)
        have p2 : plo τ a5 := po 2 (by omega) (by omega)
        have en : ∀ (i x : Int), okq τ a1 a2 i x → (i < flv τ a1 a2 → pl τ x) → nmN τ (flv τ a1 a2) i x = nmo τ x := fun i x g gv => by
          unfold nmN nmo
          by_cases g1 : i < flv τ a1 a2
          · rw [if_pos g1, if_neg (by have := (gv g1).1; omega)]
          · have := g.2 (by omega)
            rw [if_neg g1, if_pos (by omega)]
        have e0 : n0 = nmo τ a3 := by rw [← hn0]; exact en 0 a3 (c3 0 (by omega) (by omega)) (c2 0 (by omega))
        have e1 : n1 = nmo τ a4 := by rw [← hn1]; exact en 1 a4 (c3 1 (by omega) (by omega)) (c2 1 (by omega))
        have e2 : n2 = nmo τ a5 := by rw [← hn2]; exact en 2 a5 (c3 2 (by omega) (by omega)) (c2 2 (by omega))
        have hap : (y = true) ↔ apS τ a3 a4 a5 := by
          rw [g3]
          have := apart_iff N0 N1 N2
          unfold apS
          rw [← e0, ← e1, ← e2, ← this]
          constructor
          · rintro ⟨-, q⟩
            exact ⟨(q 0 (by omega) (by omega)).2, (q 1 (by omega) (by omega)).2, (q 2 (by omega) (by omega)).2⟩
          · rintro ⟨q0, q1, q2⟩
            refine ⟨rfl, fun j j1 j2 => ⟨c3 j j1 j2, ?_⟩⟩
            have : j = 0 ∨ j = 1 ∨ j = 2 := by omega
            rcases this with rfl | rfl | rfl
            · exact q0
            · exact q1
            · exact q2
        have hcp := canParts5 h p0 p1 p2
        rw [depthM hW p0 p1 p2, size11 hW p0 p1 p2, Option.bind_some, Option.bind_some]
        by_cases c4 : ptS τ a3 a4 a5
        · obtain ⟨d1, d2, d3⟩ := id c4
          rw [if_pos (hcp.mpr c4), if_pos (hap.mpr d1), if_neg (by omega), if_neg (by omega)]
          unfold B_X11_make_235
          rw [if_pos rfl, if_pos rfl]
          by_cases c : τ 0 9 = 60
          · rw [if_pos (isFull_iff.mpr c), full_c h c]
            exact Or.inl ⟨2, 3, rfl, hthrow _ 3 (by omega), rfl, by decide, by decide⟩
          · obtain ⟨n, hN9⟩ : ∃ n : Nat, τ 0 9 = n := ⟨(τ 0 9).toNat, by omega⟩
            have hj : jrem (4 * a1 + a2) 4 = a2 := by unfold jrem; rw [Int.tmod_eq_emod_of_nonneg (by omega)]; omega
            obtain ⟨σ', τ', k1, k2, k3, k4⟩ := push_all2 (so := 3) (lo := a2) (hi := a2) (fm := 3) (hd := 4 * a1 + a2) (rs := 0) (p0 := a3) (p1 := a4) (p2 := a5) (kd := a1) h hN9 (by omega) hK
              ⟨by omega, (plo_ok hN9).mp p0, (plo_ok hN9).mp p1, (plo_ok hN9).mp p2, d2, (by rw [if_neg (by omega)]; omega), fun h => by omega, fun h => by omega, fun h => by omega, fun _ => ⟨a1.toNat, a2.toNat, by omega, by omega, by omega, by omega, fun k hk3 => by
                have hf : τ 2 (4 * a1.toNat + a2.toNat) = flv τ a1 a2 := by unfold flv; congr 1; omega
                have hq := c3 k (by omega) (by omega)
                rw [hf]
                refine ⟨fun hlt => ?_, fun hge => hq.2 hge⟩
                have := hq.1 hlt
                unfold fkv at this
                rw [show (3 * (4 * a1 + a2) + (k : Int)).toNat = 3 * (4 * a1.toNat + a2.toNat) + k by omega] at this
                exact this⟩, fun h => by omega, fun h => by omega, fun h => by omega⟩ (by rw [if_neg (by omega)]) (by rw [if_pos rfl, hj]) (by rw [if_neg (by omega), if_pos rfl, hj])
            rw [if_neg (fun q => c (isFull_iff.mp q)), k1]
            refine Or.inr ⟨n, σ', τ', ⟨rfl, ?_, k3⟩, k4, by omega⟩
            unfold B_X11_make_268; rw [bnd_eq, refused_0, if_neg (by simp)]
            show ((F_X11_pattern 3 (4 * a1 + a2) 0 a3 a4 a5 a1 (up2 τ 0 0 0)).bind _) = _
            rw [k2]; rfl
        · rw [if_neg (fun q => c4 (hcp.mp q))]
          refine Or.inl ⟨1, 2, rfl, ?_, rfl, by decide, by decide⟩
          by_cases d1 : apS τ a3 a4 a5
          · rw [if_pos (hap.mpr d1)]
            by_cases d3 : 4 < max3 (dpo τ a3) (dpo τ a4) (dpo τ a5) + 1
            · rw [if_pos d3, f2]
            · rw [if_neg d3, if_pos (by
                refine Classical.byContradiction fun q => c4 ⟨d1, by omega, by omega⟩), f2]
          · rw [if_neg (fun q => d1 (hap.mp q)), f2]
      · have hy : ¬ y = true := fun q => c3 (fun j j1 j2 => ((g3.mp q).2 j j1 j2).1)
        refine Or.inl ⟨1, 2, ?_, ?_, rfl, by decide, by decide⟩
        · rw [for_no (f := fun a : Int => L_X10_make_37 a1 a2 a3 a4 a5 (flv τ a1 a2) σ a) (n := 3) (r := .inr (.inr 1, σ)) (P := fun i => okq τ a1 a2 i (F_X10_pick i a3 a4 a5)) 4 0 (by omega) (by omega) (fun j j1 j2 j3 => (mkC hk h c1 ⟨j1, j2⟩ (c2 j j1)).1 j3) (fun j j1 j2 j3 => (mkC hk h c1 ⟨j1, j2⟩ (c2 j j1)).2 j3) c3]; rfl
        · rw [if_neg hy, f2]
    · have hx : ¬ x = true := fun q => c2 (fun j j1 j2 => g2.mp q j j1 (by omega) j2)
      refine Or.inl ⟨0, 1, ?_, ?_, rfl, by decide, by decide⟩
      · rw [demP_no h ⟨b2, b3⟩ c2]; rfl
      · rw [if_neg hx]
        unfold B_X11_make_234 B_X11_make_235; rw [if_neg hx, hthrow _ 1 (by omega)]
  · have hbf : ¬ b = true := fun q => c1 (hb2.mp q)
    have hbf2 : b = false := by cases b <;> simp at hbf ⊢
    refine Or.inl ⟨0, 1, ?_, ?_, rfl, by decide, by decide⟩
    · rw [if_neg (fun q => c1 ((has_iff hk).mp q))]
    · rw [if_neg hbf, hbf2]
      unfold B_X11_make_22
      rw [iter_r (by exact mkM_f), Option.bind_some, if_neg (by simp)]
      unfold B_X11_make_234 B_X11_make_235; rw [if_neg (by simp), hthrow _ 1 (by omega)]

set_option maxHeartbeats 4000000 in
theorem op_list2 {σ τ : Sg} (a1 a2 a3 a4 : Int) (h : RP σ τ) (hF : WFK (τ 1) (τ 2) (τ 3)) : OpP2 [(0, 1), (1, 2), (2, 3)] (F_X10_list a1 a2 a3 a4 σ) (F_X11_list a1 a2 a3 a4 τ) σ τ := by
  have hW := h.2.1
  have w1 := hW.1
  have w2 := hW.2.1
  have hthrow : ∀ t : Int, ¬ t = 0 → B_X11_list_250 a1 a2 a3 a4 t τ = some (0, up2 τ 0 0 t) := fun t ht => by
    unfold B_X11_list_250; rw [bnd_eq, refused_n ht]; rfl
  have f1 : B_X11_list_216 a1 a2 a3 a4 false τ = some (0, up2 τ 0 0 1) := by
    unfold B_X11_list_216 B_X11_list_217; rw [if_neg (by simp), hthrow 1 (by omega)]
  have f2 : B_X11_list_216 a1 a2 a3 a4 true τ = some (0, up2 τ 0 0 2) := by
    unfold B_X11_list_216 B_X11_list_217; rw [if_pos rfl, if_neg (by simp), hthrow 2 (by omega)]
  obtain ⟨m, hm, hm3⟩ : ∃ m : Int, m = (if F_X10_isIn a1 0 2 = true then a1 else 0) ∧ 0 ≤ m ∧ m ≤ 2 := by
    refine ⟨_, rfl, ?_⟩
    by_cases c : 0 ≤ a1 ∧ a1 ≤ 2
    · rw [if_pos (isIn_iff.mpr c)]; exact c
    · rw [if_neg (fun q => c (isIn_iff.mp q))]; omega
  have him : F_X11_in a1 0 2 = F_X10_isIn a1 0 2 := rfl
  have hclass : F_X10_list a1 a2 a3 a4 σ = B_X10_list_19 a1 a2 a3 a4 (F_X10_isIn a1 0 2) m σ := by
    unfold F_X10_list
    rw [bnd_eq, hm]
    split <;> rfl
  rw [hclass]
  unfold B_X10_list_19 F_X11_list
  rw [bnd_eq, bnd_eq, him]
  generalize hn0 : nmN τ m 0 a2 = n0
  generalize hn1 : nmN τ m 1 a3 = n1
  have hN : ∀ i, 0 ≤ i → i < 2 → nmN τ m i (F_X10_pick i a2 a3 (-1)) = F_X10_pick i n0 n1 0 := by
    intro i i0 i3
    have : i = 0 ∨ i = 1 := by omega
    rcases this with rfl | rfl
    · exact hn0
    · exact hn1
  have hall : (∀ i : Int, 0 ≤ i → i < 2 → i < m → pl τ (F_X10_pick i a2 a3 (-1))) ↔ ∀ i : Int, 0 ≤ i → i < m → pl τ (F_X10_pick i a2 a3 (-1)) :=
    ⟨fun q i i0 i1 => q i i0 (by omega) i1, fun q i i0 i1 i2 => q i i0 i2⟩
  by_cases cr : 0 ≤ a4 ∧ a4 ≤ 2
  · have hr4 : F_X11_in a4 0 2 = true := in_iff.mpr cr
    have hr4' : F_X10_isIn a4 0 2 = true := isIn_iff.mpr cr
    obtain ⟨x, y, g1, g2, g3⟩ := for_f3 (f := fun a : Bool × Bool × Int × Int => L_X11_list_27 a1 a2 a3 (F_X10_isIn a1 0 2) τ a.1 a.2.1 a.2.2.1 a.2.2.2) (n := 2) (P := fun i => i < m → pl τ (F_X10_pick i a2 a3 (-1))) (Q := fun i => okl τ m i (F_X10_pick i a2 a3 (-1))) (N := fun i => F_X10_pick i n0 n1 0) (bd := bd3 n0 n1 0) (fun j j1 j2 => bd3_s j j1 (by omega)) (fun x y b => rfl) (fun m y b i i0 i1 i2 => lsM_f hW m y b i i0 i1 i2) 3 0 (F_X10_isIn a1 0 2) (by omega) (by omega) (by omega) (fun y j j1 j2 => by
      obtain ⟨x', y', b', e1, e2, e3⟩ := lsM (τ := τ) (a1 := a1) (a2 := a2) (a3 := a3) (i := j) (bd := bd3 n0 n1 0 j) (r := true) (y := y) (im := F_X10_isIn a1 0 2) hW ⟨j1, j2⟩ hm
      rw [hN j j1 j2] at e3
      exact ⟨x', y', b', e1, e2.trans ⟨fun q => q.2, fun q => ⟨rfl, q⟩⟩, e3⟩)
    have hg1 : iter (fun a : Bool × Bool × Int × Int => L_X11_list_27 a1 a2 a3 (F_X10_isIn a1 0 2) τ a.1 a.2.1 a.2.2.1 a.2.2.2) 3 (true, F_X10_isIn a1 0 2, 0, 0) = some (x, y) := g1
    rw [hr4, hg1, Option.bind_some]
    by_cases c2 : ∀ i, 0 ≤ i → i < m → pl τ (F_X10_pick i a2 a3 (-1))
    · have hx : x = true := g2.mpr (hall.mpr c2)
      subst hx
      have g4 := g3 rfl
      rw [demP_ok h ⟨hm3.1, by omega⟩ c2, if_pos rfl]
      show OpP2 _ (if F_X10_isIn a4 0 2 = true then _ else _) _ σ τ
      rw [if_pos hr4']
      by_cases cm : 0 ≤ a1 ∧ a1 ≤ 2
      · have hmt : F_X10_isIn a1 0 2 = true := isIn_iff.mpr cm
        rw [hmt] at g4 ⊢
        rw [hmt, if_pos rfl] at hm
        subst hm
        rw [if_pos rfl]
        by_cases c3 : ∀ i, 0 ≤ i → i < 2 → okl τ m i (F_X10_pick i a2 a3 (-1))
        · rw [for_ok (f := fun a : Int => L_X10_list_43 m a2 a3 σ a) (n := 2) (e := .inl ()) rfl 3 0 (by omega) (by omega) (fun j j1 j2 => (lsC h ⟨j1, j2⟩ (c2 j j1)).1 (c3 j j1 j2)), Option.bind_some, Sum.elim_inl]
          have po : ∀ i : Int, 0 ≤ i → i < 2 → plo τ (F_X10_pick i a2 a3 (-1)) := fun i i0 i3 => by
            by_cases g : i < m
            · exact Or.inr (c2 i i0 g)
            · exact Or.inl ((c3 i i0 i3).2 (by omega))
          have p0 : plo τ a2 := po 0 (by omega) (by omega)
          have p1 : plo τ a3 := po 1 (by omega) (by omega)
          have p2 : plo τ (-1) := Or.inl rfl
          have en : ∀ (i x : Int), okl τ m i x → (i < m → pl τ x) → nmN τ m i x = nmo τ x := fun i x g gv => by
            unfold nmN nmo
            by_cases g1 : i < m
            · rw [if_pos g1, if_neg (by have := (gv g1).1; omega)]
            · have := g.2 (by omega)
              rw [if_neg g1, if_pos (by omega)]
          have e0 : n0 = nmo τ a2 := by rw [← hn0]; exact en 0 a2 (c3 0 (by omega) (by omega)) (c2 0 (by omega))
          have e1 : n1 = nmo τ a3 := by rw [← hn1]; exact en 1 a3 (c3 1 (by omega) (by omega)) (c2 1 (by omega))
          have N0 : 0 ≤ n0 ∧ n0 < 64 := by rw [e0]; exact nmo64 hW p0
          have N1 : 0 ≤ n1 ∧ n1 < 64 := by rw [e1]; exact nmo64 hW p1
          have hap : (y = true) ↔ apS τ a2 a3 (-1) := by
            rw [g4]
            have := apart_iff N0 N1 (show (0 : Int) ≤ 0 ∧ (0 : Int) < 64 by omega)
            unfold apS
            rw [show nmo τ (-1) = 0 from rfl, ← e0, ← e1, ← this]
            constructor
            · rintro ⟨-, q⟩
              exact ⟨(q 0 (by omega) (by omega)).2, (q 1 (by omega) (by omega)).2, by rw [jand_c]; exact jand_0 _⟩
            · rintro ⟨q0, q1, q2⟩
              refine ⟨rfl, fun j j1 j2 => ⟨c3 j j1 j2, ?_⟩⟩
              have : j = 0 ∨ j = 1 := by omega
              rcases this with rfl | rfl
              · exact q0
              · exact q1
          have hcp := canParts5 h p0 p1 p2
          rw [depthM hW p0 p1 p2, size11 hW p0 p1 p2, Option.bind_some, Option.bind_some]
          by_cases c4 : ptS τ a2 a3 (-1)
          · obtain ⟨d1, d2, d3⟩ := id c4
            rw [if_pos (hcp.mpr c4), if_pos (hap.mpr d1), if_neg (show ¬ 4 < max3 (dpo τ a2) (dpo τ a3) (dpo τ (-1)) + 1 by omega), if_neg (show ¬ 40 < 1 + szo τ a2 + szo τ a3 + szo τ (-1) by omega)]
            unfold B_X11_list_217
            rw [if_pos rfl, if_pos rfl]
            have hcls : (if a4 = 2 then B_X10_list_124 m a2 a3 a4 7 σ else B_X10_list_124 m a2 a3 a4 6 σ) = xb (F_X10_keepPattern (if a4 = 2 then 7 else 6) 5 m (if a4 = 0 then m else 3) a2 a3 (-1) σ) (fun E σ => some (.inr E, σ)) fun v12 s13 => some (.inl v12, s13) := by
              unfold B_X10_list_124 B_X10_list_136
              by_cases q2 : a4 = 2
              · rw [if_pos q2, if_neg (by omega), if_pos q2, if_neg (by omega)]
              · rw [if_neg q2, if_neg q2]
                by_cases q0 : a4 = 0
                · rw [if_pos q0, if_pos q0]
                · rw [if_neg q0, if_neg q0]
            rw [hcls]
            by_cases c : τ 0 9 = 60
            · rw [if_pos (isFull_iff.mpr c), full_c h c]
              exact Or.inl ⟨2, 3, rfl, hthrow 3 (by omega), rfl, by decide, by decide⟩
            · obtain ⟨n, hN9⟩ : ∃ n : Nat, τ 0 9 = n := ⟨(τ 0 9).toNat, by omega⟩
              obtain ⟨σ', τ', k1, k2, k3, k4⟩ := push_all2 (so := if a4 = 2 then 7 else 6) (lo := m) (hi := if a4 = 0 then m else 3) (fm := 6) (hd := m) (rs := a4) (p0 := a2) (p1 := a3) (p2 := -1) (kd := 5) h hN9 (by omega) hF
                ⟨by omega, (plo_ok hN9).mp p0, (plo_ok hN9).mp p1, Or.inl rfl, d2, (by rw [if_neg (by omega)]; omega), fun h => by omega, fun h => by omega, fun h => by omega, fun h => by omega, fun h => by omega, fun h => by omega, fun _ => ⟨hm3, cr, rfl, rfl, fun k hk2 => by
                  have hq := c3 k (by omega) (by omega)
                  have hpk : F_X10_pick k a2 a3 (-1) = F_X10_pick k a2 a3 (-1) := rfl
                  exact ⟨fun hlt => hq.1 hlt, fun hge => hq.2 hge⟩⟩⟩ (by by_cases q2 : a4 = 2 <;> simp [q2]) (by rw [if_neg (by omega)]) (by simp)
              rw [if_neg (fun q => c (isFull_iff.mp q)), k1]
              refine Or.inr ⟨n, σ', τ', ⟨rfl, ?_, k3⟩, k4, by omega⟩
              unfold B_X11_list_250; rw [bnd_eq, refused_0, if_neg (by simp)]
              show ((F_X11_pattern 6 m a4 a2 a3 (-1) 5 (up2 τ 0 0 0)).bind _) = _
              rw [k2]; rfl
          · rw [if_neg (fun q => c4 (hcp.mp q))]
            refine Or.inl ⟨1, 2, rfl, ?_, rfl, by decide, by decide⟩
            by_cases d1 : apS τ a2 a3 (-1)
            · rw [if_pos (hap.mpr d1)]
              by_cases d3 : 4 < max3 (dpo τ a2) (dpo τ a3) (dpo τ (-1)) + 1
              · rw [if_pos d3, f2]
              · rw [if_neg d3, if_pos (by
                  refine Classical.byContradiction fun q => c4 ⟨d1, by omega, by omega⟩), f2]
            · rw [if_neg (fun q => d1 (hap.mp q)), f2]
        · have hy : ¬ y = true := fun q => c3 (fun j j1 j2 => ((g4.mp q).2 j j1 j2).1)
          refine Or.inl ⟨1, 2, ?_, ?_, rfl, by decide, by decide⟩
          · rw [for_no (f := fun a : Int => L_X10_list_43 m a2 a3 σ a) (n := 2) (r := .inr (.inr 1, σ)) (P := fun i => okl τ m i (F_X10_pick i a2 a3 (-1))) 3 0 (by omega) (by omega) (fun j j1 j2 j3 => (lsC h ⟨j1, j2⟩ (c2 j j1)).1 j3) (fun j j1 j2 j3 => (lsC h ⟨j1, j2⟩ (c2 j j1)).2 j3) c3]; rfl
          · rw [if_neg hy, f2]
      · have hmf : ¬ F_X10_isIn a1 0 2 = true := fun q => cm (isIn_iff.mp q)
        have hy : ¬ y = true := fun q => hmf (g4.mp q).1
        refine Or.inl ⟨1, 2, ?_, ?_, rfl, by decide, by decide⟩
        · rw [if_neg hmf]
        · rw [if_neg hy, f2]
    · have hx : ¬ x = true := fun q => c2 (hall.mp (g2.mp q))
      have hx2 : x = false := by cases x <;> simp at hx ⊢
      subst hx2
      refine Or.inl ⟨0, 1, ?_, ?_, rfl, by decide, by decide⟩
      · rw [demP_no h ⟨hm3.1, by omega⟩ c2]; rfl
      · rw [if_neg (by simp), f1]
  · have hr4 : F_X11_in a4 0 2 = false := by
      cases hq : F_X11_in a4 0 2 with
      | false => rfl
      | true => exact absurd (in_iff.mp hq) cr
    have hr4' : ¬ F_X10_isIn a4 0 2 = true := fun q => cr (isIn_iff.mp q)
    obtain ⟨y, e⟩ := lsM_f (τ := τ) (a1 := a1) (a2 := a2) (a3 := a3) (im := F_X10_isIn a1 0 2) hW 3 (F_X10_isIn a1 0 2) 0 0 (by omega) (by omega) (by omega)
    rw [hr4]
    refine Or.inl ⟨0, 1, ?_, ?_, rfl, by decide, by decide⟩
    · by_cases c2 : ∀ i, 0 ≤ i → i < m → pl τ (F_X10_pick i a2 a3 (-1))
      · rw [demP_ok h ⟨hm3.1, by omega⟩ c2]
        show (if F_X10_isIn a4 0 2 = true then _ else _) = _
        rw [if_neg hr4']
      · rw [demP_no h ⟨hm3.1, by omega⟩ c2]; rfl
    · rw [e, Option.bind_some, if_neg (by simp), f1]

set_option maxHeartbeats 4000000 in
theorem op_begin2 {σ τ : Sg} (a1 a2 a3 a4 : Int) (h : RM σ τ) : Thr [(1, 1)] (F_X10_begin a1 a2 a3 a4 σ) (F_X11_begin a1 a2 a3 a4 τ) σ τ ∨ ∃ v σ' τ', Okk (F_X10_begin a1 a2 a3 a4 σ) (F_X11_begin a1 a2 a3 a4 τ) v σ' τ' ∧ (∀ k, k ∉ [24, 25, 27, 31, 33, 43, 49] → σ' k = σ k) ∧ (∀ k, k ∉ [0, 19] → τ' k = τ k) ∧ (∀ i, i ∉ [0, 21, 23, 47, 48, 52, 54] → τ' 0 i = τ 0 i) ∧ RM σ' τ' ∧ RC σ' τ' ∧ NoEng σ σ' τ' ∧ 0 ≤ v ∧ τ' 0 21 = a1 ∧ τ' 0 23 = 0 := by
  obtain ⟨h1, h2, h3, h4, h5⟩ := id h
  unfold F_X10_begin F_X11_begin
  obtain ⟨b, hb1, hb2⟩ := for_fl (f := fun a : Bool × Int => L_X11_begin_11 a1 a2 a3 a4 τ a.1 a.2) (n := 3) (P := fun i => okf a1 i (F_X10_pick i a2 a3 a4)) (fun x => rfl) 4 0 (F_X11_in a1 1 3) (by omega) (by omega) (fun x j g1 g2 => bgM_s ⟨g1, g2⟩)
  rw [in_iff] at hb2
  rw [bnd_eq (x := F_X11_in a1 1 3), hb1, Option.bind_some]
  have hthrow : B_X11_begin_79 a1 a2 a3 a4 true τ = some (0, up2 τ 0 0 1) := by
    unfold B_X11_begin_79; rw [bnd_eq, show b2i true = 1 from rfl, refused_n (by omega)]; rfl
  by_cases c1 : 1 ≤ a1 ∧ a1 ≤ 3
  · rw [if_pos (isIn_iff.mpr c1)]
    by_cases c3 : ∀ i : Int, 0 ≤ i → i < 3 → okf a1 i (F_X10_pick i a2 a3 a4)
    · have hbt : b = true := hb2.mpr ⟨c1, c3⟩
      subst hbt
      rw [for_ok (f := fun a : Int => L_X10_begin_12 a1 a2 a3 a4 σ a) (n := 3) (e := .inl ()) rfl 4 0 (by omega) (by omega) (fun j j1 j2 => bgC_s ⟨j1, j2⟩ (c3 j j1 j2)), Option.bind_some, Sum.elim_inl, if_pos rfl]
      obtain ⟨o0, o1, o2⟩ := all3.mp c3
      rw [pick0] at o0; rw [pick1] at o1; rw [pick2] at o2
      unfold okf at o0 o1 o2
      have hN : NoEng σ (cB σ a1 a2 a3 a4) (mB τ a1 a2 a3 a4) := by
        unfold NoEng cB mB
        refine ⟨?_, ?_, ?_, rfl, ?_, ?_⟩
        · simp (disch := omega) only [bnd_eq, bind_some', wrap_id, rdn_ok, wrn_ok, wbn_ok, rdD_ok, rdD_out, wrD_ok, wrD_out, up2_at, up2_row, up2_idx, iter_s, itp, itn, isIn_iff, in_iff, ↓reduceIte, reduceCtorEq, fillF_row, forget_eq]
        · simp (disch := omega) only [bnd_eq, bind_some', wrap_id, rdn_ok, wrn_ok, wbn_ok, rdD_ok, rdD_out, wrD_ok, wrD_out, up2_at, up2_row, up2_idx, iter_s, itp, itn, isIn_iff, in_iff, ↓reduceIte, reduceCtorEq, fillF_row, forget_eq]
        · simp (disch := omega) only [bnd_eq, bind_some', wrap_id, rdn_ok, wrn_ok, wbn_ok, rdD_ok, rdD_out, wrD_ok, wrD_out, up2_at, up2_row, up2_idx, iter_s, itp, itn, isIn_iff, in_iff, ↓reduceIte, reduceCtorEq, fillF_row, forget_eq]
        · simp (disch := omega) only [bnd_eq, bind_some', wrap_id, rdn_ok, wrn_ok, wbn_ok, rdD_ok, rdD_out, wrD_ok, wrD_out, up2_at, up2_row, up2_idx, iter_s, itp, itn, isIn_iff, in_iff, ↓reduceIte, reduceCtorEq, fillF_row, forget_eq]
        · simp (disch := omega) only [bnd_eq, bind_some', wrap_id, rdn_ok, wrn_ok, wbn_ok, rdD_ok, rdD_out, wrD_ok, wrD_out, up2_at, up2_row, up2_idx, iter_s, itp, itn, isIn_iff, in_iff, ↓reduceIte, reduceCtorEq, fillF_row, forget_eq]
      refine Or.inr ⟨σ 24 1, cB σ a1 a2 a3 a4, mB τ a1 a2 a3 a4, ⟨?_, ?_, rfl⟩, ?_, ?_, ?_, ?_, ?_, hN, ?_⟩
      · rw [bnd_eq, bnd_eq]
        unfold F_X4_start F_X1_clear F_X1_unbind cB
        simp (disch := omega) only [bnd_eq, bind_some', wrap_id, rdn_ok, wrn_ok, wbn_ok, rdD_ok, rdD_out, wrD_ok, wrD_out, up2_at, up2_row, up2_idx, iter_s, itp, itn, isIn_iff, in_iff, ↓reduceIte, reduceCtorEq, L_X4_start_19, F_X10_pick, fillF_row, forget_eq]
        rfl
      · unfold B_X11_begin_79 mB
        rw [show b2i false = 0 from rfl]
        simp (disch := omega) only [bnd_eq, bind_some', wrap_id, rdn_ok, wrn_ok, wbn_ok, rdD_ok, rdD_out, wrD_ok, wrD_out, up2_at, up2_row, up2_idx, iter_s, itp, itn, isIn_iff, in_iff, ↓reduceIte, reduceCtorEq, refused_0, L_X11_begin_101, F_X11_pick, Bool.false_eq_true]
        rw [h2]; rfl
      · intro k hk
        simp only [List.mem_cons, List.not_mem_nil, or_false, not_or] at hk
        unfold cB; funext i
        simp (disch := omega) only [bnd_eq, bind_some', wrap_id, rdn_ok, wrn_ok, wbn_ok, rdD_ok, rdD_out, wrD_ok, wrD_out, up2_at, up2_row, up2_idx, iter_s, itp, itn, isIn_iff, in_iff, ↓reduceIte, reduceCtorEq, fillF_row, forget_eq]
      · intro k hk
        simp only [List.mem_cons, List.not_mem_nil, or_false, not_or] at hk
        unfold mB; funext i
        simp (disch := omega) only [bnd_eq, bind_some', wrap_id, rdn_ok, wrn_ok, wbn_ok, rdD_ok, rdD_out, wrD_ok, wrD_out, up2_at, up2_row, up2_idx, iter_s, itp, itn, isIn_iff, in_iff, ↓reduceIte, reduceCtorEq]
      · intro i hi
        simp only [List.mem_cons, List.not_mem_nil, or_false, not_or] at hi
        unfold mB
        simp (disch := omega) only [bnd_eq, bind_some', wrap_id, rdn_ok, wrn_ok, wbn_ok, rdD_ok, rdD_out, wrD_ok, wrD_out, up2_at, up2_row, up2_idx, iter_s, itp, itn, isIn_iff, in_iff, ↓reduceIte, reduceCtorEq]
      · have r21 : mB τ a1 a2 a3 a4 0 21 = a1 := by unfold mB; simp (disch := omega) only [bnd_eq, bind_some', wrap_id, rdn_ok, wrn_ok, wbn_ok, rdD_ok, rdD_out, wrD_ok, wrD_out, up2_at, up2_row, up2_idx, iter_s, itp, itn, isIn_iff, in_iff, ↓reduceIte, reduceCtorEq]
        have r23 : mB τ a1 a2 a3 a4 0 23 = 0 := by unfold mB; simp (disch := omega) only [bnd_eq, bind_some', wrap_id, rdn_ok, wrn_ok, wbn_ok, rdD_ok, rdD_out, wrD_ok, wrD_out, up2_at, up2_row, up2_idx, iter_s, itp, itn, isIn_iff, in_iff, ↓reduceIte, reduceCtorEq]
        have r190 : mB τ a1 a2 a3 a4 19 0 = a2 := by unfold mB; simp (disch := omega) only [bnd_eq, bind_some', wrap_id, rdn_ok, wrn_ok, wbn_ok, rdD_ok, rdD_out, wrD_ok, wrD_out, up2_at, up2_row, up2_idx, iter_s, itp, itn, isIn_iff, in_iff, ↓reduceIte, reduceCtorEq]
        have r191 : mB τ a1 a2 a3 a4 19 1 = a3 := by unfold mB; simp (disch := omega) only [bnd_eq, bind_some', wrap_id, rdn_ok, wrn_ok, wbn_ok, rdD_ok, rdD_out, wrD_ok, wrD_out, up2_at, up2_row, up2_idx, iter_s, itp, itn, isIn_iff, in_iff, ↓reduceIte, reduceCtorEq]
        have r192 : mB τ a1 a2 a3 a4 19 2 = a4 := by unfold mB; simp (disch := omega) only [bnd_eq, bind_some', wrap_id, rdn_ok, wrn_ok, wbn_ok, rdD_ok, rdD_out, wrD_ok, wrD_out, up2_at, up2_row, up2_idx, iter_s, itp, itn, isIn_iff, in_iff, ↓reduceIte, reduceCtorEq]
        refine ⟨?_, ?_, fun k hk => ?_, ⟨by omega, by omega, fun k hk => ?_, fun _ => r23, fun c hc => by omega⟩, fun c hc => by omega⟩
        · rw [r21]; unfold cB; simp (disch := omega) only [bnd_eq, bind_some', wrap_id, rdn_ok, wrn_ok, wbn_ok, rdD_ok, rdD_out, wrD_ok, wrD_out, up2_at, up2_row, up2_idx, iter_s, itp, itn, isIn_iff, in_iff, ↓reduceIte, reduceCtorEq]
        · rw [r23]; unfold cB; simp (disch := omega) only [bnd_eq, bind_some', wrap_id, rdn_ok, wrn_ok, wbn_ok, rdD_ok, rdD_out, wrD_ok, wrD_out, up2_at, up2_row, up2_idx, iter_s, itp, itn, isIn_iff, in_iff, ↓reduceIte, reduceCtorEq]
        · have : k = 0 ∨ k = 1 ∨ k = 2 := by omega
          rcases this with rfl | rfl | rfl
          · rw [r190]; unfold cB; simp (disch := omega) only [bnd_eq, bind_some', wrap_id, rdn_ok, wrn_ok, wbn_ok, rdD_ok, rdD_out, wrD_ok, wrD_out, up2_at, up2_row, up2_idx, iter_s, itp, itn, isIn_iff, in_iff, ↓reduceIte, reduceCtorEq]
          · rw [r191]; unfold cB; simp (disch := omega) only [bnd_eq, bind_some', wrap_id, rdn_ok, wrn_ok, wbn_ok, rdD_ok, rdD_out, wrD_ok, wrD_out, up2_at, up2_row, up2_idx, iter_s, itp, itn, isIn_iff, in_iff, ↓reduceIte, reduceCtorEq]
          · rw [r192]; unfold cB; simp (disch := omega) only [bnd_eq, bind_some', wrap_id, rdn_ok, wrn_ok, wbn_ok, rdD_ok, rdD_out, wrD_ok, wrD_out, up2_at, up2_row, up2_idx, iter_s, itp, itn, isIn_iff, in_iff, ↓reduceIte, reduceCtorEq]
        · have : k = 0 ∨ k = 1 ∨ k = 2 := by omega
          rcases this with rfl | rfl | rfl
          · rw [r190]; omega
          · rw [r191]; omega
          · rw [r192]; omega
      · have r48 : mB τ a1 a2 a3 a4 0 48 = 0 := by unfold mB; simp (disch := omega) only [bnd_eq, bind_some', wrap_id, rdn_ok, wrn_ok, wbn_ok, rdD_ok, rdD_out, wrD_ok, wrD_out, up2_at, up2_row, up2_idx, iter_s, itp, itn, isIn_iff, in_iff, ↓reduceIte, reduceCtorEq]
        refine ⟨?_, ?_, by omega, fun i hi => by omega, fun i hi => ?_⟩
        · unfold cB mB; simp (disch := omega) only [bnd_eq, bind_some', wrap_id, rdn_ok, wrn_ok, wbn_ok, rdD_ok, rdD_out, wrD_ok, wrD_out, up2_at, up2_row, up2_idx, iter_s, itp, itn, isIn_iff, in_iff, ↓reduceIte, reduceCtorEq, fillF_row]
        · rw [r48]; unfold cB; simp (disch := omega) only [bnd_eq, bind_some', wrap_id, rdn_ok, wrn_ok, wbn_ok, rdD_ok, rdD_out, wrD_ok, wrD_out, up2_at, up2_row, up2_idx, iter_s, itp, itn, isIn_iff, in_iff, ↓reduceIte, reduceCtorEq, fillF_row]
        · rw [if_pos (show mB τ a1 a2 a3 a4 0 52 = -1 by unfold mB; simp (disch := omega) only [bnd_eq, bind_some', wrap_id, rdn_ok, wrn_ok, wbn_ok, rdD_ok, rdD_out, wrD_ok, wrD_out, up2_at, up2_row, up2_idx, iter_s, itp, itn, isIn_iff, in_iff, ↓reduceIte, reduceCtorEq])]
          unfold cB; simp (disch := omega) only [bnd_eq, bind_some', wrap_id, rdn_ok, wrn_ok, wbn_ok, rdD_ok, rdD_out, wrD_ok, wrD_out, up2_at, up2_row, up2_idx, iter_s, itp, itn, isIn_iff, in_iff, ↓reduceIte, reduceCtorEq, fillF_at]
      · refine ⟨by have h1 := h.2.1; have h2 := h.2.2.2.1.2.1; omega, ?_, ?_⟩ <;> (unfold mB; simp (disch := omega) only [up2_at, up2_row, up2_idx])
    · have hbf : ¬ b = true := fun q => c3 (hb2.mp q).2
      refine Or.inl ⟨1, 1, ?_, ?_, rfl, by decide, by decide⟩
      · rw [for_no (f := fun a : Int => L_X10_begin_12 a1 a2 a3 a4 σ a) (n := 3) (r := .inr (.inr 1, σ)) (P := fun i => okf a1 i (F_X10_pick i a2 a3 a4)) 4 0 (by omega) (by omega) (fun j g1 g2 g3 => bgC_s ⟨g1, g2⟩ g3) (fun j g1 g2 g3 => bgC_f ⟨g1, g2⟩ g3) c3]; rfl
      · rw [if_neg hbf, hthrow]
  · have hbf : ¬ b = true := fun q => c1 (hb2.mp q).1
    refine Or.inl ⟨1, 1, ?_, ?_, rfl, by decide, by decide⟩
    · rw [if_neg (fun q => c1 (isIn_iff.mp q))]
    · rw [if_neg hbf, hthrow]

set_option maxHeartbeats 4000000 in
theorem op_add2 {σ τ : Sg} (a1 a2 a3 a4 : Int) (h : RP σ τ) (hM : RM σ τ) : Thr [(0, 1), (1, 2), (2, 3)] (F_X10_add a1 a2 a3 a4 σ) (F_X11_add a1 a2 a3 a4 τ) σ τ ∨ ∃ v σ' τ', Okk (F_X10_add a1 a2 a3 a4 σ) (F_X11_add a1 a2 a3 a4 τ) v σ' τ' ∧ (∀ k, k ∉ [24, 26, 33, 43, 49] → σ' k = σ k) ∧ (∀ k, k ∉ [0, 20, 21, 22, 25] → τ' k = τ k) ∧ (∀ i, i ∉ [0, 23, 54] → τ' 0 i = τ 0 i) ∧ RM σ' τ' ∧ NoEng σ σ' τ' ∧ v = τ 0 23 ∧ τ' 0 23 = τ 0 23 + 1 := by
  have hW := h.2.1
  obtain ⟨h1, h2, h3, ⟨w1, w2, w3, w4, w5⟩, h5⟩ := id hM
  have hthrow : ∀ t : Int, ¬ t = 0 → B_X11_add_213 a1 a2 a3 a4 t τ = some (0, up2 τ 0 0 t) := fun t ht => by
    unfold B_X11_add_213; rw [bnd_eq, refused_n ht]; rfl
  unfold F_X10_add F_X11_add B_X11_add_208
  have hcols : F_X4_columns σ = τ 0 21 := h1
  rw [bnd_eq, hcols, bnd_eq]
  generalize hm : τ 0 21 = m at *
  generalize hn0 : nmN τ m 0 a1 = n0
  generalize hn1 : nmN τ m 1 a2 = n1
  generalize hn2 : nmN τ m 2 a3 = n2
  have hN : ∀ i, 0 ≤ i → i < 3 → nmN τ m i (F_X10_pick i a1 a2 a3) = F_X10_pick i n0 n1 n2 := by
    intro i i0 i3
    have : i = 0 ∨ i = 1 ∨ i = 2 := by omega
    rcases this with rfl | rfl | rfl
    · exact hn0
    · exact hn1
    · exact hn2
  obtain ⟨x, y, g1, g2, g3⟩ := for_f3 (f := fun a : Bool × Bool × Int × Int => L_X11_add_19 a1 a2 a3 τ a.1 a.2.1 a.2.2.1 a.2.2.2) (n := 3) (P := fun i => i < m → pl τ (F_X10_pick i a1 a2 a3)) (Q := fun i => okA τ m i (F_X10_pick i a1 a2 a3)) (N := fun i => F_X10_pick i n0 n1 n2) (bd := bd3 n0 n1 n2) bd3_s (fun x y b => rfl) (fun m y b i i0 i1 i2 => adM_f hW m y b i i0 i1 i2) 4 0 (F_X11_in a4 0 99) (by omega) (by omega) (by omega) (fun y j j1 j2 => by
    obtain ⟨x', y', b', e1, e2, e3⟩ := adM (τ := τ) (a1 := a1) (a2 := a2) (a3 := a3) (i := j) (bd := bd3 n0 n1 n2 j) (r := true) (y := y) hW ⟨j1, j2⟩
    rw [hm] at e2 e3
    rw [hN j j1 j2] at e3
    exact ⟨x', y', b', e1, e2.trans ⟨fun q => q.2, fun q => ⟨rfl, q⟩⟩, e3⟩)
  have hg1 : iter (fun a : Bool × Bool × Int × Int => L_X11_add_19 a1 a2 a3 τ a.1 a.2.1 a.2.2.1 a.2.2.2) 4 (true, F_X11_in a4 0 99, 0, 0) = some (x, y) := g1
  rw [hg1, Option.bind_some]
  by_cases c2 : ∀ i, 0 ≤ i → i < m → pl τ (F_X10_pick i a1 a2 a3)
  · have hx : x = true := g2.mpr (fun j j1 j2 j3 => c2 j j1 j3)
    subst hx
    have g4 := g3 rfl
    rw [demP_ok h ⟨by omega, by omega⟩ c2, if_pos rfl]
    show Thr _ ((iter (fun a : Int => L_X10_add_21 a1 a2 a3 m σ a) 4 0).bind _) _ σ τ ∨ ∃ v σ' τ', Okk ((iter (fun a : Int => L_X10_add_21 a1 a2 a3 m σ a) 4 0).bind _) _ v σ' τ' ∧ _
    have hC := fun j j1 j2 => adC (i := j) (a1 := a1) (a2 := a2) (a3 := a3) h hM ⟨j1, j2⟩ (by rw [hm]; exact c2 j j1)
    rw [hm] at hC
    by_cases c3 : ∀ i, 0 ≤ i → i < 3 → okA τ m i (F_X10_pick i a1 a2 a3)
    · rw [for_ok (f := fun a : Int => L_X10_add_21 a1 a2 a3 m σ a) (n := 3) (e := .inl ()) rfl 4 0 (by omega) (by omega) (fun j j1 j2 => (hC j j1 j2).1 (c3 j j1 j2)), Option.bind_some, Sum.elim_inl]
      have po : ∀ i : Int, 0 ≤ i → i < 3 → plo τ (F_X10_pick i a1 a2 a3) := fun i i0 i3 => by
        by_cases g : i < m
        · exact Or.inr (c2 i i0 g)
        · exact Or.inl ((c3 i i0 i3).2 (by omega))
      have p0 : plo τ a1 := po 0 (by omega) (by omega)
      have p1 : plo τ a2 := po 1 (by omega) (by omega)
      have p2 : plo τ a3 := po 2 (by omega) (by omega)
      have en : ∀ (i x : Int), okA τ m i x → (i < m → pl τ x) → nmN τ m i x = nmo τ x := fun i x g gv => by
        unfold nmN nmo
        by_cases g1 : i < m
        · rw [if_pos g1, if_neg (by have := (gv g1).1; omega)]
        · have := g.2 (by omega)
          rw [if_neg g1, if_pos (by omega)]
      have e0 : n0 = nmo τ a1 := by rw [← hn0]; exact en 0 a1 (c3 0 (by omega) (by omega)) (c2 0 (by omega))
      have e1 : n1 = nmo τ a2 := by rw [← hn1]; exact en 1 a2 (c3 1 (by omega) (by omega)) (c2 1 (by omega))
      have e2 : n2 = nmo τ a3 := by rw [← hn2]; exact en 2 a3 (c3 2 (by omega) (by omega)) (c2 2 (by omega))
      have hap : (y = true) ↔ (0 ≤ a4 ∧ a4 ≤ 99) ∧ apS τ a1 a2 a3 := by
        rw [g4, in_iff]
        have := apart_iff (n0 := n0) (n1 := n1) (n2 := n2) (by rw [e0]; exact nmo64 hW p0) (by rw [e1]; exact nmo64 hW p1) (by rw [e2]; exact nmo64 hW p2)
        unfold apS
        rw [← e0, ← e1, ← e2, ← this]
        constructor
        · rintro ⟨q9, q⟩
          exact ⟨q9, (q 0 (by omega) (by omega)).2, (q 1 (by omega) (by omega)).2, (q 2 (by omega) (by omega)).2⟩
        · rintro ⟨q9, q0, q1, q2⟩
          refine ⟨q9, fun j j1 j2 => ⟨c3 j j1 j2, ?_⟩⟩
          have : j = 0 ∨ j = 1 ∨ j = 2 := by omega
          rcases this with rfl | rfl | rfl
          · exact q0
          · exact q1
          · exact q2
      have hba := bindApart5 h p0 p1 p2
      by_cases c4 : apS τ a1 a2 a3
      · rw [if_pos (hba.mpr c4)]
        by_cases c5 : 0 ≤ a4 ∧ a4 ≤ 99
        · rw [if_pos (isIn_iff.mpr c5), if_pos (hap.mpr ⟨c5, c4⟩)]
          unfold F_X4_isThere F_X4_count
          by_cases c6 : m = 0 ∨ τ 0 23 = 8
          · refine Or.inl ⟨2, 3, ?_, ?_, rfl, by decide, by decide⟩
            · unfold B_X10_add_135 B_X10_add_136
              by_cases c7 : m = 0
              · rw [if_pos (show σ 24 0 ≤ 0 by omega), if_neg (by simp), if_neg (by simp)]
              · rw [if_neg (show ¬ σ 24 0 ≤ 0 by omega), if_pos rfl, if_pos (show 8 ≤ σ 24 1 by omega), if_neg (by simp)]
            · by_cases c7 : m = 0
              · rw [if_pos c7, hthrow 3 (by omega)]
              · rw [if_neg c7, if_pos (by omega), hthrow 3 (by omega)]
          · obtain ⟨n, hn9⟩ : ∃ n : Nat, τ 0 23 = n := ⟨(τ 0 23).toNat, by omega⟩
            have hpush := RM.push (n := n) (p0 := a1) (p1 := a2) (p2 := a3) (r := a4) hM hn9 (by omega) (by omega) c5 (by rw [hm]; exact c3)
            refine Or.inr ⟨n, cA σ n a1 a2 a3 a4, mA τ n a1 a2 a3 a4, ⟨?_, ?_, ?_⟩, ?_, ?_, ?_, hpush, ?_, ?_⟩
            · rw [if_neg (show ¬ σ 24 0 ≤ 0 by omega), if_pos rfl, if_neg (show ¬ 8 ≤ σ 24 1 by omega)]
              unfold B_X10_add_136
              rw [if_pos rfl, bnd_eq, append_c (n := n) (by omega) (by omega)]; rfl
            · rw [if_neg (by omega), if_neg (by omega), addM_c (n := n) hn9 (by omega)]
            · unfold mA; simp (disch := omega) only [bnd_eq, bind_some', wrap_id, rdn_ok, wrn_ok, wbn_ok, rdD_ok, rdD_out, wrD_ok, wrD_out, up2_at, up2_row, up2_idx, iter_s, itp, itn, isIn_iff, in_iff, ↓reduceIte, reduceCtorEq]
            · intro k hk
              simp only [List.mem_cons, List.not_mem_nil, or_false, not_or] at hk
              unfold cA; rw [forget_eq]; funext i
              simp (disch := omega) only [bnd_eq, bind_some', wrap_id, rdn_ok, wrn_ok, wbn_ok, rdD_ok, rdD_out, wrD_ok, wrD_out, up2_at, up2_row, up2_idx, iter_s, itp, itn, isIn_iff, in_iff, ↓reduceIte, reduceCtorEq]
            · intro k hk
              simp only [List.mem_cons, List.not_mem_nil, or_false, not_or] at hk
              unfold mA; funext i
              simp (disch := omega) only [bnd_eq, bind_some', wrap_id, rdn_ok, wrn_ok, wbn_ok, rdD_ok, rdD_out, wrD_ok, wrD_out, up2_at, up2_row, up2_idx, iter_s, itp, itn, isIn_iff, in_iff, ↓reduceIte, reduceCtorEq]
            · intro i hi
              simp only [List.mem_cons, List.not_mem_nil, or_false, not_or] at hi
              unfold mA
              simp (disch := omega) only [bnd_eq, bind_some', wrap_id, rdn_ok, wrn_ok, wbn_ok, rdD_ok, rdD_out, wrD_ok, wrD_out, up2_at, up2_row, up2_idx, iter_s, itp, itn, isIn_iff, in_iff, ↓reduceIte, reduceCtorEq]
            · unfold NoEng cA mA
              rw [forget_eq]
              refine ⟨?_, ?_, ?_, ?_, ?_, ?_⟩ <;> simp (disch := omega) only [bnd_eq, bind_some', wrap_id, rdn_ok, wrn_ok, wbn_ok, rdD_ok, rdD_out, wrD_ok, wrD_out, up2_at, up2_row, up2_idx, iter_s, itp, itn, isIn_iff, in_iff, ↓reduceIte, reduceCtorEq]
            · refine ⟨by omega, ?_⟩
              unfold mA; simp (disch := omega) only [up2_at, up2_row, up2_idx]; omega
        · have hy : ¬ y = true := fun q => c5 (hap.mp q).1
          refine Or.inl ⟨1, 2, ?_, ?_, rfl, by decide, by decide⟩
          · rw [if_neg (fun q => c5 (isIn_iff.mp q))]
          · rw [if_neg hy, hthrow 2 (by omega)]
      · have hy : ¬ y = true := fun q => c4 (hap.mp q).2
        refine Or.inl ⟨1, 2, ?_, ?_, rfl, by decide, by decide⟩
        · rw [if_neg (fun q => c4 (hba.mp q))]
        · rw [if_neg hy, hthrow 2 (by omega)]
    · have hy : ¬ y = true := fun q => c3 (fun j j1 j2 => ((g4.mp q).2 j j1 j2).1)
      refine Or.inl ⟨1, 2, ?_, ?_, rfl, by decide, by decide⟩
      · rw [for_no (f := fun a : Int => L_X10_add_21 a1 a2 a3 m σ a) (n := 3) (r := .inr (.inr 1, σ)) (P := fun i => okA τ m i (F_X10_pick i a1 a2 a3)) 4 0 (by omega) (by omega) (fun j j1 j2 j3 => (hC j j1 j2).1 j3) (fun j j1 j2 j3 => (hC j j1 j2).2 j3) c3]; rfl
      · rw [if_neg hy, hthrow 2 (by omega)]
  · have hx : ¬ x = true := fun q => c2 (fun j j1 j2 => g2.mp q j j1 (by omega) j2)
    refine Or.inl ⟨0, 1, ?_, ?_, rfl, by decide, by decide⟩
    · rw [demP_no h ⟨by omega, by omega⟩ c2]; rfl
    · rw [if_neg hx, hthrow 1 (by omega)]

set_option maxHeartbeats 4000000 in
theorem op_split2 {σ τ : Sg} (a1 a2 : Int) (hF : WFK (τ 1) (τ 2) (τ 3)) (h : RP σ τ) (hM : RM σ τ) : Thr [(0, 1), (2, 2)] (F_X10_split a1 a2 σ) (F_X11_split a1 a2 τ) σ τ ∨ ∃ v σ' τ', Okk (F_X10_split a1 a2 σ) (F_X11_split a1 a2 τ) v σ' τ' ∧ (∀ k, k ∉ [24, 26, 33, 43, 49] → σ' k = σ k) ∧ (∀ k, k ∉ [0, 20, 21, 22, 23, 24, 25] → τ' k = τ k) ∧ (∀ i, i ∉ [0, 23, 54] → τ' 0 i = τ 0 i) ∧ RM σ' τ' ∧ NoEng σ σ' τ' ∧ v = τ' 0 23 := by
  have hW := h.2.1
  obtain ⟨h1, h2, h3, h4, h5⟩ := id hM
  obtain ⟨w1, w2, w3, w4, w5⟩ := id h4
  have hthrow : ∀ (x : Int) (t : Int), ¬ t = 0 → B_X11_split_118 a1 a2 x t τ = some (0, up2 τ 0 0 t) := fun x t ht => by
    unfold B_X11_split_118; rw [bnd_eq, refused_n ht]; rfl
  unfold F_X10_split F_X11_split B_X10_split_26 B_X11_split_26
  have bad : Thr [(0, 1), (2, 2)] (B_X10_split_27 a1 a2 false σ) (B_X11_split_27 a1 a2 false τ) σ τ := by
    refine ⟨0, 1, ?_, ?_, rfl, by decide, by decide⟩
    · unfold B_X10_split_27; rw [if_neg (by simp)]
    · unfold B_X11_split_27 B_X11_split_46 B_X11_split_96 B_X11_split_97
      rw [if_neg (by simp), if_neg (by simp), if_neg (by simp), hthrow 0 1 (by omega)]
  by_cases c1 : 0 ≤ a1 ∧ a1 < τ 0 23
  · rw [if_pos ((has4 hM).mpr c1), if_pos ((isCase_iff h4).mpr c1)]
    by_cases c2 : 0 ≤ a2 ∧ a2 < τ 0 21
    · rw [if_pos ((hasCol4 hM).mpr c2), if_pos ((inCol h4).mpr c2)]
      obtain ⟨a, ha⟩ : ∃ a : Nat, a1 = a := ⟨a1.toNat, by omega⟩
      obtain ⟨k, hk⟩ : ∃ k : Nat, a2 = k := ⟨a2.toNat, by omega⟩
      subst ha; subst hk
      have hpf := ((w5 a c1.2).1 k (by omega)).1 c2.2
      obtain ⟨p, hp⟩ : ∃ p : Nat, cpt τ a k = p := ⟨(cpt τ a k).toNat, by have := hpf.1; omega⟩
      have hpn : (p : Int) < τ 0 9 := by have := hpf.2.1; omega
      obtain ⟨n, hn⟩ : ∃ n : Nat, τ 0 23 = n := ⟨(τ 0 23).toNat, by omega⟩
      have hw9 := hW.2.1
      have r16 := (hW.2.2 p hpn).2.2.2.2.2.2.2.2.1
      unfold B_X10_split_27 B_X11_split_27
      rw [if_pos rfl, if_pos rfl, bnd_eq, get4 hM c1 (by omega), get4 hM c1 (by omega), show ((a : Int)).toNat = a by omega, show ((k : Int)).toNat = k by omega, (h5 a c1.2).1 k (by omega), show ((4 : Int)).toNat = 4 from rfl, (h5 a c1.2).2.2.1, hp]
      rw [wrap_id (z := 3 * (a : Int)) (by omega) (by omega), wrap_id (by omega) (by omega), rdn_ok (by omega) (by omega), Option.bind_some, show (3 * (a : Int) + k).toNat = 3 * a + k by omega]
      have hp' : τ 20 (3 * a + k) = p := hp
      rw [hp']
      unfold B_X11_split_46
      rw [if_pos rfl, rdn_ok (by omega) (by omega), Option.bind_some, show ((a : Int)).toNat = a by omega, rdn_ok (by omega) (by omega), Option.bind_some, show ((p : Int)).toNat = p by omega, rdn_ok (by omega) (by omega), Option.bind_some, show ((p : Int)).toNat = p by omega]
      have b109 : B_X10_split_109 a k p false σ = some (.inr 2, σ) := by unfold B_X10_split_109; rw [if_neg (by simp)]
      have b89 : B_X10_split_89 a k p false σ = some (.inr 2, σ) := by unfold B_X10_split_89; rw [if_neg (by simp)]
      have b58 : B_X10_split_58 a k p false σ = some (.inr 2, σ) := by unfold B_X10_split_58; rw [if_neg (by simp)]
      have m96 : B_X11_split_96 a k true p τ = some (0, up2 τ 0 0 2) := by
        unfold B_X11_split_96 B_X11_split_97
        rw [if_pos rfl, if_neg (by simp), hthrow p 2 (by omega)]
      have bad2 : ∀ f, f = some (.inr 2, σ) → Thr [(0, 1), (2, 2)] f (B_X11_split_96 a k true p τ) σ τ := fun f hf => ⟨2, 2, hf, m96, rfl, by decide, by decide⟩
      by_cases g1 : τ 22 a = -1
      · rw [if_pos g1, if_pos g1]
        unfold B_X10_split_58 B_X10_split_88
        rw [if_pos rfl, sortOf5 h hpn]
        by_cases g2 : τ 8 p = 4
        · rw [if_pos (show sortOf τ p = 4 by unfold sortOf; rw [if_neg (by omega)]; exact g2), if_pos g2]
          by_cases g3 : τ 16 p = 0
          · rw [if_neg (fun q => by have := (hasView5 h hpn).mp q; omega), if_pos g3]
            unfold B_X10_split_89 F_X4_count
            rw [if_pos rfl, h2, hn]
            by_cases g4 : 8 ≤ (n : Int)
            · rw [if_pos g4, if_pos g4, b109]
              exact Or.inl (bad2 _ rfl)
            · rw [if_neg g4, if_neg g4]
              have hsp := RM.split (k := k) hW hM hn (by omega) (by omega) (by omega) c2.2 g1 hp g2
              have q3 : (F_X10_forgetEngines σ) 24 1 = n := by rw [forget_eq, up2_row (by omega), up2_row (by omega), up2_row (by omega)]; omega
              have hRP : RP (dbC (F_X10_forgetEngines σ) a n) τ := RP.fr h hF (fun r r1 r2 => by
                funext i; rw [dbC_row (by omega), if_neg (by omega), forget_eq, up2_row (by omega), up2_row (by omega), up2_row (by omega)]) (fun r _ _ => rfl) rfl
              have hRP2 : RP (up2 (dbC (F_X10_forgetEngines σ) a n) 26 (8 * a + k) (prt τ p 0)) τ := RP.fr hRP hF (fun r r1 r2 => by
                funext i; rw [up2_row (by omega)]) (fun r _ _ => rfl) rfl
              have d24 : dbC (F_X10_forgetEngines σ) a n 24 1 = (n : Int) + 1 := by rw [dbC_row (by omega), if_pos ⟨rfl, rfl⟩]
              refine Or.inr ⟨(n : Int) + 1, cS σ a n k (prt τ p 0) (prt τ p 1), mS τ a n k (prt τ p 0) (prt τ p 1), ⟨?_, ?_, ?_⟩, ?_, ?_, ?_, hsp, ?_, ?_⟩
              · unfold B_X10_split_109
                have e0 := partOf5 (k := 0) hRP hpn (by omega)
                have e1 := partOf5 (k := 1) hRP2 hpn (by omega)
                have e0' : F_X5_partOf p 0 (dbC (F_X10_forgetEngines σ) a n) = prt τ p 0 := e0
                have e1' : F_X5_partOf p 1 (up2 (dbC (F_X10_forgetEngines σ) a n) 26 (8 * a + k) (prt τ p 0)) = prt τ p 1 := e1
                have s1 : F_X4_set a k (prt τ p 0) (dbC (F_X10_forgetEngines σ) a n) = up2 (dbC (F_X10_forgetEngines σ) a n) 26 (8 * a + k) (prt τ p 0) := by
                  rw [set4 ⟨by omega, by omega⟩ (by omega) (by omega), show ((a : Int) * 8 + k).toNat = 8 * a + k by omega]
                have s2 : F_X4_set ((a : Int) + 1) k (prt τ p 1) (up2 (dbC (F_X10_forgetEngines σ) a n) 26 (8 * a + k) (prt τ p 0)) = up2 (up2 (dbC (F_X10_forgetEngines σ) a n) 26 (8 * a + k) (prt τ p 0)) 26 (8 * a + 8 + k) (prt τ p 1) := by
                  rw [set4 ⟨by omega, by rw [up2_row (by omega), d24]; omega⟩ (by omega) (by omega), show (((a : Int) + 1) * 8 + k).toNat = 8 * a + 8 + k by omega]
                rw [if_pos rfl, bnd_eq, doubleC q3 (by omega) (by omega), Option.bind_some, bnd_eq, e0', s1, bnd_eq, e1', wrap_id (by omega) (by omega), s2]
                show some (Sum.inl (F_X4_count (cS σ a n k (prt τ p 0) (prt τ p 1))), cS σ a n k (prt τ p 0) (prt τ p 1)) = _
                unfold F_X4_count
                rw [cS_24, if_pos rfl]
              · unfold B_X11_split_97 B_X11_split_118
                have s0 : (up2 τ 0 0 0) 0 23 = n := by rw [up2_idx (by omega)]; exact hn
                have r11 : ∀ i, mpA (opM (up2 τ 0 0 0) a n) (a + 1) a 11 i = τ 11 i := fun i => by
                  have := congrFun (mS_row (τ := τ) (a := a) (n := n) (k := k) (r := 11) (lo := 0) (hi := 0) (by decide)) i
                  unfold mS at this
                  rw [up2_row (by omega), up2_row (by omega), up2_row (by omega), up2_row (by omega)] at this
                  exact this
                rw [if_pos rfl, if_pos rfl, bnd_eq, refused_0, if_neg (by simp), openM s0 (by omega) (by omega), Option.bind_some, wrap_id (z := (a : Int) + 1) (by omega) (by omega), show ((a : Int) + 1) = ((a + 1 : Nat) : Int) by omega, copyM ⟨by omega, by omega⟩ (by omega), Option.bind_some]
                rw [wrn_ok (by omega) (by omega), Option.bind_some, wrn_ok (by omega) (by omega), Option.bind_some, wrap_id (z := 3 * (p : Int)) (by omega) (by omega), rdn_ok (by omega) (by omega), Option.bind_some, wrap_id (z := 3 * (a : Int)) (by omega) (by omega), wrap_id (by omega) (by omega), wrn_ok (by omega) (by omega), Option.bind_some, wrap_id (by omega) (by omega), rdn_ok (by omega) (by omega), Option.bind_some, wrap_id (z := 3 * (a : Int) + 3) (by omega) (by omega), wrap_id (by omega) (by omega), wrn_ok (by omega) (by omega), Option.bind_some]
                rw [show ((a : Int)).toNat = a by omega, show (((a + 1 : Nat) : Int)).toNat = a + 1 by omega, show (3 * (a : Int) + k).toNat = 3 * a + k by omega, show (3 * (a : Int) + 3 + k).toNat = 3 * a + 3 + k by omega, show (3 * (p : Int)).toNat = 3 * p by omega, show (3 * (p : Int) + 1).toNat = 3 * p + 1 by omega]
                have v0 : up2 (up2 (mpA (opM (up2 τ 0 0 0) a n) (a + 1) a) 25 a 0) 25 (a + 1) 0 11 (3 * p) = prt τ p 0 := by
                  rw [up2_row (by omega), up2_row (by omega), r11]; rfl
                have v1 : ∀ x, up2 (up2 (up2 (mpA (opM (up2 τ 0 0 0) a n) (a + 1) a) 25 a 0) 25 (a + 1) 0) 20 (3 * a + k) x 11 (3 * p + 1) = prt τ p 1 := fun x => by
                  rw [up2_row (by omega), up2_row (by omega), up2_row (by omega), r11]; rfl
                rw [v0, v1]
                show some (mS τ a n k (prt τ p 0) (prt τ p 1) 0 23, mS τ a n k (prt τ p 0) (prt τ p 1)) = _
                rw [mS_0, if_neg (by omega), if_pos rfl]
              · rw [mS_0, if_neg (by omega), if_neg (by omega), if_pos rfl]
              · intro r hr; funext i; exact cS_row hr
              · intro r hr; exact mS_row hr
              · intro i hi
                simp only [List.mem_cons, List.not_mem_nil, or_false, not_or] at hi
                rw [mS_0, if_neg (by omega), if_neg (by omega), if_neg (by omega)]
              · obtain ⟨x1, x2, x3, x4, x5⟩ := cS_eng (σ := σ) (a := a) (n := n) (k := k) (lo := prt τ p 0) (hi := prt τ p 1)
                exact ⟨x1, x2, x3, by rw [mS_0, if_pos rfl], x4, x5⟩
              · rw [mS_0, if_neg (by omega), if_pos rfl]
          · rw [if_pos ((hasView5 h hpn).mpr (by omega)), if_neg g3, b89]
            exact Or.inl (bad2 _ rfl)
        · rw [if_neg (show ¬ sortOf τ p = 4 by unfold sortOf; split <;> omega), if_neg g2, b89]
          exact Or.inl (bad2 _ rfl)
      · rw [if_neg g1, if_neg g1, b58]
        exact Or.inl (bad2 _ rfl)
    · rw [if_neg (fun q => c2 ((hasCol4 hM).mp q)), if_neg (fun q => c2 ((inCol h4).mp q))]
      exact Or.inl bad
  · rw [if_neg (fun q => c1 ((has4 hM).mp q)), if_neg (fun q => c1 ((isCase_iff h4).mp q))]
    exact Or.inl bad

set_option maxHeartbeats 4000000 in
theorem op_merge2 {σ τ : Sg} (a1 a2 : Int) (hF : WFK (τ 1) (τ 2) (τ 3)) (h : RP σ τ) (hM : RM σ τ) : Thr [(0, 1), (2, 2)] (F_X10_merge a1 a2 σ) (F_X11_merge a1 a2 τ) σ τ ∨ ∃ v σ' τ', Okk (F_X10_merge a1 a2 σ) (F_X11_merge a1 a2 τ) v σ' τ' ∧ (∀ r, (r < 10 ∨ 21 < r) → r ∉ [24, 26, 33, 43, 49] → σ' r = σ r) ∧ (∀ r, r ∉ [0, 8, 9, 10, 11, 12, 13, 14, 15, 16, 17, 20, 21, 22, 23, 24, 25] → τ' r = τ r) ∧ (∀ i, i ∉ [0, 9, 23, 54] → τ' 0 i = τ 0 i) ∧ ExtP τ τ' ∧ RP σ' τ' ∧ RM σ' τ' ∧ NoEng σ σ' τ' ∧ v = τ' 0 23 ∧ τ' 0 9 = τ 0 9 + 1 := by
  have hW := h.2.1
  obtain ⟨h1, h2, h3, h4, h5⟩ := id hM
  obtain ⟨w1, w2, w3, w4, w5⟩ := id h4
  have hw9 := hW.2.1
  have hthrow : ∀ (t : Int), ¬ t = 0 → B_X11_merge_220 a1 a2 t τ = some (0, up2 τ 0 0 t) := fun t ht => by
    unfold B_X11_merge_220; rw [bnd_eq, refused_n ht]; rfl
  have hfalse : ∀ x3 : Bool, B_X11_merge_82 a1 a2 x3 false τ = if x3 = true then B_X11_merge_220 a1 a2 2 τ else B_X11_merge_220 a1 a2 1 τ := fun x3 => by
    unfold B_X11_merge_82
    have hi : L_X11_merge_87 a1 a2 τ false 0 = some (.inr false) := by
      unfold L_X11_merge_87
      by_cases c : τ 0 21 ≤ 0
      · rw [if_pos c]
      · rw [if_neg c, if_neg (by simp)]
    rw [iter_r (f := fun x : (Bool × Int) => L_X11_merge_87 a1 a2 τ x.1 x.2) hi, Option.bind_some]
    cases x3
    · rw [if_neg (by simp), if_neg (by simp)]
    · rw [if_pos rfl, if_pos rfl, if_neg (by simp)]
  unfold F_X10_merge F_X11_merge B_X10_merge_39 B_X11_merge_32 F_X4_count
  have bad : Thr [(0, 1), (2, 2)] (B_X10_merge_40 a1 a2 false σ) (B_X11_merge_33 a1 a2 false τ) σ τ := by
    refine ⟨0, 1, ?_, ?_, rfl, by decide, by decide⟩
    · unfold B_X10_merge_40; rw [if_neg (by simp)]
    · unfold B_X11_merge_33 B_X11_merge_81
      rw [if_neg (by simp), hfalse, if_neg (by simp), hthrow 1 (by omega)]
  rw [h2, wrap_id (z := τ 0 23 - 1) (by omega) (by omega), wrap_id (z := τ 0 23 - 2) (by omega) (by omega)]
  by_cases c1 : 0 ≤ a1 ∧ a1 + 1 < τ 0 23
  · rw [if_pos ((has4 hM).mpr ⟨c1.1, by omega⟩), if_neg (by omega), if_pos (in_iff.mpr ⟨c1.1, by omega⟩)]
    by_cases c2 : 0 ≤ a2 ∧ a2 < τ 0 21
    · rw [if_pos ((hasCol4 hM).mpr c2), if_pos ((inCol h4).mpr c2)]
      obtain ⟨a, ha⟩ : ∃ a : Nat, a1 = a := ⟨a1.toNat, by omega⟩
      obtain ⟨k, hk⟩ : ∃ k : Nat, a2 = k := ⟨a2.toNat, by omega⟩
      subst ha; subst hk
      have p1 := ((w5 a (by omega)).1 k (by omega)).1 c2.2
      have p2 := ((w5 (a + 1) (by omega)).1 k (by omega)).1 c2.2
      have l1 : pl τ (cpt τ a k) := ⟨p1.1, p1.2.1⟩
      have l2 : pl τ (cpt τ (a + 1) k) := ⟨p2.1, p2.2.1⟩
      have b1 := p1.2.1
      have b2 := p2.2.1
      obtain ⟨q1, hq1⟩ : ∃ q1 : Nat, cpt τ a k = q1 := ⟨(cpt τ a k).toNat, by have := p1.1; omega⟩
      obtain ⟨q2, hq2⟩ : ∃ q2 : Nat, cpt τ (a + 1) k = q2 := ⟨(cpt τ (a + 1) k).toNat, by have := p2.1; omega⟩
      rw [hq1] at b1 l1 p1
      rw [hq2] at b2 l2 p2
      obtain ⟨n, hn⟩ : ∃ n : Nat, τ 0 23 = n := ⟨(τ 0 23).toNat, by omega⟩
      obtain ⟨y, y1, y2⟩ := alikeC (k := k) hM c1.2
      obtain ⟨z, z1, z2⟩ := mergeM (k := k) hW h4 c1.2
      have v1 := hasView5 h b1
      have v2 := hasView5 h b2
      have u1 := (hW.2.2 q1 b1).2.2.2.2.2.2.2.2.1
      have u2 := (hW.2.2 q2 b2).2.2.2.2.2.2.2.2.1
      have alt := canAlt5 h l1 l2
      -- the reference's answer
      have dcd : Decidable (alkS τ a k ∧ τ 16 q1 = 0 ∧ τ 16 q2 = 0 ∧ altS τ q1 q2 ∧ ¬ τ 0 9 = 60) := Classical.propDecidable _
      have m82 : B_X11_merge_33 a k true τ = if alkS τ a k ∧ τ 16 q1 = 0 ∧ τ 16 q2 = 0 ∧ altS τ q1 q2 ∧ ¬ τ 0 9 = 60 then B_X11_merge_220 a k 0 τ else some (0, up2 τ 0 0 2) := by
        unfold B_X11_merge_33 B_X11_merge_81
        rw [if_pos rfl, rdn_ok (by omega) (by omega), Option.bind_some, wrap_id (z := (a : Int) + 1) (by omega) (by omega), show ((a : Int)).toNat = a by omega, hfalse, if_pos rfl, hthrow 2 (by omega)]
        by_cases e1 : τ 22 a = -1
        · rw [if_pos e1, rdn_ok (by omega) (by omega), Option.bind_some, show ((a : Int) + 1).toNat = a + 1 by omega]
          by_cases e2 : τ 22 (a + 1) = -1
          · rw [if_pos e2, rdn_ok (by omega) (by omega), Option.bind_some, rdn_ok (by omega) (by omega), Option.bind_some, show ((a : Int) + 1).toNat = a + 1 by omega, show ((a : Int)).toNat = a by omega]
            by_cases e3 : τ 21 a = τ 21 (a + 1)
            · rw [if_pos e3]
              unfold B_X11_merge_82
              rw [z1, Option.bind_some, if_pos rfl, hthrow 2 (by omega)]
              have hz : z = true ↔ (alkS τ a k ∧ τ 16 q1 = 0 ∧ τ 16 q2 = 0 ∧ altS τ q1 q2 ∧ ¬ τ 0 9 = 60) := by
                rw [z2]
                constructor
                · intro g
                  have gk := g k (by omega) c2.2
                  unfold mgP at gk
                  rw [if_pos rfl, hq1, hq2] at gk
                  refine ⟨⟨fun i i3 ik => ?_, e1, e2, e3⟩, gk⟩
                  by_cases ic : (i : Int) < τ 0 21
                  · have gi := g i (by omega) ic
                    unfold mgP at gi
                    rw [if_neg (by omega)] at gi
                    exact gi
                  · rw [((w5 a (by omega)).1 i i3).2 (by omega), ((w5 (a + 1) (by omega)).1 i i3).2 (by omega)]
                · rintro ⟨⟨g1, -⟩, g2⟩ j j0 j1
                  unfold mgP
                  by_cases e : j = k
                  · rw [if_pos e, hq1, hq2]; exact g2
                  · rw [if_neg e]; exact g1 j.toNat (by omega) (by omega)
              by_cases d : z = true
              · rw [if_pos d, if_pos (hz.mp d)]
              · rw [if_neg d, if_neg (fun g => d (hz.mpr g))]
            · rw [if_neg e3, if_neg (fun g => e3 g.1.2.2.2)]
          · rw [if_neg e2, if_neg (fun g => e2 g.1.2.2.1)]
        · rw [if_neg e1, if_neg (fun g => e1 g.1.2.1)]
      have m82p : (alkS τ a k ∧ τ 16 q1 = 0 ∧ τ 16 q2 = 0 ∧ altS τ q1 q2 ∧ ¬ τ 0 9 = 60) → B_X11_merge_33 a k true τ = B_X11_merge_220 a k 0 τ := fun c => by rw [m82, if_pos c]
      have m82n : ¬ (alkS τ a k ∧ τ 16 q1 = 0 ∧ τ 16 q2 = 0 ∧ altS τ q1 q2 ∧ ¬ τ 0 9 = 60) → B_X11_merge_33 a k true τ = some (0, up2 τ 0 0 2) := fun c => by rw [m82, if_neg c]
      have b111 : B_X10_merge_111 a k ((a : Int) + 1) q1 q2 false σ = some (.inr 2, σ) := by unfold B_X10_merge_111; rw [if_neg (by simp)]
      have no : ∀ f, f = some (.inr 2, σ) → Thr [(0, 1), (2, 2)] f (some (0, up2 τ 0 0 2)) σ τ := fun f hf => ⟨2, 2, hf, rfl, rfl, by decide, by decide⟩
      unfold B_X10_merge_40 B_X10_merge_110
      rw [if_pos rfl, bnd_eq, wrap_id (z := (a : Int) + 1) (by omega) (by omega), bnd_eq, get4 hM ⟨c1.1, by omega⟩ (by omega), bnd_eq, get4 hM ⟨by omega, by omega⟩ (by omega), show ((a : Int)).toNat = a by omega, show ((a : Int) + 1).toNat = a + 1 by omega, show ((k : Int)).toNat = k by omega, (h5 a (by omega)).1 k (by omega), (h5 (a + 1) (by omega)).1 k (by omega), hq1, hq2, y1, Option.bind_some, b111]
      by_cases d1 : alkS τ a k
      · rw [if_pos (y2.mpr d1)]
        by_cases d2 : τ 16 q1 = 0
        · rw [if_neg (fun q => by have := v1.mp q; omega)]
          by_cases d3 : τ 16 q2 = 0
          · rw [if_neg (fun q => by have := v2.mp q; omega)]
            unfold B_X10_merge_111
            rw [if_pos rfl]
            by_cases d4 : altS τ q1 q2
            · rw [if_pos (alt.mpr d4), bnd_eq, kindBoth5 h l1 l2]
              by_cases d5 : τ 0 9 = 60
              · rw [full_c h d5, m82n (fun g => g.2.2.2.2 d5)]
                exact Or.inl (no _ rfl)
              · rw [m82p ⟨d1, d2, d3, d4, d5⟩]
                obtain ⟨m, hm⟩ : ∃ m : Nat, τ 0 9 = m := ⟨(τ 0 9).toNat, by omega⟩
                obtain ⟨σ1, τ1, e1, e2, e3, f1, f2, f3, f4, f5⟩ := push_alt h hF hm (by omega) l1 l2 d4
                rw [e1]
                have hr0 : ∀ r, r ≠ 0 → ∀ i, (up2 τ 0 0 0) r i = τ r i := fun r hr i => up2_row hr
                have k1 : τ1 0 21 = τ 0 21 := f3 21 (by omega) (by omega)
                have k2 : τ1 0 23 = τ 0 23 := f3 23 (by omega) (by omega)
                have hM1 : RM σ1 τ1 := hM.mono hW (ExtK.same (fun r r1 r2 => f2 r (by simp; omega))) f4 (fun r r1 r2 => f1 r (by omega)) (fun r r1 r2 => f2 r (by simp; omega)) k1 k2
                -- the new pattern fits
                obtain ⟨x1, x2⟩ := alt_kind hW hm (by omega) l1 l2 e2
                have hx : fitsK τ1 (m : Int) (τ1 19 k) := by
                  refine ⟨by omega, by omega, ?_⟩
                  rw [show ((m : Int)).toNat = m by omega, x2, f2 19 (by decide)]
                  have g1 := p1.2.2
                  have g2 := p2.2.2
                  by_cases c : τ 12 (q1 : Int).toNat = -1
                  · rw [if_pos c]; exact g2
                  · rw [if_neg c]; exact g1
                have g22 : τ1 22 a = -1 := by rw [f2 22 (by decide)]; exact d1.2.1
                have hmg := RM.merge (a := a) (k := k) (x := m) hM1 (k2.trans hn) (by omega) (by omega) (by omega) (by omega) g22 hx
                have n24 : (F_X10_forgetEngines σ1) 24 1 = n := by rw [forget_eq, up2_row (by omega), up2_row (by omega), up2_row (by omega), f1 24 (by omega)]; omega
                have d24 : drC (F_X10_forgetEngines σ1) (a + 1) n 24 1 = (n : Int) - 1 := by rw [drC_row (by omega), if_pos ⟨rfl, rfl⟩]
                refine Or.inr ⟨(n : Int) - 1, cMg σ1 a n k m, mMg τ1 a n k m, ⟨?_, ?_, ?_⟩, ?_, ?_, ?_, ?_, ?_, hmg, ?_, ?_⟩
                · show (bnd (F_X10_forgetEngines σ1) fun q14 => (F_X4_dropCase ((a : Int) + 1) q14).bind fun q16 => bnd (F_X4_set a k m q16) fun q18 => bnd (F_X4_set a 7 0 q18) fun q20 => some (Sum.inl (F_X4_count q20), q20)) = _
                  have s1 : F_X4_set a k m (drC (F_X10_forgetEngines σ1) (a + 1) n) = up2 (drC (F_X10_forgetEngines σ1) (a + 1) n) 26 (8 * a + k) m := by
                    rw [set4 ⟨by omega, by omega⟩ (by omega) (by omega), show ((a : Int) * 8 + k).toNat = 8 * a + k by omega]
                  have s2 : F_X4_set a 7 0 (up2 (drC (F_X10_forgetEngines σ1) (a + 1) n) 26 (8 * a + k) m) = cMg σ1 a n k m := by
                    rw [set4 ⟨by omega, by rw [up2_row (by omega), d24]; omega⟩ (by omega) (by omega), show ((a : Int) * 8 + 7).toNat = 8 * a + 7 by omega]; rfl
                  rw [bnd_eq, show ((a : Int) + 1) = ((a + 1 : Nat) : Int) by omega, dropC n24 (by omega) (by omega), Option.bind_some, bnd_eq, s1, bnd_eq, s2]
                  unfold F_X4_count
                  rw [cMg_24, if_pos rfl]
                · unfold B_X11_merge_220
                  have e20 : ∀ i, (up2 τ 0 0 0) 20 i = τ 20 i := fun i => up2_row (by omega)
                  have c20 : τ 20 (3 * a + k) = q1 := hq1
                  have c21 : τ 20 (3 * a + 3 + k) = q2 := hq2
                  rw [bnd_eq, refused_0, if_neg (by simp)]
                  dsimp only
                  rw [wrap_id (z := 3 * (a : Int)) (by omega) (by omega), wrap_id (z := 3 * (a : Int) + k) (by omega) (by omega), rdn_ok (by omega) (by omega), Option.bind_some, wrap_id (z := 3 * (a : Int) + 3) (by omega) (by omega), wrap_id (z := 3 * (a : Int) + 3 + k) (by omega) (by omega), rdn_ok (by omega) (by omega), Option.bind_some, e20, e20, show (3 * (a : Int) + k).toNat = 3 * a + k by omega, show (3 * (a : Int) + 3 + k).toNat = 3 * a + 3 + k by omega, c20, c21, e2, Option.bind_some]
                  rw [wrn_ok (by omega) (by omega), Option.bind_some, wrn_ok (by omega) (by omega), Option.bind_some, bnd_eq, wrap_id (by omega) (by omega), show (3 * (a : Int) + k).toNat = 3 * a + k by omega, show ((a : Int)).toNat = a by omega]
                  have hs : (up2 (up2 τ1 20 (3 * a + k) m) 25 a 0) 0 23 = n := by rw [up2_row (by omega), up2_row (by omega)]; omega
                  have hd : smD (up2 (up2 τ1 20 (3 * a + k) m) 25 a 0) (a + 1) (n - 1) 0 23 = n := by
                    unfold smD; rw [if_neg (by omega), if_neg (by omega)]; exact hs
                  rw [show ((a : Int) + 1) = ((a + 1 : Nat) : Int) by omega, downM hs (by omega) (by omega), Option.bind_some, bnd_eq, hd, wrap_id (by omega) (by omega), bnd_eq]
                  show some (mMg τ1 a n k m 0 23, mMg τ1 a n k m) = _
                  rw [mMg_0, if_neg (by omega), if_pos rfl]
                · rw [mMg_0, if_neg (by omega), if_neg (by omega)]; exact e3
                · intro r r1 r2; funext i; rw [cMg_row r2, f1 r r1]
                · intro r hr
                  have hr' := hr
                  simp only [List.mem_cons, List.not_mem_nil, or_false, not_or] at hr'
                  rw [mMg_row (by simp only [List.mem_cons, List.not_mem_nil, or_false, not_or]; omega), f2 r (by simp only [List.mem_cons, List.not_mem_nil, or_false, not_or]; omega)]
                · intro i hi
                  simp only [List.mem_cons, List.not_mem_nil, or_false, not_or] at hi
                  rw [mMg_0, if_neg (by omega), if_neg (by omega), f3 i (by omega) (by omega)]
                · have hX : ExtP τ1 (mMg τ1 a n k m) := ExtP.same (by rw [mMg_0, if_neg (by omega), if_neg (by omega)]) (fun r r1 r2 => mMg_row (by simp only [List.mem_cons, List.not_mem_nil, or_false, not_or]; omega))
                  exact f4.trans hX
                · refine RP.fr f5 (by rw [f2 1 (by decide), f2 2 (by decide), f2 3 (by decide)]; exact hF) (fun r r1 r2 => ?_) (fun r r1 r2 => mMg_row (by simp only [List.mem_cons, List.not_mem_nil, or_false, not_or]; omega)) (by rw [mMg_0, if_neg (by omega), if_neg (by omega)])
                  funext i; exact cMg_row (by simp only [List.mem_cons, List.not_mem_nil, or_false, not_or]; omega)
                · obtain ⟨z1, z2, z3, z4, z5⟩ := cMg_eng (σ := σ1) (a := a) (n := n) (k := k) (x := m)
                  exact ⟨z1, z2, z3, by rw [mMg_0, if_pos rfl], by rw [z4, f1 43 (by omega)], by rw [z5, f1 49 (by omega)]⟩
                · refine ⟨by rw [mMg_0, if_neg (by omega), if_pos rfl], ?_⟩
                  rw [mMg_0, if_neg (by omega), if_neg (by omega), x1]; omega
            · rw [if_neg (fun q => d4 (alt.mp q)), m82n (fun g => d4 g.2.2.2.1)]
              exact Or.inl (no _ rfl)
          · rw [if_pos (v2.mpr (by omega)), m82n (fun g => d3 g.2.2.1)]
            exact Or.inl (no _ rfl)
        · rw [if_pos (v1.mpr (by omega)), m82n (fun g => d2 g.2.1)]
          exact Or.inl (no _ rfl)
      · rw [if_neg (fun q => d1 (y2.mp q)), m82n (fun g => d1 g.1)]
        exact Or.inl (no _ rfl)
    · rw [if_neg (fun q => c2 ((hasCol4 hM).mp q)), if_neg (fun q => c2 ((inCol h4).mp q))]
      exact Or.inl bad
  · have hin : ¬ F_X11_in a1 0 (τ 0 23 - 2) = true := fun q => c1 (by have := in_iff.mp q; omega)
    rw [if_neg (c := F_X11_in a1 0 (τ 0 23 - 2) = true) hin]
    by_cases g : 0 ≤ a1 ∧ a1 < τ 0 23
    · rw [if_pos ((has4 hM).mpr g), if_pos (by omega)]
      exact Or.inl bad
    · rw [if_neg (fun q => g ((has4 hM).mp q))]
      exact Or.inl bad

