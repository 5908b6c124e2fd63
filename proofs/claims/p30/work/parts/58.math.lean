/-! patterns: the reference's one more -/
theorem jor_zero {x : Int} (h : inR x) : jor x 0 = x := by
  unfold jor
  rw [i32_zero, Int32.or_zero, i32_ofInt_toInt h]
theorem jor_in (x y : Int) : inR (jor x y) := by unfold jor; exact i32_toInt_in _
/-- while the parts are laid: what changes -/
def MP (t s : Sg) (n : Nat) (nm dp : Int) (hv br : Prop) : Prop :=
  (∀ r, r ∉ [11, 13, 15, 16, 17] → s r = t r) ∧ (∀ r ∈ [13, 15, 16, 17], ∀ i, ¬ i = n → s r i = t r i) ∧
  s 15 n = nm ∧ s 13 n = dp ∧ (s 16 n = 0 ∨ s 16 n = 1) ∧ (s 16 n = 1 ↔ hv) ∧ (s 17 n = 0 ∨ s 17 n = 1) ∧ (s 17 n = 1 ↔ br)
def hvo (τ : Sg) (p : Int) : Prop := ¬ p = -1 ∧ τ 16 p.toNat = 1
def bro (τ : Sg) (p : Int) : Prop := p = -1 ∨ τ 17 p.toNat = 1
theorem lay1 {t s : Sg} {n : Nat} {nm dp p0 p1 p2 : Int} {i : Nat} {hv br : Prop} (hn : n < 60) (hi : i < 3) (h : MP t s n nm dp hv br) (hp : okp n (F_X10_pick i p0 p1 p2)) (hnm : inR nm)
    (hb : ∀ r ∈ [16, 17], ∀ j : Nat, j < n → t r j = 0 ∨ t r j = 1) (hd : 0 ≤ dp) (hd2 : ∀ j : Nat, j < n → 0 ≤ t 13 j) :
    ∃ s', L_X11_pattern_119 p0 p1 p2 n i s = some (.inl ((i : Int) + 1, s')) ∧ MP t s' n (jor nm (nmo t (F_X10_pick i p0 p1 p2))) (max dp (dpo t (F_X10_pick i p0 p1 p2))) (hv ∨ hvo t (F_X10_pick i p0 p1 p2)) (br ∧ bro t (F_X10_pick i p0 p1 p2)) ∧ (∀ j, ¬ j = 3 * n + i → s' 11 j = s 11 j) ∧ s' 11 (3 * n + i) = F_X10_pick i p0 p1 p2 := by
  obtain ⟨m1, m2, m3, m4, m5, m6, m7, m8⟩ := h
  have hix : ((3 * (n : Int)) + (i : Int)).toNat = 3 * n + i := by omega
  unfold L_X11_pattern_119
  rw [if_neg (by omega), bnd_eq, qick]
  generalize F_X10_pick i p0 p1 p2 = p at *
  rw [wrap_id (z := 3 * (n : Int)) (by omega) (by omega), wrap_id (by omega) (by omega), wrn_ok (by omega) (by omega), Option.bind_some, hix]
  by_cases hp1 : p = -1
  · subst hp1
    rw [if_pos rfl]
    unfold B_X11_pattern_280
    rw [wrap_id (by omega) (by omega)]
    refine ⟨_, rfl, ⟨?_, ?_, ?_, ?_, ?_, ?_, ?_, ?_⟩, ?_, ?_⟩
    · intro r hr
      rw [← m1 r hr]
      simp only [List.mem_cons, List.not_mem_nil, or_false, not_or] at hr
      funext j; simp (disch := omega) only [bnd_eq, bind_some', wrap_id, rdn_ok, wrn_ok, wbn_ok, rdD_ok, rdD_out, wrD_ok, wrD_out, up2_at, up2_row, up2_idx, iter_s, itp, itn, isIn_iff, in_iff, ↓reduceIte, reduceCtorEq]
    · intro r hr j hj
      rw [← m2 r hr j hj]
      simp only [List.mem_cons, List.not_mem_nil, or_false] at hr
      simp (disch := omega) only [bnd_eq, bind_some', wrap_id, rdn_ok, wrn_ok, wbn_ok, rdD_ok, rdD_out, wrD_ok, wrD_out, up2_at, up2_row, up2_idx, iter_s, itp, itn, isIn_iff, in_iff, ↓reduceIte, reduceCtorEq]
    · simp (disch := omega) only [bnd_eq, bind_some', wrap_id, rdn_ok, wrn_ok, wbn_ok, rdD_ok, rdD_out, wrD_ok, wrD_out, up2_at, up2_row, up2_idx, iter_s, itp, itn, isIn_iff, in_iff, ↓reduceIte, reduceCtorEq]
      unfold nmo; rw [if_pos (by omega), jor_zero hnm]; exact m3
    · simp (disch := omega) only [bnd_eq, bind_some', wrap_id, rdn_ok, wrn_ok, wbn_ok, rdD_ok, rdD_out, wrD_ok, wrD_out, up2_at, up2_row, up2_idx, iter_s, itp, itn, isIn_iff, in_iff, ↓reduceIte, reduceCtorEq]
      unfold dpo; rw [if_pos (by omega)]; omega
    · simp (disch := omega) only [bnd_eq, bind_some', wrap_id, rdn_ok, wrn_ok, wbn_ok, rdD_ok, rdD_out, wrD_ok, wrD_out, up2_at, up2_row, up2_idx, iter_s, itp, itn, isIn_iff, in_iff, ↓reduceIte, reduceCtorEq]; exact m5
    · simp (disch := omega) only [bnd_eq, bind_some', wrap_id, rdn_ok, wrn_ok, wbn_ok, rdD_ok, rdD_out, wrD_ok, wrD_out, up2_at, up2_row, up2_idx, iter_s, itp, itn, isIn_iff, in_iff, ↓reduceIte, reduceCtorEq]; rw [m6]; unfold hvo; simp
    · simp (disch := omega) only [bnd_eq, bind_some', wrap_id, rdn_ok, wrn_ok, wbn_ok, rdD_ok, rdD_out, wrD_ok, wrD_out, up2_at, up2_row, up2_idx, iter_s, itp, itn, isIn_iff, in_iff, ↓reduceIte, reduceCtorEq]; exact m7
    · simp (disch := omega) only [bnd_eq, bind_some', wrap_id, rdn_ok, wrn_ok, wbn_ok, rdD_ok, rdD_out, wrD_ok, wrD_out, up2_at, up2_row, up2_idx, iter_s, itp, itn, isIn_iff, in_iff, ↓reduceIte, reduceCtorEq]; rw [m8]; unfold bro; simp
    · intro j hj; simp (disch := omega) only [bnd_eq, bind_some', wrap_id, rdn_ok, wrn_ok, wbn_ok, rdD_ok, rdD_out, wrD_ok, wrD_out, up2_at, up2_row, up2_idx, iter_s, itp, itn, isIn_iff, in_iff, ↓reduceIte, reduceCtorEq]
    · simp (disch := omega) only [bnd_eq, bind_some', wrap_id, rdn_ok, wrn_ok, wbn_ok, rdD_ok, rdD_out, wrD_ok, wrD_out, up2_at, up2_row, up2_idx, iter_s, itp, itn, isIn_iff, in_iff, ↓reduceIte, reduceCtorEq]
  · rw [if_neg hp1]
    have hp2 : 0 ≤ p ∧ p < n := by rcases hp with h | h <;> omega
    obtain ⟨q, rfl⟩ : ∃ q : Nat, p = q := ⟨p.toNat, by omega⟩
    have hq : q < n := by omega
    have hqn : ¬ q = n := by omega
    have e15 : s 15 q = t 15 q := m2 15 (by decide) q hqn
    have e16 : s 16 q = t 16 q := m2 16 (by decide) q hqn
    have e17 : s 17 q = t 17 q := m2 17 (by decide) q hqn
    have e13 : s 13 q = t 13 q := m2 13 (by decide) q hqn
    have b16 := hb 16 (by decide) q hq
    have b17 := hb 17 (by decide) q hq
    have d13 := hd2 q hq
    have tail : ∀ (x y : Bool) (s2 : Sg), (x = true ↔ hv ∨ t 16 q = 1) → (y = true ↔ br ∧ t 17 q = 1) → s2 = up2 (up2 s 11 (3 * n + i) q) 15 n (jor nm (t 15 q)) →
        ∃ s', B_X11_pattern_238 n i q y n (up2 s2 16 n (b2i x)) = some (.inl ((i : Int) + 1, s')) ∧ MP t s' n (jor nm (nmo t q)) (max dp (dpo t q)) (hv ∨ hvo t q) (br ∧ bro t q) ∧ (∀ j, ¬ j = 3 * n + i → s' 11 j = s 11 j) ∧ s' 11 (3 * n + i) = q := by
      intro x y s2 hx hy hs2
      subst hs2
      unfold B_X11_pattern_238
      rw [wrn_ok (by omega) (by omega), Option.bind_some, rdn_ok (by omega) (by omega), Option.bind_some, rdn_ok (by omega) (by omega), Option.bind_some]
      have hqq : (q : Int).toNat = q := by omega
      have hnn : (n : Int).toNat = n := by omega
      rw [hqq, hnn]
      generalize hS : up2 (up2 (up2 (up2 s 11 (3 * n + i) (q : Int)) 15 n (jor nm (t 15 q))) 16 n (b2i x)) 17 n (b2i y) = S
      have k1 : S 13 q = t 13 q := by rw [← hS]; simp (disch := omega) only [bnd_eq, bind_some', wrap_id, rdn_ok, wrn_ok, wbn_ok, rdD_ok, rdD_out, wrD_ok, wrD_out, up2_at, up2_row, up2_idx, iter_s, itp, itn, isIn_iff, in_iff, ↓reduceIte, reduceCtorEq]; exact e13
      have k2 : S 13 n = dp := by rw [← hS]; simp (disch := omega) only [bnd_eq, bind_some', wrap_id, rdn_ok, wrn_ok, wbn_ok, rdD_ok, rdD_out, wrD_ok, wrD_out, up2_at, up2_row, up2_idx, iter_s, itp, itn, isIn_iff, in_iff, ↓reduceIte, reduceCtorEq]; exact m4
      have fin : ∀ D : Int, D = max dp (t 13 q) → MP t (up2 S 13 n D) n (jor nm (nmo t q)) (max dp (dpo t q)) (hv ∨ hvo t q) (br ∧ bro t q) ∧ (∀ j, ¬ j = 3 * n + i → (up2 S 13 n D) 11 j = s 11 j) ∧ (up2 S 13 n D) 11 (3 * n + i) = q := by
        intro D hD
        subst hS
        refine ⟨⟨?_, ?_, ?_, ?_, ?_, ?_, ?_, ?_⟩, ?_, ?_⟩
        · intro r hr
          rw [← m1 r hr]
          simp only [List.mem_cons, List.not_mem_nil, or_false, not_or] at hr
          funext j; simp (disch := omega) only [bnd_eq, bind_some', wrap_id, rdn_ok, wrn_ok, wbn_ok, rdD_ok, rdD_out, wrD_ok, wrD_out, up2_at, up2_row, up2_idx, iter_s, itp, itn, isIn_iff, in_iff, ↓reduceIte, reduceCtorEq]
        · intro r hr j hj
          rw [← m2 r hr j hj]
          simp only [List.mem_cons, List.not_mem_nil, or_false] at hr
          simp (disch := omega) only [bnd_eq, bind_some', wrap_id, rdn_ok, wrn_ok, wbn_ok, rdD_ok, rdD_out, wrD_ok, wrD_out, up2_at, up2_row, up2_idx, iter_s, itp, itn, isIn_iff, in_iff, ↓reduceIte, reduceCtorEq]
        · simp (disch := omega) only [bnd_eq, bind_some', wrap_id, rdn_ok, wrn_ok, wbn_ok, rdD_ok, rdD_out, wrD_ok, wrD_out, up2_at, up2_row, up2_idx, iter_s, itp, itn, isIn_iff, in_iff, ↓reduceIte, reduceCtorEq]
          unfold nmo; rw [if_neg (by omega), hqq]
        · simp (disch := omega) only [bnd_eq, bind_some', wrap_id, rdn_ok, wrn_ok, wbn_ok, rdD_ok, rdD_out, wrD_ok, wrD_out, up2_at, up2_row, up2_idx, iter_s, itp, itn, isIn_iff, in_iff, ↓reduceIte, reduceCtorEq]
          unfold dpo; rw [if_neg (by omega), hqq]; exact hD
        · simp (disch := omega) only [bnd_eq, bind_some', wrap_id, rdn_ok, wrn_ok, wbn_ok, rdD_ok, rdD_out, wrD_ok, wrD_out, up2_at, up2_row, up2_idx, iter_s, itp, itn, isIn_iff, in_iff, ↓reduceIte, reduceCtorEq]; rcases b2i_01 x with h | h <;> omega
        · simp (disch := omega) only [bnd_eq, bind_some', wrap_id, rdn_ok, wrn_ok, wbn_ok, rdD_ok, rdD_out, wrD_ok, wrD_out, up2_at, up2_row, up2_idx, iter_s, itp, itn, isIn_iff, in_iff, ↓reduceIte, reduceCtorEq]
          unfold hvo
          rw [hqq]
          have : b2i x = 1 ↔ x = true := by cases x <;> simp [b2i]
          rw [this, hx]
          constructor
          · rintro (h | h)
            · exact Or.inl h
            · exact Or.inr ⟨by omega, h⟩
          · rintro (h | h)
            · exact Or.inl h
            · exact Or.inr h.2
        · simp (disch := omega) only [bnd_eq, bind_some', wrap_id, rdn_ok, wrn_ok, wbn_ok, rdD_ok, rdD_out, wrD_ok, wrD_out, up2_at, up2_row, up2_idx, iter_s, itp, itn, isIn_iff, in_iff, ↓reduceIte, reduceCtorEq]; rcases b2i_01 y with h | h <;> omega
        · simp (disch := omega) only [bnd_eq, bind_some', wrap_id, rdn_ok, wrn_ok, wbn_ok, rdD_ok, rdD_out, wrD_ok, wrD_out, up2_at, up2_row, up2_idx, iter_s, itp, itn, isIn_iff, in_iff, ↓reduceIte, reduceCtorEq]
          unfold bro
          rw [hqq]
          have : b2i y = 1 ↔ y = true := by cases y <;> simp [b2i]
          rw [this, hy]
          constructor
          · rintro ⟨h, h2⟩
            exact ⟨h, Or.inr h2⟩
          · rintro ⟨h, h2 | h2⟩
            · omega
            · exact ⟨h, h2⟩
        · intro j hj; simp (disch := omega) only [bnd_eq, bind_some', wrap_id, rdn_ok, wrn_ok, wbn_ok, rdD_ok, rdD_out, wrD_ok, wrD_out, up2_at, up2_row, up2_idx, iter_s, itp, itn, isIn_iff, in_iff, ↓reduceIte, reduceCtorEq]
        · simp (disch := omega) only [bnd_eq, bind_some', wrap_id, rdn_ok, wrn_ok, wbn_ok, rdD_ok, rdD_out, wrD_ok, wrD_out, up2_at, up2_row, up2_idx, iter_s, itp, itn, isIn_iff, in_iff, ↓reduceIte, reduceCtorEq]
      rw [k1, k2]
      by_cases c : t 13 q ≤ dp
      · rw [if_pos c, Option.bind_some]
        unfold B_X11_pattern_279 B_X11_pattern_280
        rw [wrn_ok (by omega) (by omega), Option.bind_some, wrap_id (by omega) (by omega), hnn]
        exact ⟨_, rfl, fin dp (by omega)⟩
      · rw [if_neg c, Option.bind_some]
        unfold B_X11_pattern_279 B_X11_pattern_280
        rw [wrn_ok (by omega) (by omega), Option.bind_some, wrap_id (by omega) (by omega), hnn]
        exact ⟨_, rfl, fin (t 13 q) (by omega)⟩
    have hqq : (q : Int).toNat = q := by omega
    have hnn : (n : Int).toNat = n := by omega
    rw [rdn_ok (by omega) (by omega), Option.bind_some, rdn_ok (by omega) (by omega), Option.bind_some, wrn_ok (by omega) (by omega), Option.bind_some, rdn_ok (by omega) (by omega), Option.bind_some, hqq, hnn]
    rw [show (up2 s 11 (3 * n + i) (q : Int)) 15 n = nm by (simp (disch := omega) only [bnd_eq, bind_some', wrap_id, rdn_ok, wrn_ok, wbn_ok, rdD_ok, rdD_out, wrD_ok, wrD_out, up2_at, up2_row, up2_idx, iter_s, itp, itn, isIn_iff, in_iff, ↓reduceIte, reduceCtorEq]; exact m3), show (up2 s 11 (3 * n + i) (q : Int)) 15 q = t 15 q by (simp (disch := omega) only [bnd_eq, bind_some', wrap_id, rdn_ok, wrn_ok, wbn_ok, rdD_ok, rdD_out, wrD_ok, wrD_out, up2_at, up2_row, up2_idx, iter_s, itp, itn, isIn_iff, in_iff, ↓reduceIte, reduceCtorEq]; exact e15)]
    rw [show (up2 (up2 s 11 (3 * n + i) (q : Int)) 15 n (jor nm (t 15 q))) 16 n = s 16 n by simp (disch := omega) only [bnd_eq, bind_some', wrap_id, rdn_ok, wrn_ok, wbn_ok, rdD_ok, rdD_out, wrD_ok, wrD_out, up2_at, up2_row, up2_idx, iter_s, itp, itn, isIn_iff, in_iff, ↓reduceIte, reduceCtorEq]]
    have h206 : ∀ (x : Bool) , (x = true ↔ hv ∨ t 16 q = 1) → ∃ s', B_X11_pattern_206 n i q x n (up2 (up2 s 11 (3 * n + i) (q : Int)) 15 n (jor nm (t 15 q))) = some (.inl ((i : Int) + 1, s')) ∧ MP t s' n (jor nm (nmo t q)) (max dp (dpo t q)) (hv ∨ hvo t q) (br ∧ bro t q) ∧ (∀ j, ¬ j = 3 * n + i → s' 11 j = s 11 j) ∧ s' 11 (3 * n + i) = q := by
      intro x hx
      unfold B_X11_pattern_206
      rw [wrn_ok (by omega) (by omega), Option.bind_some, rdn_ok (by omega) (by omega), Option.bind_some, hnn]
      rw [show (up2 (up2 (up2 s 11 (3 * n + i) (q : Int)) 15 n (jor nm (t 15 q))) 16 n (b2i x)) 17 n = s 17 n by simp (disch := omega) only [bnd_eq, bind_some', wrap_id, rdn_ok, wrn_ok, wbn_ok, rdD_ok, rdD_out, wrD_ok, wrD_out, up2_at, up2_row, up2_idx, iter_s, itp, itn, isIn_iff, in_iff, ↓reduceIte, reduceCtorEq]]
      by_cases c : s 17 n = 0
      · rw [if_pos c]
        unfold B_X11_pattern_237
        exact tail x false _ hx (by constructor; (intro h; cases h); (intro h; have := m8.mpr h.1; omega)) rfl
      · rw [if_neg c, rdn_ok (by omega) (by omega), Option.bind_some, hqq]
        rw [show (up2 (up2 (up2 s 11 (3 * n + i) (q : Int)) 15 n (jor nm (t 15 q))) 16 n (b2i x)) 17 q = t 17 q by (simp (disch := omega) only [bnd_eq, bind_some', wrap_id, rdn_ok, wrn_ok, wbn_ok, rdD_ok, rdD_out, wrD_ok, wrD_out, up2_at, up2_row, up2_idx, iter_s, itp, itn, isIn_iff, in_iff, ↓reduceIte, reduceCtorEq]; exact e17)]
        by_cases c2 : t 17 q = 0
        · rw [if_pos c2]
          unfold B_X11_pattern_237
          exact tail x false _ hx (by constructor; (intro h; cases h); (intro h; have := h.2; omega)) rfl
        · rw [if_neg c2]
          exact tail x true _ hx (by constructor; (intro _; exact ⟨m8.mp (by omega), by omega⟩); (intro _; rfl)) rfl
    by_cases c : s 16 n = 0
    · rw [if_pos c, rdn_ok (by omega) (by omega), Option.bind_some, hqq]
      rw [show (up2 (up2 s 11 (3 * n + i) (q : Int)) 15 n (jor nm (t 15 q))) 16 q = t 16 q by (simp (disch := omega) only [bnd_eq, bind_some', wrap_id, rdn_ok, wrn_ok, wbn_ok, rdD_ok, rdD_out, wrD_ok, wrD_out, up2_at, up2_row, up2_idx, iter_s, itp, itn, isIn_iff, in_iff, ↓reduceIte, reduceCtorEq]; exact e16)]
      by_cases c2 : t 16 q = 0
      · rw [if_pos c2]
        exact h206 false (by constructor; (intro h; cases h); (rintro (h | h); (have := m6.mpr h; omega); omega))
      · rw [if_neg c2]
        unfold B_X11_pattern_201
        exact h206 true (by constructor; (intro _; exact Or.inr (by omega)); (intro _; rfl))
    · rw [if_neg c]
      unfold B_X11_pattern_201
      exact h206 true (by constructor; (intro _; exact Or.inl (m6.mp (by omega))); (intro _; rfl))
def KM (τ τ' : Sg) (n : Nat) (fm hd rs p0 p1 p2 kd : Int) : Prop :=
  (∀ r, r ∉ [0, 8, 9, 10, 11, 12, 13, 14, 15, 16, 17] → τ' r = τ r) ∧ (∀ i, ¬ i = 9 → τ' 0 i = τ 0 i) ∧ τ' 0 9 = n + 1 ∧
  (∀ r ∈ [8, 9, 10, 12, 13, 14, 15, 16, 17], ∀ i, ¬ i = n → τ' r i = τ r i) ∧ (∀ i, i < 3 * n ∨ 3 * n + 3 ≤ i → τ' 11 i = τ 11 i) ∧
  τ' 8 n = fm ∧ τ' 9 n = hd ∧ τ' 10 n = rs ∧ τ' 12 n = kd ∧ τ' 11 (3 * n + 0) = p0 ∧ τ' 11 (3 * n + 1) = p1 ∧ τ' 11 (3 * n + 2) = p2 ∧
  τ' 15 n = jor (jor (jor (if fm = 1 then jshl 1 hd else 0) (nmo τ p0)) (nmo τ p1)) (nmo τ p2) ∧
  τ' 13 n = max3 (dpo τ p0) (dpo τ p1) (dpo τ p2) + (if fm = 1 ∨ fm = 4 ∨ fm = 5 then 0 else 1) ∧
  τ' 14 n = 1 + szo τ p0 + szo τ p1 + szo τ p2 ∧
  (τ' 16 n = 0 ∨ τ' 16 n = 1) ∧ (τ' 16 n = 1 ↔ fm = 5 ∨ hvo τ p0 ∨ hvo τ p1 ∨ hvo τ p2) ∧
  (τ' 17 n = 0 ∨ τ' 17 n = 1) ∧ (τ' 17 n = 1 ↔ (¬ fm = 1 ∧ ¬ fm = 5 ∧ ¬ fm = 3 ∧ ¬ fm = 6) ∧ bro τ p0 ∧ bro τ p1 ∧ bro τ p2)
theorem szo_c {τ s : Sg} {n : Nat} {p : Int} (hn : n ≤ 60) (hp : okp n p) (hs : ∀ i : Nat, i < n → s 14 i = τ 14 i) : (p = -1 ∧ szo τ p = 0) ∨ (¬ p = -1 ∧ rdn 60 s 14 p = some (szo τ p)) := by
  unfold szo
  rcases hp with hp | hp
  · exact Or.inl ⟨hp, by rw [if_pos (by omega)]⟩
  · refine Or.inr ⟨by omega, ?_⟩
    rw [rdn_ok (by omega) (by omega), if_neg (by omega), hs _ (by omega)]
theorem sizeM {τ s : Sg} {n : Nat} {p0 p1 p2 : Int} (hn : n ≤ 60) (h0 : okp n p0) (h1 : okp n p1) (h2 : okp n p2) (hs : ∀ i : Nat, i < n → s 14 i = τ 14 i) (hb : ∀ p, okp n p → 0 ≤ szo τ p ∧ szo τ p ≤ 40) : F_X11_sizeOf p0 p1 p2 s = some (1 + szo τ p0 + szo τ p1 + szo τ p2) := by
  have b0 := hb p0 h0
  have b1 := hb p1 h1
  have b2 := hb p2 h2
  have t2 : ∀ x y : Int, 0 ≤ x ∧ x ≤ 200 → 0 ≤ y ∧ y ≤ 200 → B_X11_sizeOf_32 p2 x y s = some (y + x + szo τ p2) := by
    intro x y hx hy
    unfold B_X11_sizeOf_32 B_X11_sizeOf_48
    rcases szo_c hn h2 hs with ⟨g1, g2⟩ | ⟨g1, g2⟩
    · rw [if_pos g1, wrap_id (z := y + x) (by omega) (by omega), wrap_id (by omega) (by omega), g2]
    · rw [if_neg g1, g2, Option.bind_some, wrap_id (z := y + x) (by omega) (by omega), wrap_id (by omega) (by omega)]
  have t1 : ∀ x : Int, 0 ≤ x ∧ x ≤ 50 → B_X11_sizeOf_16 p1 p2 x true s = some (1 + x + szo τ p1 + szo τ p2) := by
    intro x hx
    unfold B_X11_sizeOf_16
    rw [show b2i true = 1 from rfl, wrap_id (z := 1 + x) (by omega) (by omega)]
    rcases szo_c hn h1 hs with ⟨g1, g2⟩ | ⟨g1, g2⟩
    · rw [if_pos g1, t2 0 (1 + x) (by omega) (by omega), g2]
    · rw [if_neg g1, g2, Option.bind_some, t2 _ (1 + x) (by omega) (by omega)]
  unfold F_X11_sizeOf
  rcases szo_c hn h0 hs with ⟨g1, g2⟩ | ⟨g1, g2⟩
  · rw [if_pos g1, t1 0 (by omega), g2]
  · rw [if_neg g1, g2, Option.bind_some, t1 _ (by omega)]
set_option maxHeartbeats 4000000 in
theorem patM {τ : Sg} {n : Nat} {fm hd rs p0 p1 p2 kd : Int} (hN : τ 0 9 = n) (hn : n < 60) (h0 : okp n p0) (h1 : okp n p1) (h2 : okp n p2) (hsz : ∀ p, okp n p → 0 ≤ szo τ p ∧ szo τ p ≤ 40) (hdp : ∀ j : Nat, j < n → 0 ≤ τ 13 j ∧ τ 13 j ≤ 4) (hb : ∀ r ∈ [16, 17], ∀ j : Nat, j < n → τ r j = 0 ∨ τ r j = 1) (hx : fm = 1 → 0 ≤ hd ∧ hd ≤ 5) :
    ∃ τ', F_X11_pattern fm hd rs p0 p1 p2 kd τ = some ((n : Int), τ') ∧ KM τ τ' n fm hd rs p0 p1 p2 kd := by
  have hnn : (n : Int).toNat = n := by omega
  have n1 : (0 : Int) ≤ n := by omega
  have n2 : (n : Int) < (60 : Nat) := by omega
  unfold F_X11_pattern
  rw [bnd_eq, hN, wrn_ok n1 n2, Option.bind_some, wrn_ok n1 n2, Option.bind_some, wrn_ok n1 n2, Option.bind_some, wrn_ok n1 n2, Option.bind_some, hnn]
  generalize hs9 : up2 (up2 (up2 (up2 τ 8 n fm) 9 n hd) 10 n rs) 12 n kd = s9
  have main : ∀ nm : Int, nm = (if fm = 1 then jshl 1 hd else 0) → ∃ τ', B_X11_pattern_57 fm p0 p1 p2 n nm n s9 = some ((n : Int), τ') ∧ KM τ τ' n fm hd rs p0 p1 p2 kd := by
    intro nm hnm
    have hnmR : inR nm := by
      rw [hnm]; split
      · unfold jshl; exact i32_toInt_in _
      · exact in0
    unfold B_X11_pattern_57
    rw [wrn_ok n1 n2, Option.bind_some, hnn]
    have m74 : ∀ (v : Bool), (v = true ↔ fm = 5) → ∃ τ', B_X11_pattern_74 fm p0 p1 p2 n v n (up2 s9 15 n nm) = some ((n : Int), τ') ∧ KM τ τ' n fm hd rs p0 p1 p2 kd := by
      intro v hv
      unfold B_X11_pattern_74
      rw [wrn_ok n1 n2, Option.bind_some, hnn]
      have m107 : ∀ (w : Bool), (w = true ↔ (¬ fm = 1 ∧ ¬ fm = 5 ∧ ¬ fm = 3 ∧ ¬ fm = 6)) → ∃ τ', B_X11_pattern_107 fm p0 p1 p2 n w n (up2 (up2 s9 15 n nm) 16 n (b2i v)) = some ((n : Int), τ') ∧ KM τ τ' n fm hd rs p0 p1 p2 kd := by
        intro w hw
        unfold B_X11_pattern_107
        rw [wrn_ok n1 n2, Option.bind_some, wrn_ok n1 n2, Option.bind_some, hnn]
        generalize hs : up2 (up2 (up2 (up2 s9 15 n nm) 16 n (b2i v)) 17 n (b2i w)) 13 n 0 = s
        have sub : ∀ r, ¬ r = 8 → ¬ r = 9 → ¬ r = 10 → ¬ r = 12 → ∀ i, s9 r i = τ r i := by
          intro r e1 e2 e3 e4 i
          rw [← hs9]; simp (disch := omega) only [bnd_eq, bind_some', wrap_id, rdn_ok, wrn_ok, wbn_ok, rdD_ok, rdD_out, wrD_ok, wrD_out, up2_at, up2_row, up2_idx, iter_s, itp, itn, isIn_iff, in_iff, ↓reduceIte, reduceCtorEq]
        have hM : MP s9 s n nm 0 (fm = 5) (¬ fm = 1 ∧ ¬ fm = 5 ∧ ¬ fm = 3 ∧ ¬ fm = 6) := by
          subst hs
          refine ⟨?_, ?_, ?_, ?_, ?_, ?_, ?_, ?_⟩
          · intro r hr
            simp only [List.mem_cons, List.not_mem_nil, or_false, not_or] at hr
            funext j; simp (disch := omega) only [bnd_eq, bind_some', wrap_id, rdn_ok, wrn_ok, wbn_ok, rdD_ok, rdD_out, wrD_ok, wrD_out, up2_at, up2_row, up2_idx, iter_s, itp, itn, isIn_iff, in_iff, ↓reduceIte, reduceCtorEq]
          · intro r hr j hj
            simp only [List.mem_cons, List.not_mem_nil, or_false] at hr
            simp (disch := omega) only [bnd_eq, bind_some', wrap_id, rdn_ok, wrn_ok, wbn_ok, rdD_ok, rdD_out, wrD_ok, wrD_out, up2_at, up2_row, up2_idx, iter_s, itp, itn, isIn_iff, in_iff, ↓reduceIte, reduceCtorEq]
          · simp (disch := omega) only [bnd_eq, bind_some', wrap_id, rdn_ok, wrn_ok, wbn_ok, rdD_ok, rdD_out, wrD_ok, wrD_out, up2_at, up2_row, up2_idx, iter_s, itp, itn, isIn_iff, in_iff, ↓reduceIte, reduceCtorEq]
          · simp (disch := omega) only [bnd_eq, bind_some', wrap_id, rdn_ok, wrn_ok, wbn_ok, rdD_ok, rdD_out, wrD_ok, wrD_out, up2_at, up2_row, up2_idx, iter_s, itp, itn, isIn_iff, in_iff, ↓reduceIte, reduceCtorEq]
          · simp (disch := omega) only [bnd_eq, bind_some', wrap_id, rdn_ok, wrn_ok, wbn_ok, rdD_ok, rdD_out, wrD_ok, wrD_out, up2_at, up2_row, up2_idx, iter_s, itp, itn, isIn_iff, in_iff, ↓reduceIte, reduceCtorEq]; rcases b2i_01 v with h | h <;> omega
          · simp (disch := omega) only [bnd_eq, bind_some', wrap_id, rdn_ok, wrn_ok, wbn_ok, rdD_ok, rdD_out, wrD_ok, wrD_out, up2_at, up2_row, up2_idx, iter_s, itp, itn, isIn_iff, in_iff, ↓reduceIte, reduceCtorEq]
            have : b2i v = 1 ↔ v = true := by cases v <;> simp [b2i]
            rw [this, hv]
          · simp (disch := omega) only [bnd_eq, bind_some', wrap_id, rdn_ok, wrn_ok, wbn_ok, rdD_ok, rdD_out, wrD_ok, wrD_out, up2_at, up2_row, up2_idx, iter_s, itp, itn, isIn_iff, in_iff, ↓reduceIte, reduceCtorEq]; rcases b2i_01 w with h | h <;> omega
          · simp (disch := omega) only [bnd_eq, bind_some', wrap_id, rdn_ok, wrn_ok, wbn_ok, rdD_ok, rdD_out, wrD_ok, wrD_out, up2_at, up2_row, up2_idx, iter_s, itp, itn, isIn_iff, in_iff, ↓reduceIte, reduceCtorEq]
            have : b2i w = 1 ↔ w = true := by cases w <;> simp [b2i]
            rw [this, hw]
        have hb9 : ∀ r ∈ [16, 17], ∀ j : Nat, j < n → s9 r j = 0 ∨ s9 r j = 1 := by
          intro r hr j hj
          rw [sub r (by simp only [List.mem_cons, List.not_mem_nil, or_false] at hr; omega) (by simp only [List.mem_cons, List.not_mem_nil, or_false] at hr; omega) (by simp only [List.mem_cons, List.not_mem_nil, or_false] at hr; omega) (by simp only [List.mem_cons, List.not_mem_nil, or_false] at hr; omega)]
          exact hb r hr j hj
        have hd9 : ∀ j : Nat, j < n → 0 ≤ s9 13 j := fun j hj => by rw [sub 13 (by omega) (by omega) (by omega) (by omega)]; exact (hdp j hj).1
        obtain ⟨s1, e1, M1, x1, y1⟩ := lay1 (p0 := p0) (p1 := p1) (p2 := p2) (i := 0) hn (by omega) hM h0 hnmR hb9 (by omega) hd9
        obtain ⟨s2, e2, M2, x2, y2⟩ := lay1 (p0 := p0) (p1 := p1) (p2 := p2) (i := 1) hn (by omega) M1 h1 (jor_in _ _) hb9 (by omega) hd9
        obtain ⟨s3, e3, M3, x3, y3⟩ := lay1 (p0 := p0) (p1 := p1) (p2 := p2) (i := 2) hn (by omega) M2 h2 (jor_in _ _) hb9 (by omega) hd9
        rw [show F_X10_pick ((0 : Nat) : Int) p0 p1 p2 = p0 from rfl] at M1 y1 M2 M3
        rw [show F_X10_pick ((1 : Nat) : Int) p0 p1 p2 = p1 from rfl] at M2 y2 M3
        rw [show F_X10_pick ((2 : Nat) : Int) p0 p1 p2 = p2 from rfl] at M3 y3
        rw [show ((0 : Nat) : Int) = 0 from rfl, show (0 : Int) + 1 = 1 from rfl] at e1
        rw [show ((1 : Nat) : Int) = 1 from rfl, show (1 : Int) + 1 = 2 from rfl] at e2
        rw [show ((2 : Nat) : Int) = 2 from rfl, show (2 : Int) + 1 = 3 from rfl] at e3
        have hloop : iter (fun a : (Int × Sg) => L_X11_pattern_119 p0 p1 p2 n a.1 a.2) 4 (0, s) = some s3 := by
          refine (iter_l (f := fun a : (Int × Sg) => L_X11_pattern_119 p0 p1 p2 n a.1 a.2) (n := 3) (a := (0, s)) (a' := (1, s1)) e1).trans ?_
          refine (iter_l (f := fun a : (Int × Sg) => L_X11_pattern_119 p0 p1 p2 n a.1 a.2) (n := 2) (a := (1, s1)) (a' := (2, s2)) e2).trans ?_
          refine (iter_l (f := fun a : (Int × Sg) => L_X11_pattern_119 p0 p1 p2 n a.1 a.2) (n := 1) (a := (2, s2)) (a' := (3, s3)) e3).trans ?_
          exact iter_r (f := fun a : (Int × Sg) => L_X11_pattern_119 p0 p1 p2 n a.1 a.2) rfl
        rw [hloop, Option.bind_some]
        have nmS : ∀ p, nmo s9 p = nmo τ p := fun p => by unfold nmo; rw [sub 15 (by omega) (by omega) (by omega) (by omega)]
        have dpS : ∀ p, dpo s9 p = dpo τ p := fun p => by unfold dpo; rw [sub 13 (by omega) (by omega) (by omega) (by omega)]
        have hvS : ∀ p, hvo s9 p ↔ hvo τ p := fun p => by unfold hvo; rw [sub 16 (by omega) (by omega) (by omega) (by omega)]
        have brS : ∀ p, bro s9 p ↔ bro τ p := fun p => by unfold bro; rw [sub 17 (by omega) (by omega) (by omega) (by omega)]
        obtain ⟨q1, q2, q3, q4, q5, q6, q7, q8⟩ := M3
        have dpb : ∀ p, okp n p → 0 ≤ dpo τ p ∧ dpo τ p ≤ 4 := fun p hp => by
          unfold dpo
          split
          · omega
          · exact hdp _ (by rcases hp with h | h <;> omega)
        have hD : s3 13 n = max3 (dpo τ p0) (dpo τ p1) (dpo τ p2) := by
          rw [q4, dpS, dpS, dpS]
          have := dpb p0 h0
          unfold max3; omega
        have hDb : 0 ≤ max3 (dpo τ p0) (dpo τ p1) (dpo τ p2) ∧ max3 (dpo τ p0) (dpo τ p1) (dpo τ p2) ≤ 4 := by
          have a0 := dpb p0 h0
          have a1 := dpb p1 h1
          have a2 := dpb p2 h2
          unfold max3; omega
        have hsz3 : s3 14 = τ 14 := by
          rw [q1 14 (by decide)]; funext i; exact sub 14 (by omega) (by omega) (by omega) (by omega) i
        have h09 : s3 0 = τ 0 := by
          rw [q1 0 (by decide)]; funext i; exact sub 0 (by omega) (by omega) (by omega) (by omega) i
        have hfin : ∀ (z : Bool) (lv : Int), lv = (if fm = 1 ∨ fm = 4 ∨ fm = 5 then 0 else 1) → b2i z = lv → ∃ τ', B_X11_pattern_326 p0 p1 p2 n z (s3 13 n) n s3 = some ((n : Int), τ') ∧ KM τ τ' n fm hd rs p0 p1 p2 kd := by
          intro z lv hlv hz
          have hlv2 : 0 ≤ lv ∧ lv ≤ 1 := by rcases b2i_01 z with h | h <;> omega
          unfold B_X11_pattern_326
          rw [hz, hD, wrap_id (by omega) (by omega), wrn_ok n1 n2, Option.bind_some, hnn]
          rw [sizeM (τ := τ) (n := n) (by omega) h0 h1 h2 (fun i hi => by rw [up2_row (by omega), hsz3]) hsz, Option.bind_some, wrn_ok n1 n2, Option.bind_some, hnn, bnd_eq]
          rw [show (up2 (up2 s3 13 n (max3 (dpo τ p0) (dpo τ p1) (dpo τ p2) + lv)) 14 n (1 + szo τ p0 + szo τ p1 + szo τ p2)) 0 9 = n by (simp (disch := omega) only [bnd_eq, bind_some', wrap_id, rdn_ok, wrn_ok, wbn_ok, rdD_ok, rdD_out, wrD_ok, wrD_out, up2_at, up2_row, up2_idx, iter_s, itp, itn, isIn_iff, in_iff, ↓reduceIte, reduceCtorEq]; rw [h09]; exact hN), wrap_id (by omega) (by omega)]
          refine ⟨_, rfl, ?_, ?_, ?_, ?_, ?_, ?_, ?_, ?_, ?_, ?_, ?_, ?_, ?_, ?_, ?_, ?_, ?_, ?_, ?_⟩
          · intro r hr
            simp only [List.mem_cons, List.not_mem_nil, or_false, not_or] at hr
            funext i
            simp (disch := omega) only [bnd_eq, bind_some', wrap_id, rdn_ok, wrn_ok, wbn_ok, rdD_ok, rdD_out, wrD_ok, wrD_out, up2_at, up2_row, up2_idx, iter_s, itp, itn, isIn_iff, in_iff, ↓reduceIte, reduceCtorEq]
            rw [q1 r (by simp only [List.mem_cons, List.not_mem_nil, or_false, not_or]; omega)]
            exact sub r (by omega) (by omega) (by omega) (by omega) i
          · intro i hi
            simp (disch := omega) only [bnd_eq, bind_some', wrap_id, rdn_ok, wrn_ok, wbn_ok, rdD_ok, rdD_out, wrD_ok, wrD_out, up2_at, up2_row, up2_idx, iter_s, itp, itn, isIn_iff, in_iff, ↓reduceIte, reduceCtorEq]
            rw [h09]
          · simp (disch := omega) only [bnd_eq, bind_some', wrap_id, rdn_ok, wrn_ok, wbn_ok, rdD_ok, rdD_out, wrD_ok, wrD_out, up2_at, up2_row, up2_idx, iter_s, itp, itn, isIn_iff, in_iff, ↓reduceIte, reduceCtorEq]
          · intro r hr i hi
            simp only [List.mem_cons, List.not_mem_nil, or_false] at hr
            simp (disch := omega) only [bnd_eq, bind_some', wrap_id, rdn_ok, wrn_ok, wbn_ok, rdD_ok, rdD_out, wrD_ok, wrD_out, up2_at, up2_row, up2_idx, iter_s, itp, itn, isIn_iff, in_iff, ↓reduceIte, reduceCtorEq]
            by_cases hr2 : r = 13 ∨ r = 15 ∨ r = 16 ∨ r = 17
            · rw [q2 r (by simp only [List.mem_cons, List.not_mem_nil, or_false]; omega) i hi]
              exact sub r (by omega) (by omega) (by omega) (by omega) i
            · rw [q1 r (by simp only [List.mem_cons, List.not_mem_nil, or_false, not_or]; omega), ← hs9]
              simp (disch := omega) only [bnd_eq, bind_some', wrap_id, rdn_ok, wrn_ok, wbn_ok, rdD_ok, rdD_out, wrD_ok, wrD_out, up2_at, up2_row, up2_idx, iter_s, itp, itn, isIn_iff, in_iff, ↓reduceIte, reduceCtorEq]
          · intro i hi
            simp (disch := omega) only [bnd_eq, bind_some', wrap_id, rdn_ok, wrn_ok, wbn_ok, rdD_ok, rdD_out, wrD_ok, wrD_out, up2_at, up2_row, up2_idx, iter_s, itp, itn, isIn_iff, in_iff, ↓reduceIte, reduceCtorEq]
            rw [x3 i (by omega), x2 i (by omega), x1 i (by omega), ← hs]
            simp (disch := omega) only [bnd_eq, bind_some', wrap_id, rdn_ok, wrn_ok, wbn_ok, rdD_ok, rdD_out, wrD_ok, wrD_out, up2_at, up2_row, up2_idx, iter_s, itp, itn, isIn_iff, in_iff, ↓reduceIte, reduceCtorEq]
            exact sub 11 (by omega) (by omega) (by omega) (by omega) i
          · simp (disch := omega) only [bnd_eq, bind_some', wrap_id, rdn_ok, wrn_ok, wbn_ok, rdD_ok, rdD_out, wrD_ok, wrD_out, up2_at, up2_row, up2_idx, iter_s, itp, itn, isIn_iff, in_iff, ↓reduceIte, reduceCtorEq]; rw [q1 8 (by decide), ← hs9]; simp (disch := omega) only [bnd_eq, bind_some', wrap_id, rdn_ok, wrn_ok, wbn_ok, rdD_ok, rdD_out, wrD_ok, wrD_out, up2_at, up2_row, up2_idx, iter_s, itp, itn, isIn_iff, in_iff, ↓reduceIte, reduceCtorEq]
          · simp (disch := omega) only [bnd_eq, bind_some', wrap_id, rdn_ok, wrn_ok, wbn_ok, rdD_ok, rdD_out, wrD_ok, wrD_out, up2_at, up2_row, up2_idx, iter_s, itp, itn, isIn_iff, in_iff, ↓reduceIte, reduceCtorEq]; rw [q1 9 (by decide), ← hs9]; simp (disch := omega) only [bnd_eq, bind_some', wrap_id, rdn_ok, wrn_ok, wbn_ok, rdD_ok, rdD_out, wrD_ok, wrD_out, up2_at, up2_row, up2_idx, iter_s, itp, itn, isIn_iff, in_iff, ↓reduceIte, reduceCtorEq]
          · simp (disch := omega) only [bnd_eq, bind_some', wrap_id, rdn_ok, wrn_ok, wbn_ok, rdD_ok, rdD_out, wrD_ok, wrD_out, up2_at, up2_row, up2_idx, iter_s, itp, itn, isIn_iff, in_iff, ↓reduceIte, reduceCtorEq]; rw [q1 10 (by decide), ← hs9]; simp (disch := omega) only [bnd_eq, bind_some', wrap_id, rdn_ok, wrn_ok, wbn_ok, rdD_ok, rdD_out, wrD_ok, wrD_out, up2_at, up2_row, up2_idx, iter_s, itp, itn, isIn_iff, in_iff, ↓reduceIte, reduceCtorEq]
          · simp (disch := omega) only [bnd_eq, bind_some', wrap_id, rdn_ok, wrn_ok, wbn_ok, rdD_ok, rdD_out, wrD_ok, wrD_out, up2_at, up2_row, up2_idx, iter_s, itp, itn, isIn_iff, in_iff, ↓reduceIte, reduceCtorEq]; rw [q1 12 (by decide), ← hs9]; simp (disch := omega) only [bnd_eq, bind_some', wrap_id, rdn_ok, wrn_ok, wbn_ok, rdD_ok, rdD_out, wrD_ok, wrD_out, up2_at, up2_row, up2_idx, iter_s, itp, itn, isIn_iff, in_iff, ↓reduceIte, reduceCtorEq]
          · simp (disch := omega) only [bnd_eq, bind_some', wrap_id, rdn_ok, wrn_ok, wbn_ok, rdD_ok, rdD_out, wrD_ok, wrD_out, up2_at, up2_row, up2_idx, iter_s, itp, itn, isIn_iff, in_iff, ↓reduceIte, reduceCtorEq]; rw [x3 _ (by omega), x2 _ (by omega)]; exact y1
          · simp (disch := omega) only [bnd_eq, bind_some', wrap_id, rdn_ok, wrn_ok, wbn_ok, rdD_ok, rdD_out, wrD_ok, wrD_out, up2_at, up2_row, up2_idx, iter_s, itp, itn, isIn_iff, in_iff, ↓reduceIte, reduceCtorEq]; rw [x3 _ (by omega)]; exact y2
          · simp (disch := omega) only [bnd_eq, bind_some', wrap_id, rdn_ok, wrn_ok, wbn_ok, rdD_ok, rdD_out, wrD_ok, wrD_out, up2_at, up2_row, up2_idx, iter_s, itp, itn, isIn_iff, in_iff, ↓reduceIte, reduceCtorEq]; exact y3
          · simp (disch := omega) only [bnd_eq, bind_some', wrap_id, rdn_ok, wrn_ok, wbn_ok, rdD_ok, rdD_out, wrD_ok, wrD_out, up2_at, up2_row, up2_idx, iter_s, itp, itn, isIn_iff, in_iff, ↓reduceIte, reduceCtorEq]; rw [q3, nmS, nmS, nmS, hnm]
          · simp (disch := omega) only [bnd_eq, bind_some', wrap_id, rdn_ok, wrn_ok, wbn_ok, rdD_ok, rdD_out, wrD_ok, wrD_out, up2_at, up2_row, up2_idx, iter_s, itp, itn, isIn_iff, in_iff, ↓reduceIte, reduceCtorEq]; rw [hlv]
          · simp (disch := omega) only [bnd_eq, bind_some', wrap_id, rdn_ok, wrn_ok, wbn_ok, rdD_ok, rdD_out, wrD_ok, wrD_out, up2_at, up2_row, up2_idx, iter_s, itp, itn, isIn_iff, in_iff, ↓reduceIte, reduceCtorEq]
          · simp (disch := omega) only [bnd_eq, bind_some', wrap_id, rdn_ok, wrn_ok, wbn_ok, rdD_ok, rdD_out, wrD_ok, wrD_out, up2_at, up2_row, up2_idx, iter_s, itp, itn, isIn_iff, in_iff, ↓reduceIte, reduceCtorEq]; exact q5
          · simp (disch := omega) only [bnd_eq, bind_some', wrap_id, rdn_ok, wrn_ok, wbn_ok, rdD_ok, rdD_out, wrD_ok, wrD_out, up2_at, up2_row, up2_idx, iter_s, itp, itn, isIn_iff, in_iff, ↓reduceIte, reduceCtorEq]; rw [q6, hvS, hvS, hvS, or_assoc, or_assoc]
          · simp (disch := omega) only [bnd_eq, bind_some', wrap_id, rdn_ok, wrn_ok, wbn_ok, rdD_ok, rdD_out, wrD_ok, wrD_out, up2_at, up2_row, up2_idx, iter_s, itp, itn, isIn_iff, in_iff, ↓reduceIte, reduceCtorEq]; exact q7
          · simp (disch := omega) only [bnd_eq, bind_some', wrap_id, rdn_ok, wrn_ok, wbn_ok, rdD_ok, rdD_out, wrD_ok, wrD_out, up2_at, up2_row, up2_idx, iter_s, itp, itn, isIn_iff, in_iff, ↓reduceIte, reduceCtorEq]; rw [q8, brS, brS, brS]; constructor <;> (intro h; simp only [and_assoc] at h ⊢; exact h)
        unfold B_X11_pattern_301 B_X11_pattern_306
        have hr : rdn 60 s3 13 (n : Int) = some (s3 13 n) := by rw [rdn_ok n1 n2, hnn]
        by_cases c1 : fm = 1
        · rw [if_pos c1, hr, Option.bind_some, if_pos rfl]; exact hfin false 0 (by rw [if_pos (Or.inl c1)]) rfl
        · by_cases c4 : fm = 4
          · rw [if_neg c1, if_pos c4, hr, Option.bind_some, if_pos rfl]; exact hfin false 0 (by rw [if_pos (Or.inr (Or.inl c4))]) rfl
          · by_cases c5 : fm = 5
            · rw [if_neg c1, if_neg c4, if_pos c5, hr, Option.bind_some, if_pos rfl]; exact hfin false 0 (by rw [if_pos (Or.inr (Or.inr c5))]) rfl
            · rw [if_neg c1, if_neg c4, if_neg c5, hr, Option.bind_some, if_neg (by simp)]; exact hfin true 1 (by rw [if_neg (by omega)]) rfl
      unfold B_X11_pattern_106
      by_cases c1 : fm = 1
      · rw [if_pos c1]; exact m107 false (by simp [c1])
      · by_cases c5 : fm = 5
        · rw [if_neg c1, if_pos c5]; exact m107 false (by simp [c5])
        · by_cases c3 : fm = 3
          · rw [if_neg c1, if_neg c5, if_pos c3]; exact m107 false (by simp [c3])
          · by_cases c6 : fm = 6
            · rw [if_neg c1, if_neg c5, if_neg c3, if_pos c6]; exact m107 false (by simp [c6])
            · rw [if_neg c1, if_neg c5, if_neg c3, if_neg c6]; exact m107 true (by simp [c1, c5, c3, c6])
    by_cases c5 : fm = 5
    · rw [if_pos c5]; exact m74 true (by simp [c5])
    · rw [if_neg c5]; exact m74 false (by simp [c5])
  by_cases c1 : fm = 1
  · rw [if_pos c1]; exact main _ (by rw [if_pos c1])
  · rw [if_neg c1]; exact main _ (by rw [if_neg c1])
