/-! two machines over one account -/
theorem RelW.r25 {σ τ τ' : Sg} (h : RelW σ τ) (ht : ∀ r, ¬ r = 25 → τ' r = τ r) (h25 : ∀ c : Nat, (c : Int) < τ 0 23 → τ' 25 c = τ 25 c) : RelW σ τ' := by
  obtain ⟨hW, hF, hM, hV, hWW⟩ := h.wf
  obtain ⟨⟨k1, k2, k3, k4, k5, k6⟩, hE⟩ := h
  have e0 : τ' 0 = τ 0 := ht 0 (by omega)
  have hK : ExtK τ τ' := ExtK.same (fun r r1 r2 => ht r (by omega))
  have hP : ExtP τ τ' := ExtP.cong (fun r r1 r2 => ht r (by omega)) (by rw [e0])
  have k5' : RM σ τ' := by
    obtain ⟨m1, m2, m3, m4, m5⟩ := k5
    refine ⟨by rw [e0]; exact m1, by rw [e0]; exact m2, fun k hk => by rw [ht 19 (by omega)]; exact m3 k hk, WFM.mono hW m4 hK hP (fun r r1 r2 => ht r (by omega)) (by rw [e0]) (by rw [e0]), fun c hc => ?_⟩
    rw [e0] at hc
    have m6 := m5 c hc
    unfold RM1 cpt at m6 ⊢
    rw [ht 20 (by omega), ht 21 (by omega), ht 22 (by omega), ht 23 (by omega), ht 24 (by omega), h25 c hc]
    exact m6
  refine ⟨⟨k1.cong (fun _ _ _ => rfl) (fun r r1 r2 => ht r (by omega)), k2.cong hF hK (fun _ _ _ => rfl) (fun r r1 r2 => ht r (by omega)) (by rw [e0]), k3.cong hF hK (fun _ _ _ => rfl) (fun r r1 r2 => ht r (by omega)) (by rw [e0]), k4.cong rfl (ht 18 (by omega)), k5', k6.cong rfl rfl rfl (fun r r1 r2 => ht r (by omega)) (by rw [e0]) (by rw [e0]) (by rw [e0])⟩, ?_⟩
  exact hE.keep (EqP.same (fun r r1 r2 => ht r (by omega)) (by rw [e0]) (by rw [e0])) hW hF hM (fun _ _ => rfl) (fun _ _ => rfl) (by rw [e0]) (by rw [e0]) (by rw [e0]) (fun r r1 r2 => ht r (by omega))
theorem rel_norm {σ1 σ2 τ : Sg} (h1 : RelW σ1 τ) (h2 : RelW σ2 τ) (hr : inRs σ1) : ∃ τ', RelW σ1 τ' ∧ RelW σ2 τ' ∧ inRt τ' ∧ ∀ r, ¬ r = 25 → τ' r = τ r := by
  refine ⟨fun r i => if r = 25 then wrap (τ 25 i) else τ r i, ?_⟩
  have ht : ∀ r, ¬ r = 25 → (fun r i => if r = 25 then wrap (τ 25 i) else τ r i : Sg) r = τ r := fun r h => by funext i; exact if_neg h
  have h25 : ∀ c : Nat, (c : Int) < τ 0 23 → (fun r i => if r = 25 then wrap (τ 25 i) else τ r i : Sg) 25 c = τ 25 c := fun c hc => by
    show (if 25 = 25 then wrap (τ 25 c) else τ 25 c) = τ 25 c
    rw [if_pos rfl]
    have m := (h1.1.2.2.2.2.1.2.2.2.2 c hc).2.2.2.2
    have := hr 26 (8 * c + 7)
    rw [m] at this
    exact wrap_id this.1 this.2
  refine ⟨h1.r25 ht h25, h2.r25 ht h25, ⟨?_, fun i => ?_⟩, ht⟩
  · rw [ht 0 (by omega), ← h1.1.2.2.2.2.2.1]
    exact hr 27 3
  · show inR (if 25 = 25 then wrap (τ 25 i) else τ 25 i)
    rw [if_pos rfl]
    exact wrap_in _
theorem kE_mem : ∀ {es : List (Nat × Int)} {E : Nat} {t : Int}, kE es E = some t → t ∈ es.map (·.2) ∧ E ∈ es.map (·.1)
  | [], _, _, h => by cases h
  | q :: es, E, t, h => by
    rcases kE_inv h with ⟨a, b⟩ | ⟨-, h⟩
    · rw [a, b]; exact ⟨List.mem_cons_self, List.mem_cons_self⟩
    · exact ⟨List.mem_cons_of_mem _ (kE_mem h).1, List.mem_cons_of_mem _ (kE_mem h).2⟩
theorem kE_inj : ∀ {es : List (Nat × Int)} (_ : (es.map (·.2)).Nodup) {E E' : Nat} {t : Int}, kE es E = some t → kE es E' = some t → E = E'
  | [], _, _, _, _, h, _ => by cases h
  | q :: es, hn, E, E', t, h, h' => by
    have hn2 := List.nodup_cons.mp hn
    rcases kE_inv h with ⟨a, b⟩ | ⟨-, h⟩
    · rcases kE_inv h' with ⟨a', -⟩ | ⟨-, h'⟩
      · rw [a, a']
      · exact absurd (by have := (kE_mem h').1; rw [b] at this; exact this) hn2.1
    · rcases kE_inv h' with ⟨-, b'⟩ | ⟨-, h'⟩
      · exact absurd (by have := (kE_mem h).1; rw [b'] at this; exact this) hn2.1
      · exact kE_inj hn2.2 h h'
theorem cdE_neg (E : Nat) : cdE E < 0 := by unfold cdE; split <;> (try split) <;> omega
/-- the counts are the same -/
def Sm (τ τ' : Sg) : Prop := τ' 0 4 = τ 0 4 ∧ τ' 0 9 = τ 0 9 ∧ τ' 0 23 = τ 0 23 ∧ τ' 0 21 = τ 0 21
def Tw (js : List Nat) (f : Sg → Option ((Int ⊕ Nat) × Sg)) (σ1 σ2 τ : Sg) (C : Int → Sg → Prop) : Prop := ∃ (k : Int) (p1 p2 τ' : Sg), wrq js (f σ1) = some (k, p1) ∧ wrq js (f σ2) = some (k, p2) ∧ RelW p1 τ' ∧ RelW p2 τ' ∧ ((k < 0 ∧ Sm τ τ') ∨ C k τ')
theorem tw_of {es : List (Nat × Int)} {js : List Nat} {f : Sg → Option ((Int ⊕ Nat) × Sg)} {g : Option (Int × Sg)} {σ1 σ2 τ : Sg} {C : Int → Sg → Prop} (h1 : ∃ q r, f σ1 = some q ∧ g = some r ∧ Ag es q.1 r.1 (r.2 0 0) ∧ RelW q.2 r.2) (h2 : ∃ q r, f σ2 = some q ∧ g = some r ∧ Ag es q.1 r.1 (r.2 0 0) ∧ RelW q.2 r.2)
    (hn : (es.map (·.2)).Nodup) (hj : es.map (·.1) = js) (hc : ∀ v τ', g = some (v, τ') → (¬ τ' 0 0 = 0 ∧ Sm τ τ') ∨ (τ' 0 0 = 0 ∧ C v τ')) : Tw js f σ1 σ2 τ C := by
  subst hj
  obtain ⟨⟨x1, p1⟩, ⟨v, τ'⟩, a1, a2, a3, a4⟩ := h1
  obtain ⟨⟨x2, p2⟩, r2, b1, b2, b3, b4⟩ := h2
  rw [a2] at b2
  cases b2
  have hcc := hc v τ' a2
  unfold Tw wrq
  match x1, x2, a3, b3 with
  | .inl y1, .inl y2, a3, b3 =>
    obtain ⟨z, e1⟩ := a3
    obtain ⟨-, e2⟩ := b3
    dsimp only at z e1 e2
    subst e1
    refine ⟨v, p1, p2, τ', by rw [a1]; rfl, by rw [b1, ← e2]; rfl, a4, b4, ?_⟩
    rcases hcc with ⟨q, -⟩ | ⟨-, q⟩
    · exact absurd z q
    · exact Or.inr q
  | .inl y1, .inr E2, a3, b3 => exact absurd a3.1 (by have := b3.2.1; dsimp only at this ⊢; omega)
  | .inr E1, .inl y2, a3, b3 => exact absurd b3.1 (by have := a3.2.1; dsimp only at this ⊢; omega)
  | .inr E1, .inr E2, a3, b3 =>
    obtain rfl := kE_inj hn a3.1 b3.1
    have hm := (kE_mem a3.1).2
    refine ⟨cdE E1, p1, p2, τ', ?_, ?_, a4, b4, ?_⟩
    · rw [a1]
      show (if E1 ∈ es.map (·.1) then some (cdE E1) else none).bind _ = _
      rw [if_pos hm]; rfl
    · rw [b1]
      show (if E1 ∈ es.map (·.1) then some (cdE E1) else none).bind _ = _
      rw [if_pos hm]; rfl
    · rcases hcc with ⟨-, q⟩ | ⟨q, -⟩
      · exact Or.inl ⟨cdE_neg E1, q⟩
      · have := a3.2.1
        dsimp only at this
        omega
theorem cn_of {es : List (Nat × Int)} {f : Option ((Int ⊕ Nat) × Sg)} {g : Option (Int × Sg)} {σ τ τ2 : Sg} {w : Int} {P : Int → Sg → Sg → Prop} (h : Thr es f g σ τ ∨ ∃ v σ' τ', Okk f g v σ' τ' ∧ P v σ' τ') (hg : g = some (w, τ2)) : (¬ τ2 0 0 = 0 ∧ Sm τ τ2) ∨ (τ2 0 0 = 0 ∧ ∃ σ', P w σ' τ2) := by
  rcases h with ⟨E, t, h1, h2, h3, h4, h5⟩ | ⟨v, σ', τ', ⟨h1, h2, h3⟩, hp⟩
  · rw [hg] at h2
    cases h2
    refine Or.inl ⟨by rw [up2_at rfl rfl]; omega, ?_⟩
    unfold Sm
    rw [up2_idx (by omega), up2_idx (by omega), up2_idx (by omega), up2_idx (by omega)]
    exact ⟨rfl, rfl, rfl, rfl⟩
  · rw [hg] at h2
    cases h2
    exact Or.inr ⟨h3, σ', hp⟩
theorem cn_w {es : List (Nat × Int)} {f : Option ((Int ⊕ Nat) × Sg)} {g : Option (Int × Sg)} {σ τ τ2 : Sg} {w : Int} {P : Int → Sg → Sg → Prop} (h : ThrW es f g σ τ ∨ ∃ v σ' τ', Okk f g v σ' τ' ∧ P v σ' τ') (hg : g = some (w, τ2)) : (¬ τ2 0 0 = 0 ∧ Sm τ τ2) ∨ (τ2 0 0 = 0 ∧ ∃ σ', P w σ' τ2) := by
  rcases h with ⟨E, t, τ3, h1, h2, h9, h3, h4, h5⟩ | ⟨v, σ', τ', ⟨h1, h2, h3⟩, hp⟩
  · rw [hg] at h2
    cases h2
    refine Or.inl ⟨by rw [up2_at rfl rfl]; omega, ?_⟩
    unfold Sm
    rw [up2_idx (by omega), up2_idx (by omega), up2_idx (by omega), up2_idx (by omega), h9 0 (by decide)]
    exact ⟨rfl, rfl, rfl, rfl⟩
  · rw [hg] at h2
    cases h2
    exact Or.inr ⟨h3, σ', hp⟩
def CV (τ : Sg) (k : Int) (τ' : Sg) : Prop := 0 ≤ k ∧ τ' 0 4 = τ 0 4 + 1 ∧ τ' 0 9 = τ 0 9 ∧ τ' 0 23 = τ 0 23 ∧ τ' 0 21 = τ 0 21
def CP (τ : Sg) (k : Int) (τ' : Sg) : Prop := 0 ≤ k ∧ τ' 0 4 = τ 0 4 ∧ τ' 0 9 = τ 0 9 + 1 ∧ τ' 0 23 = τ 0 23 ∧ τ' 0 21 = τ 0 21
def CB (τ : Sg) (a : Int) (k : Int) (τ' : Sg) : Prop := 0 ≤ k ∧ τ' 0 4 = τ 0 4 ∧ τ' 0 9 = τ 0 9 ∧ τ' 0 23 = 0 ∧ τ' 0 21 = a
def CA (τ : Sg) (k : Int) (τ' : Sg) : Prop := 0 ≤ k ∧ τ' 0 4 = τ 0 4 ∧ τ' 0 9 = τ 0 9 ∧ τ' 0 23 = k + 1 ∧ τ' 0 21 = τ 0 21
def CS (τ : Sg) (k : Int) (τ' : Sg) : Prop := 0 ≤ k ∧ τ' 0 4 = τ 0 4 ∧ τ' 0 9 = τ 0 9 ∧ τ' 0 23 = k ∧ τ' 0 21 = τ 0 21
def CG (τ : Sg) (k : Int) (τ' : Sg) : Prop := 0 ≤ k ∧ τ' 0 4 = τ 0 4 ∧ τ' 0 9 = τ 0 9 + 1 ∧ τ' 0 23 = k ∧ τ' 0 21 = τ 0 21
section TW
variable {σ1 σ2 τ : Sg}
theorem t_constructor (h1 : RelW σ1 τ) (h2 : RelW σ2 τ) (r1 : inRs σ1) (r2 : inRs σ2) (rt : inRt τ) {a1 a2 a3 a4 a5 : Int} (b1 : inR a1) (b2 : inR a2) (b3 : inR a3) (b4 : inR a4) (b5 : inR a5) : Tw [0, 1, 2] (F_X10_constructor a1 a2 a3 a4 a5) σ1 σ2 τ (fun _ τ' => Sm τ τ') :=
  tw_of (es := [(0, 1), (1, 2), (2, 3)]) (w_constructor σ1 τ a1 a2 a3 a4 a5 h1 b1 b2 b3 b4 b5 r1 rt) (w_constructor σ2 τ a1 a2 a3 a4 a5 h2 b1 b2 b3 b4 b5 r2 rt) (by decide) rfl (fun v τ' hg => (cn_of (op_constructor a1 a2 a3 a4 a5 h1.1.1 b1 b2 b3 b4 b5) hg).imp id (fun ⟨z, σ', o2, o3, o4, o5⟩ => ⟨z, o4 4 (by decide), o4 9 (by decide), o4 23 (by decide), o4 21 (by decide)⟩))
theorem t_num (h1 : RelW σ1 τ) (h2 : RelW σ2 τ) (r1 : inRs σ1) (r2 : inRs σ2) (rt : inRt τ) {a1 : Int} (b1 : inR a1) : Tw [1, 2] (F_X10_num a1) σ1 σ2 τ (CV τ) :=
  tw_of (es := [(1, 1), (2, 2)]) (w_num σ1 τ a1 h1 b1 r1 rt) (w_num σ2 τ a1 h2 b1 r2 rt) (by decide) rfl (fun v τ' hg => (cn_of (op_num2 a1 h1.1.2.1 h1.wf.2.1 b1) hg).imp id (fun ⟨z, σ', o2, o3, o4, o5, o6, o7⟩ => ⟨z, by have := h1.1.2.1.2.1.1; omega, o7, o4 9 (by decide), o4 23 (by decide), o4 21 (by decide)⟩))
theorem t_seq (h1 : RelW σ1 τ) (h2 : RelW σ2 τ) (r1 : inRs σ1) (r2 : inRs σ2) (rt : inRt τ) {a1 a2 a3 a4 : Int} (b1 : inR a1) (b2 : inR a2) (b3 : inR a3) (b4 : inR a4) : Tw [1, 2] (F_X10_seq a1 a2 a3 a4) σ1 σ2 τ (CV τ) :=
  tw_of (es := [(1, 1), (2, 2)]) (w_seq σ1 τ a1 a2 a3 a4 h1 b1 b2 b3 b4 r1 rt) (w_seq σ2 τ a1 a2 a3 a4 h2 b1 b2 b3 b4 r2 rt) (by decide) rfl (fun v τ' hg => (cn_of (op_seq2 a1 a2 a3 a4 h1.1.2.1 h1.wf.2.1) hg).imp id (fun ⟨z, σ', o2, o3, o4, o5, o6, o7⟩ => ⟨z, by have := h1.1.2.1.2.1.1; omega, o7, o4 9 (by decide), o4 23 (by decide), o4 21 (by decide)⟩))
theorem t_data (h1 : RelW σ1 τ) (h2 : RelW σ2 τ) (r1 : inRs σ1) (r2 : inRs σ2) (rt : inRt τ) {a1 a2 a3 a4 a5 : Int} (b1 : inR a1) (b2 : inR a2) (b3 : inR a3) (b4 : inR a4) (b5 : inR a5) : Tw [0, 1, 2] (F_X10_data a1 a2 a3 a4 a5) σ1 σ2 τ (CV τ) :=
  tw_of (es := [(0, 1), (1, 2), (2, 3)]) (w_data σ1 τ a1 a2 a3 a4 a5 h1 b1 b2 b3 b4 b5 r1 rt) (w_data σ2 τ a1 a2 a3 a4 a5 h2 b1 b2 b3 b4 b5 r2 rt) (by decide) rfl (fun v τ' hg => (cn_of (op_data2 a1 a2 a3 a4 a5 h1.1.1 h1.1.2.1) hg).imp id (fun ⟨z, σ', o2, o3, o4, o5, o6, o7⟩ => ⟨z, by have := h1.1.2.1.2.1.1; omega, o7, o4 9 (by decide), o4 23 (by decide), o4 21 (by decide)⟩))
theorem cp_of {es : List (Nat × Int)} {f : Option ((Int ⊕ Nat) × Sg)} {g : Option (Int × Sg)} {v : Int} {τ' : Sg} (hr : RelW σ1 τ) (h : OpP2 es f g σ1 τ) (hg : g = some (v, τ')) : (¬ τ' 0 0 = 0 ∧ Sm τ τ') ∨ (τ' 0 0 = 0 ∧ CP τ v τ') :=
  (cn_of h hg).imp id (fun ⟨z, σ', ⟨o1, o2, o3, o4, o5, o6⟩, o7⟩ => ⟨z, by have := hr.1.2.2.1.2.1.1; omega, o3 4 (by omega) (by omega), o6, o3 23 (by omega) (by omega), o3 21 (by omega) (by omega)⟩)
theorem t_any (h1 : RelW σ1 τ) (h2 : RelW σ2 τ) (r1 : inRs σ1) (r2 : inRs σ2) (rt : inRt τ) : Tw [2] F_X10_any σ1 σ2 τ (CP τ) :=
  tw_of (es := [(2, 1)]) (w_any σ1 τ h1 r1 rt) (w_any σ2 τ h2 r2 rt) (by decide) rfl (fun v τ' hg => cp_of h1 (op_any2 h1.1.2.2.1 h1.wf.2.1) hg)
theorem t_name (h1 : RelW σ1 τ) (h2 : RelW σ2 τ) (r1 : inRs σ1) (r2 : inRs σ2) (rt : inRt τ) {a1 a2 : Int} (b1 : inR a1) (b2 : inR a2) : Tw [0, 1, 2] (F_X10_name a1 a2) σ1 σ2 τ (CP τ) :=
  tw_of (es := [(0, 1), (1, 2), (2, 3)]) (w_name σ1 τ a1 a2 h1 b1 b2 r1 rt) (w_name σ2 τ a1 a2 h2 b1 b2 r2 rt) (by decide) rfl (fun v τ' hg => cp_of h1 (op_name2 a1 a2 h1.1.2.2.1 h1.wf.2.1) hg)
theorem t_range (h1 : RelW σ1 τ) (h2 : RelW σ2 τ) (r1 : inRs σ1) (r2 : inRs σ2) (rt : inRt τ) {a1 a2 : Int} (b1 : inR a1) (b2 : inR a2) : Tw [1, 2] (F_X10_range a1 a2) σ1 σ2 τ (CP τ) :=
  tw_of (es := [(1, 1), (2, 2)]) (w_range σ1 τ a1 a2 h1 b1 b2 r1 rt) (w_range σ2 τ a1 a2 h2 b1 b2 r2 rt) (by decide) rfl (fun v τ' hg => cp_of h1 (op_range2 a1 a2 h1.1.2.2.1 h1.wf.2.1) hg)
theorem t_make (h1 : RelW σ1 τ) (h2 : RelW σ2 τ) (r1 : inRs σ1) (r2 : inRs σ2) (rt : inRt τ) {a1 a2 a3 a4 a5 : Int} (b1 : inR a1) (b2 : inR a2) (b3 : inR a3) (b4 : inR a4) (b5 : inR a5) : Tw [0, 1, 2] (F_X10_make a1 a2 a3 a4 a5) σ1 σ2 τ (CP τ) :=
  tw_of (es := [(0, 1), (1, 2), (2, 3)]) (w_make σ1 τ a1 a2 a3 a4 a5 h1 b1 b2 b3 b4 b5 r1 rt) (w_make σ2 τ a1 a2 a3 a4 a5 h2 b1 b2 b3 b4 b5 r2 rt) (by decide) rfl (fun v τ' hg => cp_of h1 (op_make2 a1 a2 a3 a4 a5 h1.1.1 h1.1.2.2.1) hg)
theorem t_either (h1 : RelW σ1 τ) (h2 : RelW σ2 τ) (r1 : inRs σ1) (r2 : inRs σ2) (rt : inRt τ) {a1 a2 : Int} (b1 : inR a1) (b2 : inR a2) : Tw [0, 1, 2] (F_X10_either a1 a2) σ1 σ2 τ (CP τ) :=
  tw_of (es := [(0, 1), (1, 2), (2, 3)]) (w_either σ1 τ a1 a2 h1 b1 b2 r1 rt) (w_either σ2 τ a1 a2 h2 b1 b2 r2 rt) (by decide) rfl (fun v τ' hg => cp_of h1 (op_either2 a1 a2 h1.1.2.2.1 h1.wf.2.1) hg)
theorem t_view (h1 : RelW σ1 τ) (h2 : RelW σ2 τ) (r1 : inRs σ1) (r2 : inRs σ2) (rt : inRt τ) {a1 a2 : Int} (b1 : inR a1) (b2 : inR a2) : Tw [0, 1, 2] (F_X10_view a1 a2) σ1 σ2 τ (CP τ) :=
  tw_of (es := [(0, 1), (1, 2), (2, 3)]) (w_view σ1 τ a1 a2 h1 b1 b2 r1 rt) (w_view σ2 τ a1 a2 h2 b1 b2 r2 rt) (by decide) rfl (fun v τ' hg => cp_of h1 (op_view2 a1 a2 h1.1.2.2.1 h1.wf.2.1) hg)
theorem t_list (h1 : RelW σ1 τ) (h2 : RelW σ2 τ) (r1 : inRs σ1) (r2 : inRs σ2) (rt : inRt τ) {a1 a2 a3 a4 : Int} (b1 : inR a1) (b2 : inR a2) (b3 : inR a3) (b4 : inR a4) : Tw [0, 1, 2] (F_X10_list a1 a2 a3 a4) σ1 σ2 τ (CP τ) :=
  tw_of (es := [(0, 1), (1, 2), (2, 3)]) (w_list σ1 τ a1 a2 a3 a4 h1 b1 b2 b3 b4 r1 rt) (w_list σ2 τ a1 a2 a3 a4 h2 b1 b2 b3 b4 r2 rt) (by decide) rfl (fun v τ' hg => cp_of h1 (op_list2 a1 a2 a3 a4 h1.1.2.2.1 h1.wf.2.1) hg)
theorem t_setView (h1 : RelW σ1 τ) (h2 : RelW σ2 τ) (r1 : inRs σ1) (r2 : inRs σ2) (rt : inRt τ) {a1 a2 a3 a4 a5 : Int} (b1 : inR a1) (b2 : inR a2) (b3 : inR a3) (b4 : inR a4) (b5 : inR a5) : Tw [0, 1] (F_X10_setView a1 a2 a3 a4 a5) σ1 σ2 τ (fun _ τ' => Sm τ τ') :=
  tw_of (es := [(0, 1), (1, 2)]) (w_setView σ1 τ a1 a2 a3 a4 a5 h1 b1 b2 b3 b4 b5 r1 rt) (w_setView σ2 τ a1 a2 a3 a4 a5 h2 b1 b2 b3 b4 b5 r2 rt) (by decide) rfl (fun v τ' hg => (cn_of (op_setView a1 a2 a3 a4 a5 h1.1.2.2.2.1) hg).imp id (fun ⟨z, σ', o2, o3, o4, o5⟩ => ⟨z, o4 4 (by decide), o4 9 (by decide), o4 23 (by decide), o4 21 (by decide)⟩))
theorem t_begin (h1 : RelW σ1 τ) (h2 : RelW σ2 τ) (r1 : inRs σ1) (r2 : inRs σ2) (rt : inRt τ) {a1 a2 a3 a4 : Int} (b1 : inR a1) (b2 : inR a2) (b3 : inR a3) (b4 : inR a4) : Tw [1] (F_X10_begin a1 a2 a3 a4) σ1 σ2 τ (CB τ a1) :=
  tw_of (es := [(1, 1)]) (w_begin σ1 τ a1 a2 a3 a4 h1 b1 b2 b3 b4 r1 rt) (w_begin σ2 τ a1 a2 a3 a4 h2 b1 b2 b3 b4 r2 rt) (by decide) rfl (fun v τ' hg => (cn_of (op_begin2 a1 a2 a3 a4 h1.1.2.2.2.2.1) hg).imp id (fun ⟨z, σ', o2, o3, o4, o5, o6, o7, o8, o9, o10⟩ => ⟨z, o8, o4 4 (by decide), o4 9 (by decide), o10, o9⟩))
theorem t_add (h1 : RelW σ1 τ) (h2 : RelW σ2 τ) (r1 : inRs σ1) (r2 : inRs σ2) (rt : inRt τ) {a1 a2 a3 a4 : Int} (b1 : inR a1) (b2 : inR a2) (b3 : inR a3) (b4 : inR a4) : Tw [0, 1, 2] (F_X10_add a1 a2 a3 a4) σ1 σ2 τ (CA τ) :=
  tw_of (es := [(0, 1), (1, 2), (2, 3)]) (w_add σ1 τ a1 a2 a3 a4 h1 b1 b2 b3 b4 r1 rt) (w_add σ2 τ a1 a2 a3 a4 h2 b1 b2 b3 b4 r2 rt) (by decide) rfl (fun v τ' hg => (cn_of (op_add2 a1 a2 a3 a4 h1.1.2.2.1 h1.1.2.2.2.2.1) hg).imp id (fun ⟨z, σ', o2, o3, o4, o5, o6, o7, o8⟩ => ⟨z, by have := h1.wf.2.2.1.2.1.1; omega, o4 4 (by decide), o4 9 (by decide), by omega, o4 21 (by decide)⟩))
theorem t_guard (h1 : RelW σ1 τ) (h2 : RelW σ2 τ) (r1 : inRs σ1) (r2 : inRs σ2) (rt : inRt τ) {a1 a2 a3 a4 : Int} (b1 : inR a1) (b2 : inR a2) (b3 : inR a3) (b4 : inR a4) : Tw [0, 1] (F_X10_guard a1 a2 a3 a4) σ1 σ2 τ (fun _ τ' => Sm τ τ') :=
  tw_of (es := [(0, 1), (1, 2)]) (w_guard σ1 τ a1 a2 a3 a4 h1 b1 b2 b3 b4 r1 rt) (w_guard σ2 τ a1 a2 a3 a4 h2 b1 b2 b3 b4 r2 rt) (by decide) rfl (fun v τ' hg => (cn_w (op_guard a1 a2 a3 a4 h1.1.1 h1.1.2.2.1 h1.1.2.2.2.2.1) hg).imp id (fun ⟨z, σ', o2, o3, o4, o5⟩ => ⟨z, o4 4 (by decide), o4 9 (by decide), o4 23 (by decide), o4 21 (by decide)⟩))
theorem t_split (h1 : RelW σ1 τ) (h2 : RelW σ2 τ) (r1 : inRs σ1) (r2 : inRs σ2) (rt : inRt τ) {a1 a2 : Int} (b1 : inR a1) (b2 : inR a2) : Tw [0, 2] (F_X10_split a1 a2) σ1 σ2 τ (CS τ) :=
  tw_of (es := [(0, 1), (2, 2)]) (w_split σ1 τ a1 a2 h1 b1 b2 r1 rt) (w_split σ2 τ a1 a2 h2 b1 b2 r2 rt) (by decide) rfl (fun v τ' hg => (cn_of (op_split2 a1 a2 h1.wf.2.1 h1.1.2.2.1 h1.1.2.2.2.2.1) hg).imp id (fun ⟨z, σ', o2, o3, o4, o5, o6, o7⟩ => ⟨z, by have := o5.2.2.2.1.2.1.1; omega, o4 4 (by decide), o4 9 (by decide), o7.symm, o4 21 (by decide)⟩))
theorem t_merge (h1 : RelW σ1 τ) (h2 : RelW σ2 τ) (r1 : inRs σ1) (r2 : inRs σ2) (rt : inRt τ) {a1 a2 : Int} (b1 : inR a1) (b2 : inR a2) : Tw [0, 2] (F_X10_merge a1 a2) σ1 σ2 τ (CG τ) :=
  tw_of (es := [(0, 1), (2, 2)]) (w_merge σ1 τ a1 a2 h1 b1 b2 r1 rt) (w_merge σ2 τ a1 a2 h2 b1 b2 r2 rt) (by decide) rfl (fun v τ' hg => (cn_of (op_merge2 a1 a2 h1.wf.2.1 h1.1.2.2.1 h1.1.2.2.2.2.1) hg).imp id (fun ⟨z, σ', o2, o3, o4, o5, o6, o7, o8, o9, o10⟩ => ⟨z, by have := o7.2.2.2.1.2.1.1; omega, o4 4 (by decide), o10, o9.symm, o4 21 (by decide)⟩))
end TW
