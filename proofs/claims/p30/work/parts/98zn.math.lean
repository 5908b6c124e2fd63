/-! a node planted by the given program -/
theorem width_fr {σ s : Sg} (h1 : s 37 = σ 37) (h2 : s 2 = σ 2) (h3 : s 23 = σ 23) : F_X3_width s = F_X3_width σ := by
  unfold F_X3_width F_X2_headsOf F_X9_manyOf rdD
  rw [h1, h2, h3]
theorem width_c {σ τ : Sg} {a : Ask} (hK : RK σ τ) (hW : RW σ τ) (hx : Nx σ a) (ha : okAs a) (h4 : a.1 = 4 → a.2.2 ≤ 2) : F_X3_width σ = ((wid τ a : Nat) : Int) := by
  obtain ⟨x1, x2, x3⟩ := hx
  have hb := ha.2.2
  unfold F_X3_width wid
  rw [x1, x3]
  by_cases c3 : a.1 = 3
  · rw [if_pos c3, if_pos c3]
    unfold F_X2_headsOf hds
    by_cases k4 : a.2.2 = 4
    · rw [if_pos k4, if_pos k4]; rfl
    rw [if_neg k4, if_neg k4]
    by_cases k5 : a.2.2 = 5
    · rw [if_pos k5, if_pos k5]; rfl
    rw [if_neg k5, if_neg k5, rdD_ok hb.1 (by omega), hK.1 a.2.2.toNat (by omega)]
    have := hK.2.2.2.1 a.2.2.toNat (by omega)
    omega
  rw [if_neg c3, if_neg c3]
  by_cases c4 : a.1 = 4
  · have h2 := h4 c4
    rw [if_pos c4, if_pos c4]
    unfold F_X9_manyOf
    rw [wrap_id (z := a.2.2 * 4) (by omega) (by omega), wrap_id (by omega) (by omega), rdD_ok (by omega) (by omega), hW.1 _ (by omega), show (a.2.2 * 4 + 3).toNat = (4 * a.2.2 + 3).toNat by omega]
    have := hW.2 a.2.2.toNat (by omega)
    rw [show 4 * a.2.2.toNat + 3 = (4 * a.2.2 + 3).toNat by omega] at this
    omega
  rw [if_neg c4, if_neg c4]
  by_cases c5 : a.1 = 5
  · rw [if_pos c5]; rfl
  · rw [if_neg c5]; rfl
theorem keep84 {s : Sg} {t N : Nat} {a : Ask} {y : Bool} (ht : 43 ≤ t) (hx : Nx s a) (h7 : 0 ≤ s t 7 ∧ s t 7 ≤ 500) : ∃ σ', B_X7_keepNext_84 t N a.1 y s = σ' ∧ σ' t 3 = b2i y ∧ σ' t 7 = (if a.1 = 2 then s t 7 + 1 else s t 7) ∧ σ' t 8 = (if a.1 = 2 ∧ s t 7 = 0 then (N : Int) else s t 8) ∧ σ' t 9 = (if a.1 = 0 ∨ a.1 = 1 then jor (s t 9) (jshl 1 a.2.1) else s t 9) ∧ ∀ r i, ¬ (r = t ∧ (i = 3 ∨ i = 7 ∨ i = 8 ∨ i = 9)) → σ' r i = s r i := by
  obtain ⟨x1, x2, x3⟩ := hx
  have hup : ∀ (s : Sg) (i : Nat) (v : Int) (r j : Nat), ¬ (r = t ∧ j = i) → up2 s t i v r j = s r j := fun s i v r j q => by
    unfold up2; rw [if_neg q]
  have h133 : ∀ s' : Sg, s' t 9 = s t 9 → s' 37 6 = a.2.1 → B_X7_keepNext_133 t s' = up2 s' t 9 (jor (s t 9) (jshl 1 a.2.1)) := fun s' q1 q2 => by
    unfold B_X7_keepNext_133 F_X3_what
    rw [bnd_eq, q1, q2]
  unfold B_X7_keepNext_84
  rw [bnd_eq]
  by_cases c2 : a.1 = 2
  · have h108 : ∀ v : Int, B_X7_keepNext_108 t v (up2 s t 3 (b2i y)) = up2 (up2 (up2 s t 3 (b2i y)) t 8 v) t 7 (s t 7 + 1) := fun v => by
      unfold B_X7_keepNext_108
      rw [bnd_eq, bnd_eq, up2_idx (by omega), up2_idx (by omega), wrap_id (by omega) (by omega)]
    rw [if_pos c2, if_pos c2, up2_idx (by omega), up2_idx (by omega), h108, h108]
    by_cases z : s t 7 = 0
    · rw [if_pos z, if_pos (show a.1 = 2 ∧ s t 7 = 0 from ⟨c2, z⟩), if_neg (show ¬ (a.1 = 0 ∨ a.1 = 1) by omega)]
      exact ⟨_, rfl, by rw [up2_idx (by omega), up2_idx (by omega), up2_at rfl rfl], by rw [up2_at rfl rfl], by rw [up2_idx (by omega), up2_at rfl rfl], by rw [up2_idx (by omega), up2_idx (by omega), up2_idx (by omega)], fun r i q => by rw [hup _ _ _ _ _ (fun w => q ⟨w.1, by omega⟩), hup _ _ _ _ _ (fun w => q ⟨w.1, by omega⟩), hup _ _ _ _ _ (fun w => q ⟨w.1, by omega⟩)]⟩
    · rw [if_neg z, if_neg (show ¬ (a.1 = 2 ∧ s t 7 = 0) from fun w => z w.2), if_neg (show ¬ (a.1 = 0 ∨ a.1 = 1) by omega)]
      exact ⟨_, rfl, by rw [up2_idx (by omega), up2_idx (by omega), up2_at rfl rfl], by rw [up2_at rfl rfl], by rw [up2_idx (by omega), up2_at rfl rfl], by rw [up2_idx (by omega), up2_idx (by omega), up2_idx (by omega)], fun r i q => by rw [hup _ _ _ _ _ (fun w => q ⟨w.1, by omega⟩), hup _ _ _ _ _ (fun w => q ⟨w.1, by omega⟩), hup _ _ _ _ _ (fun w => q ⟨w.1, by omega⟩)]⟩
  rw [if_neg c2, if_neg c2, if_neg (show ¬ (a.1 = 2 ∧ s t 7 = 0) from fun w => c2 w.1)]
  rw [h133 (up2 s t 3 (b2i y)) (by rw [up2_idx (by omega)]) (by rw [up2_row (by omega)]; exact x2)]
  by_cases c01 : a.1 = 0 ∨ a.1 = 1
  · have hsame : (if a.1 = 0 then up2 (up2 s t 3 (b2i y)) t 9 (jor (s t 9) (jshl 1 a.2.1)) else if a.1 = 1 then up2 (up2 s t 3 (b2i y)) t 9 (jor (s t 9) (jshl 1 a.2.1)) else up2 s t 3 (b2i y)) = up2 (up2 s t 3 (b2i y)) t 9 (jor (s t 9) (jshl 1 a.2.1)) := by
      rcases c01 with z | z
      · rw [if_pos z]
      · rw [if_neg (by omega), if_pos z]
    rw [hsame, if_pos c01]
    exact ⟨_, rfl, by rw [up2_idx (by omega), up2_at rfl rfl], by rw [up2_idx (by omega), up2_idx (by omega)], by rw [up2_idx (by omega), up2_idx (by omega)], by rw [up2_at rfl rfl], fun r i q => by rw [hup _ _ _ _ _ (fun w => q ⟨w.1, by omega⟩), hup _ _ _ _ _ (fun w => q ⟨w.1, by omega⟩)]⟩
  · rw [if_neg (show ¬ a.1 = 0 from fun w => c01 (Or.inl w)), if_neg (show ¬ a.1 = 1 from fun w => c01 (Or.inr w)), if_neg c01]
    exact ⟨_, rfl, by rw [up2_at rfl rfl], by rw [up2_idx (by omega)], by rw [up2_idx (by omega)], by rw [up2_idx (by omega)], fun r i q => by rw [hup _ _ _ _ _ (fun w => q ⟨w.1, by omega⟩)]⟩
/-- what is kept of what a node asks -/
def Kept (t N B w : Nat) (a : Ask) (σ σ' : Sg) : Prop := σ' (t + 1) N = enA a ∧ σ' (t + 2) N = B ∧ σ' t 5 = ((B + w : Nat) : Int) ∧ σ' t 3 = (if B + w + 1 ≤ 500 then 0 else 1) ∧ σ' t 7 = (if a.1 = 2 then σ t 7 + 1 else σ t 7) ∧ σ' t 8 = (if a.1 = 2 ∧ σ t 7 = 0 then (N : Int) else σ t 8) ∧ σ' t 9 = (if a.1 = 0 ∨ a.1 = 1 then jor (σ t 9) (jshl 1 a.2.1) else σ t 9) ∧ ∀ r i, ¬ ((r = t + 1 ∨ r = t + 2) ∧ i = N) → ¬ (r = t ∧ (i = 3 ∨ i = 5 ∨ i = 7 ∨ i = 8 ∨ i = 9)) → σ' r i = σ r i
set_option maxHeartbeats 4000000 in
theorem keepN_c {σ : Sg} {t N B w : Nat} {a : Ask} (ht : 43 ≤ t) (hN : N < 500) (hx : Nx σ a) (ha : okAs a) (h5 : σ t 5 = B) (hB : B ≤ 500) (hw : F_X3_width σ = (w : Int)) (hw10 : w ≤ 10) (h7 : 0 ≤ σ t 7 ∧ σ t 7 ≤ 500) : Kept t N B w a σ (F_X7_keepNext t N σ) := by
  obtain ⟨x1, x2, x3⟩ := id hx
  obtain ⟨e1, -, -, -⟩ := enA_c ha
  have hn : ((N : Int)).toNat = N := by omega
  have hs5 : F_X3_width (up2 (up2 σ (t + 1) N (enA a)) (t + 2) N B) = (w : Int) := by
    rw [← hw]
    exact width_fr (by funext j; rw [up2_row (by omega), up2_row (by omega)]) (by funext j; rw [up2_row (by omega), up2_row (by omega)]) (by funext j; rw [up2_row (by omega), up2_row (by omega)])
  have hunf : ∃ y : Bool, (y = true ↔ ¬ B + w + 1 ≤ 500) ∧ F_X7_keepNext t N σ = B_X7_keepNext_84 t N a.1 y (up2 (up2 (up2 σ (t + 1) N (enA a)) (t + 2) N B) t 5 ((B + w : Nat) : Int)) := by
    unfold F_X7_keepNext F_X3_sort F_X3_which F_X3_what
    rw [bnd_eq, x1, x2, x3, e1, wrD_ok (by omega) (by omega), bnd_eq, hn, up2_row (show ¬ t = t + 1 by omega), h5, wrD_ok (by omega) (by omega), bnd_eq, hn, up2_row (show ¬ t = t + 2 by omega), up2_row (show ¬ t = t + 1 by omega), h5, hs5, wrap_id (z := (B : Int) + w) (by omega) (by omega), bnd_eq, up2_at rfl rfl, wrap_id (by omega) (by omega), show (B : Int) + w = ((B + w : Nat) : Int) by omega]
    by_cases g : B + w + 1 ≤ 500
    · rw [if_pos (by omega)]
      exact ⟨false, ⟨fun q => (by cases q), fun q => absurd g q⟩, rfl⟩
    · rw [if_neg (by omega)]
      exact ⟨true, ⟨fun _ => g, fun _ => rfl⟩, rfl⟩
  obtain ⟨y, y1, y2⟩ := hunf
  obtain ⟨σ', k1, k2, k3, k4, k5, k6⟩ := keep84 (N := N) (y := y) (s := up2 (up2 (up2 σ (t + 1) N (enA a)) (t + 2) N B) t 5 ((B + w : Nat) : Int)) (a := a) ht ⟨by rw [up2_row (by omega), up2_row (by omega), up2_row (by omega)]; exact x1, by rw [up2_row (by omega), up2_row (by omega), up2_row (by omega)]; exact x2, by rw [up2_row (by omega), up2_row (by omega), up2_row (by omega)]; exact x3⟩ (by rw [up2_idx (by omega), up2_row (by omega), up2_row (by omega)]; exact h7)
  have c7 : ∀ i, ¬ i = 5 → (up2 (up2 (up2 σ (t + 1) N (enA a)) (t + 2) N B) t 5 ((B + w : Nat) : Int)) t i = σ t i := fun i hi => by rw [up2_idx hi, up2_row (by omega), up2_row (by omega)]
  rw [c7 7 (by omega)] at k3 k4
  rw [c7 8 (by omega)] at k4
  rw [c7 9 (by omega)] at k5
  rw [y2, k1]
  refine ⟨?_, ?_, ?_, ?_, k3, k4, k5, fun r i q1 q2 => ?_⟩
  · rw [k6 _ _ (by omega), up2_row (by omega), up2_row (by omega), up2_at rfl rfl]
  · rw [k6 _ _ (by omega), up2_row (by omega), up2_at rfl rfl]
  · rw [k6 _ _ (by omega), up2_at rfl rfl]
  · rw [k2]
    by_cases g : B + w + 1 ≤ 500
    · rw [if_pos g]
      cases y with
      | false => rfl
      | true => exact absurd g (y1.mp rfl)
    · rw [if_neg g, y1.mpr g]; rfl
  · rw [k6 r i (fun z => q2 ⟨z.1, by omega⟩)]
    unfold up2
    rw [if_neg (fun z => q2 ⟨z.1, by omega⟩), if_neg (fun z => q1 ⟨Or.inr z.1, z.2⟩), if_neg (fun z => q1 ⟨Or.inl z.1, z.2⟩)]
