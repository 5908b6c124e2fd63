/-! accounts that a run doesn't tell apart -/
def WE (w w' : Sg) : Prop := (∀ r, 1 ≤ r → r ≤ 24 → w' r = w r) ∧ w' 35 = w 35 ∧ w' 0 21 = w 0 21
section WEs
variable {w w' : Sg}
theorem we_vaF (h : WE w w') : ∀ (n : Nat) (pl : Int), vaF w' n pl = vaF w n pl
  | 0, _ => rfl
  | n + 1, pl => by
    unfold vaF
    rw [we_vaF h n, h.1 4 (by omega) (by omega), h.1 6 (by omega) (by omega), h.2.1]
theorem we_va (h : WE w w') (pl : Int) : va w' pl = va w pl := we_vaF h _ pl
theorem we_hdR (h : WE w w') : hdR w' = hdR w := by
  funext pl
  unfold hdR
  rw [we_va h, h.1 5 (by omega) (by omega)]
theorem we_msR (h : WE w w') (pl : Int) : msR w' pl = msR w pl := by
  unfold msR
  rw [we_va h, h.1 7 (by omega) (by omega)]
theorem we_gvR (h : WE w w') : gvR w' = gvR w := by
  funext v pl x
  unfold gvR nvR
  rw [we_msR h, h.1 18 (by omega) (by omega)]
theorem we_envR (h : WE w w') : envR w' = envR w := by
  unfold envR
  rw [we_hdR h, we_gvR h]
theorem we_mtG (h : WE w w') {E : EnvQ} {rec : Nat → Int → XS → Res} : mtG w' E rec = mtG w E rec := by
  funext p pl x
  unfold mtG isR partsL part1 skipE prt
  rw [h.1 8 (by omega) (by omega), h.1 9 (by omega) (by omega), h.1 10 (by omega) (by omega), h.1 11 (by omega) (by omega), h.1 12 (by omega) (by omega)]
theorem we_mt (h : WE w w') {E : EnvQ} : ∀ n, mt w' E n = mt w E n
  | 0 => rfl
  | n + 1 => by
    show mtG w' E (mt w' E n) = mtG w E (mt w E n)
    rw [we_mt h n, we_mtG h]
theorem we_tryS (h : WE w w') {E : EnvQ} {c : Nat} {x : XS} : tryS w' E c x = tryS w E c x := by
  unfold tryS colsL col1L cpt
  rw [we_mt h, h.2.2, h.1 20 (by omega) (by omega)]
theorem we_grd (h : WE w w') {H : Int → Int} {c : Nat} {x : XS} : grd w' H c x = grd w H c x := by
  unfold grd
  rw [h.1 22 (by omega) (by omega), h.1 23 (by omega) (by omega), h.1 24 (by omega) (by omega)]
theorem we_plS (h : WE w w') : ∀ (d c : Nat) (x : XS), plS w' d c x = plS w d c x
  | 0, _, _ => rfl
  | d + 1, c, x => by
    unfold plS
    rw [we_envR h, we_tryS h, we_hdR h, we_grd h, we_plS h d]
end WEs
/-! the tests stay in range -/
section INT
variable {τ : Sg}
theorem seq_T {f : Nat → Int → XS → Res} (hf : ∀ n pl x, inR x.2.1 → inR (f n pl x).2.2.1) : ∀ (L : List (Nat × Int)) (x : XS), inR x.2.1 → inR (seqM f L x).2.2.1
  | [], x, h => h
  | q :: L, x, h => by
    unfold seqM
    split
    · exact seq_T hf L _ (hf _ _ _ h)
    · exact hf _ _ _ h
theorem mt_T {E : EnvQ} (h1 : ∀ v pl x, inR x.2.1 → inR (E.2.1 v pl x).2.2.1) (h2 : ∀ x : XS, inR x.2.1 → inR (E.2.2 x).2.1) : ∀ (n p : Nat) (pl : Int) (x : XS), inR x.2.1 → inR (mt τ E n p pl x).2.2.1
  | 0, _, _, _, h => h
  | n + 1, p, pl, x, h => by
    have ih := mt_T h1 h2 n
    show inR (mtG τ E (mt τ E n) p pl x).2.2.1
    unfold mtG
    split
    · exact h
    split
    · exact ih _ _ _ h
    split
    · split
      · exact ih _ _ _ (ih _ _ _ h)
      · exact ih _ _ _ h
    split
    · split
      · exact h1 _ _ _ h
      · exact ih _ _ _ (h1 _ _ _ h)
    split
    · exact h
    split
    · exact seq_T ih _ _ (h2 _ h)
    · exact h2 _ h
theorem gvR_T (v pl : Int) (x : XS) (h : inR x.2.1) : inR (gvR τ v pl x).2.2.1 := by
  unfold gvR
  split <;> exact h
theorem tryS_T {c : Nat} {x : XS} (h : inR x.2.1) : inR (tryS τ (envR τ) c x).2.2.1 := by
  unfold tryS
  exact seq_T (mt_T (fun v pl x h => gvR_T v pl x h) (fun x _ => wrap_in _) 60) _ _ h
theorem plS_T : ∀ (d c : Nat) (x : XS), inR x.2.1 → inR (plS τ d c x).2.2.2.1
  | 0, _, _, h => h
  | d + 1, c, x, h => by
    have h2 := tryS_T (τ := τ) (c := c) h
    unfold plS
    split
    · split
      · exact plS_T d _ _ h2
      · split
        · exact h2
        · exact h2
    · exact plS_T d _ _ h2
theorem wk_T {m : Bool} : ∀ (d : Nat) (P : Pth) (x : XS), inR x.2.1 → inR (wk τ m d P x).2.2.2.1
  | 0, _, _, h => h
  | d + 1, P, x, h => by
    unfold wk
    split
    · exact h
    split
    · exact h
    split
    · exact h
    split
    · exact wk_T d _ _ h
    split
    · exact wk_T d _ _ (gvR_T _ _ _ (wrap_in _))
    · exact wk_T d _ _ (wrap_in _)
theorem outR_T {e : Int} : inR (outR τ e).2.2.2.1 := by
  unfold outR
  split
  · exact plS_T _ _ _ (show inR 0 by unfold inR; omega)
  · exact wk_T _ _ _ (show inR 0 by unfold inR; omega)
end INT
/-! what is seen behind a run -/
def Seen (σ : Sg) (kind : Int) (c : Nat) (x : XS) (v : Int) (p : Sg) : Prop :=
  p 27 3 = x.2.1 ∧ p 27 4 = x.2.2.length ∧ rnc p x.2.2 ∧ (∀ i : Nat, i < 6 → p 31 i = if kind = 2 then -1 else x.1 i) ∧
  (∀ d : Nat, d < 8 → p 26 (8 * d + 7) = if kind = 0 ∧ d = c then wrap (σ 26 (8 * d + 7) + 1) else σ 26 (8 * d + 7)) ∧
  v = if kind = 2 then -1 else if kind = 1 then -2 else σ 26 (8 * c + 3)
theorem seen_of {e a b c0 : Int} {σ τ : Sg} {v : Int} {p : Sg} (hM : RM σ τ) (h : RunObs e a b c0 σ τ v p) : ∃ w, WOK τ a b c0 w ∧ CtxT w ∧ Seen σ (outR w e).1 (outR w e).2.1 (outR w e).2.2 v p ∧ ((outR w e).1 = 0 ∨ (outR w e).1 = 1 ∨ (outR w e).1 = 2) ∧ ((outR w e).1 = 2 ∨ ((outR w e).2.1 : Int) < τ 0 23) ∧ (2 ≤ e → ∀ P, AP w (decide (e = 3)) P → P.length < 500) := by
  obtain ⟨w, σ2, σd, h1, h2, h3, h4, h5, -, h7, h8, h9⟩ := h
  refine ⟨w, h1, h2, ?_, h7, h8, h9⟩
  generalize outR w e = O at *
  obtain ⟨kind, c, x⟩ := O
  dsimp only at *
  obtain ⟨c1, c2, c3, c4, c5, -⟩ := h4
  have e26 : σd 26 = σ 26 := by rw [c1.row (Or.inl (by omega)), h3 26 (by omega)]
  have e24 : σd 24 = σ 24 := by rw [c1.row (Or.inl (by omega)), h3 24 (by omega)]
  have hb := hM.2.2.2.1.2.1
  have h241 : σd 24 1 = τ 0 23 := by rw [e24]; exact hM.2.1
  unfold Seen
  rcases h7 with k | k | k
  · subst k
    have hcc : (c : Int) < τ 0 23 := by omega
    have g7 : F_X4_get c 7 σd = σ 26 (8 * c + 7) := by
      have := get4n (s := σd) (a := c) (k := 7) (by omega) (by omega) (by omega)
      rw [← e26]; exact this
    have hs : F_X4_set c 7 (wrap (σ 26 (8 * c + 7) + 1)) σd = up2 σd 26 (8 * c + 7) (wrap (σ 26 (8 * c + 7) + 1)) := by
      rw [set4 ⟨by omega, by omega⟩ (by omega) (by omega), show ((c : Int) * 8 + 7).toNat = 8 * c + 7 by omega]
    have g3 : F_X4_get c 3 (up2 σd 26 (8 * c + 7) (wrap (σ 26 (8 * c + 7) + 1))) = σ 26 (8 * c + 3) := by
      have := get4n (s := up2 σd 26 (8 * c + 7) (wrap (σ 26 (8 * c + 7) + 1))) (a := c) (k := 3) (by rw [up2_row (by omega)]; omega) (by omega) (by omega)
      rw [up2_idx (by omega), e26] at this
      exact this
    unfold endC at h5
    rw [if_pos rfl] at h5
    unfold F_X1_take at h5
    rw [g7, hs, bnd_eq, g3] at h5
    cases h5
    refine ⟨by rw [up2_row (by omega)]; exact c3, by rw [up2_row (by omega)]; exact c4, rnc_congr (s := σd) (by funext i; rw [up2_row (by omega)]) c5, fun i hi => by rw [up2_row (by omega), if_neg (by omega)]; exact c2 i hi, fun d hd => ?_, by rw [if_neg (by omega), if_neg (by omega)]⟩
    by_cases g : d = c
    · subst g
      rw [up2_at rfl rfl, if_pos ⟨rfl, rfl⟩]
    · rw [up2_idx (by omega), if_neg (fun q => g q.2), e26]
  · subst k
    unfold endC at h5
    rw [if_neg (by omega), if_pos rfl] at h5
    cases h5
    exact ⟨c3, c4, c5, fun i hi => by rw [if_neg (by omega)]; exact c2 i hi, fun d hd => by rw [if_neg (by omega), e26], by rw [if_neg (by omega), if_pos rfl]⟩
  · subst k
    unfold endC at h5
    rw [if_neg (by omega), if_neg (by omega)] at h5
    unfold F_X1_miss F_X1_unbind at h5
    rw [bnd_eq, bnd_eq] at h5
    cases h5
    refine ⟨by rw [fillF_row (by omega)]; exact c3, by rw [fillF_row (by omega)]; exact c4, rnc_congr (s := σd) (by funext i; rw [fillF_row (by omega)]) c5, fun i hi => ?_, fun d hd => by rw [fillF_row (by omega), if_neg (by omega), e26], by rw [if_pos rfl]⟩
    rw [if_pos rfl]
    unfold fillF
    rw [if_pos ⟨rfl, by omega⟩]
