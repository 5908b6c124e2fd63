/-! the same run by another engine -/
/-- an account over the same patterns and match -/
def Bs (τ0 τ : Sg) : Prop := (∀ r, 1 ≤ r → r ≤ 24 → τ r = τ0 r) ∧ Sm τ0 τ ∧ τ 35 = fun _ => 0
section BS
variable {τ0 τ : Sg} {a b c : Int}
theorem Bs.fitV (h : Bs τ0 τ) (hv : FitV τ0 a b c) : FitV τ a b c := by
  obtain ⟨h1, ⟨s1, s2, s3, s4⟩, h3⟩ := h
  unfold FitV vl at *
  rw [s4, s1]
  exact hv
theorem Bs.fitK (h : Bs τ0 τ) (hk : FitK τ0 a b c) : FitK τ a b c := by
  obtain ⟨h1, ⟨s1, s2, s3, s4⟩, h3⟩ := h
  unfold FitK rFit vl at *
  rw [s4, s1, h1 4 (by omega) (by omega), h1 19 (by omega) (by omega)]
  exact hk
theorem nrm_35 {τ : Sg} : nrm τ 35 = fun _ => 0 := by
  funext i
  show (if 35 = 25 then wrap (τ 25 i) else if 35 = 35 then 0 else τ 35 i) = 0
  rw [if_neg (by omega), if_pos rfl]
theorem Bs.nrm (h1 : ∀ r, 1 ≤ r → r ≤ 24 → τ r = τ0 r) (h2 : Sm τ0 τ) : Bs τ0 (nrm τ) := by
  refine ⟨fun r r1 r2 => by rw [nrm_r (by omega) (by omega)]; exact h1 r r1 r2, ?_, nrm_35⟩
  unfold Sm at *
  rw [nrm_r (by omega) (by omega)]
  exact h2
theorem wok_we {τ1 τ2 w1 w2 : Sg} (b1 : Bs τ0 τ1) (b2 : Bs τ0 τ2) (h1 : WOK τ1 a b c w1) (h2 : WOK τ2 a b c w2) : WE w1 w2 := by
  obtain ⟨p1, p2, p3, p4⟩ := h1
  obtain ⟨q1, q2, q3, q4⟩ := h2
  have e1 : τ1 0 21 = τ0 0 21 := b1.2.1.2.2.2
  have e2 : τ2 0 21 = τ0 0 21 := b2.2.1.2.2.2
  refine ⟨fun r r1 r2 => by rw [q1 r (by omega) (by omega), p1 r (by omega) (by omega), b1.1 r r1 r2, b2.1 r r1 r2], ?_, by rw [q2 21 (by omega), p2 21 (by omega), e1, e2]⟩
  funext k
  by_cases hk : (k : Int) < τ0 0 21
  · rw [q3 k (by omega), p3 k (by omega)]
  · rw [q4 k (by omega), p4 k (by omega), b1.2.2, b2.2.2]
end BS
/-- what an engine comes to, beside the plain one -/
def Good (X : Int × Nat × XS) (e : Int) (O : Int × Nat × XS) : Prop :=
  O.1 = X.1 ∧ (O.1 = 2 ∨ (O.2.1 = X.2.1 ∧ O.2.2.1 = X.2.2.1)) ∧ O.2.2.2.2 = X.2.2.2.2 ∧ (e < 2 → O.2.2.2.1 = X.2.2.2.1) ∧ (2 ≤ e → (X.2.2.2.2.length : Int) ≤ O.2.2.2.1) ∧ (e = 2 → O.2.2.2.1 ≤ X.2.2.2.1 + X.2.2.2.2.length)
theorem good_of {w : Sg} {e : Int} (hT : CtxT w) (he : 0 ≤ e ∧ e ≤ 3) (hl : 2 ≤ e → ∀ P, AP w (decide (e = 3)) P → P.length < 500) : Good (plS w (w 0 23).toNat 0 xI) e (outR w e) := by
  unfold outR
  by_cases h : e < 2
  · rw [if_pos h]
    exact ⟨rfl, Or.inr ⟨rfl, rfl⟩, rfl, fun _ => rfl, fun q => by omega, fun q => by omega⟩
  · rw [if_neg h]
    obtain ⟨g1, g2, g3, g4, g5⟩ := wk_run hT (hl (by omega))
    refine ⟨g1, g2, g3, fun q => by omega, fun _ => by rw [← g3]; exact g4, fun q => ?_⟩
    rw [← g3]
    exact g5 (decide_eq_false (by omega))
theorem seen_x {σ p : Sg} {X O : Int × Nat × XS} {e v : Int} (h : Seen σ O.1 O.2.1 O.2.2 v p) (g : Good X e O) (hk : X.1 = 0 ∨ X.1 = 1 ∨ X.1 = 2) : Seen σ X.1 X.2.1 (X.2.2.1, O.2.2.2.1, X.2.2.2.2) v p := by
  obtain ⟨g1, g2, g3, -⟩ := g
  obtain ⟨h1, h2, h3, h4, h5, h6⟩ := h
  rw [g1] at h4 h5 h6 g2
  rw [g3] at h2 h3
  by_cases k2 : X.1 = 2
  · refine ⟨h1, h2, h3, fun i hi => ?_, fun d hd => ?_, ?_⟩
    · rw [h4 i hi, if_pos k2, if_pos k2]
    · rw [h5 d hd, if_neg (by omega), if_neg (by omega)]
    · rw [h6, if_pos k2, if_pos k2]
  · obtain ⟨g4, g5⟩ := g2.resolve_left k2
    rw [g4] at h5 h6
    rw [g5] at h4
    exact ⟨h1, h2, h3, h4, h5, h6⟩
theorem rnc_at {p q : Sg} : ∀ {R : List (Int × Int × Int)}, rnc p R → rnc q R → ∀ i : Nat, i < R.length → p 30 i = q 30 i
  | [], _, _, i, hi => by simp at hi
  | e :: R, h1, h2, i, hi => by
    by_cases c : i = R.length
    · rw [c, h1.1, h2.1]
    · exact rnc_at h1.2 h2.2 i (by simp only [List.length_cons] at hi; omega)
/-! sums of what was taken -/
def tot (f : Int → Int) : Nat → Int → Int
  | 0, _ => 0
  | D + 1, k => f k + tot f D (k + 1)
theorem wrap_wr (a b : Int) : wrap (wrap a + b) = wrap (a + b) := by unfold wrap; omega
theorem wrap_wl (a b : Int) : wrap (a + wrap b) = wrap (a + b) := by unfold wrap; omega
theorem sumW_eq (f : Int → Int) : ∀ (D : Nat) (k S : Int), inR S → sumW f D k S = wrap (S + tot f D k)
  | 0, k, S, h => by
    show S = wrap (S + 0)
    rw [Int.add_zero, wrap_id h.1 h.2]
  | D + 1, k, S, h => by
    show sumW f D (k + 1) (wrap (S + f k)) = wrap (S + (f k + tot f D (k + 1)))
    rw [sumW_eq f D (k + 1) _ (wrap_in _), wrap_wr, Int.add_assoc]
theorem tot_same {f g : Int → Int} : ∀ (D : Nat) (k : Int), (∀ j, k ≤ j → j < k + D → g j = f j) → tot g D k = tot f D k
  | 0, _, _ => rfl
  | D + 1, k, h => by
    show g k + tot g D (k + 1) = f k + tot f D (k + 1)
    rw [h k (by omega) (by omega), tot_same D (k + 1) (fun j j1 j2 => h j (by omega) (by omega))]
theorem tot_inc {f g : Int → Int} (c : Int) (hc : g c = wrap (f c + 1)) : ∀ (D : Nat) (k : Int), k ≤ c → c < k + D → (∀ j, k ≤ j → j < k + D → ¬ j = c → g j = f j) → wrap (tot g D k) = wrap (tot f D k + 1)
  | 0, k, h1, h2, _ => by omega
  | D + 1, k, h1, h2, h => by
    show wrap (g k + tot g D (k + 1)) = wrap (f k + tot f D (k + 1) + 1)
    by_cases e : k = c
    · subst e
      rw [hc, tot_same D (k + 1) (fun j j1 j2 => h j (by omega) (by omega) (by omega)), wrap_wr]
      congr 1
      omega
    · rw [h k (by omega) (by omega) e, ← wrap_wl, tot_inc c hc D (k + 1) (by omega) (by omega) (fun j j1 j2 j3 => h j (by omega) (by omega) j3), wrap_wl]
      congr 1
      omega
/-- one more run: what is taken, summed -/
theorem sum_step {f g : Int → Int} {D : Nat} {r : Int} (h : (r = 0 ∧ ∀ j, 0 ≤ j → j < (D : Int) → g j = f j) ∨ (r = 1 ∧ ∃ c, 0 ≤ c ∧ c < (D : Int) ∧ g c = wrap (f c + 1) ∧ ∀ j, 0 ≤ j → j < (D : Int) → ¬ j = c → g j = f j)) : sumW g D 0 0 = wrap (sumW f D 0 0 + r) := by
  have h0 : inR 0 := by unfold inR; omega
  rw [sumW_eq g D 0 0 h0, sumW_eq f D 0 0 h0, wrap_wr, Int.zero_add, Int.zero_add]
  rcases h with ⟨rfl, h⟩ | ⟨rfl, c, c1, c2, c3, c4⟩
  · rw [tot_same D 0 (fun j j1 j2 => h j j1 (by omega)), Int.add_zero]
  · exact tot_inc c c3 D 0 c1 (by omega) (fun j j1 j2 j3 => c4 j j1 (by omega) j3)
