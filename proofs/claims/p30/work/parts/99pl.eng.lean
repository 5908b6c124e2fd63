/-! an act on two machines -/
theorem inR_ite {p : Prop} [Decidable p] {a b : Int} (h1 : inR a) (h2 : inR b) : inR (if p then a else b) := by split <;> assumption
theorem kindF_in (y : Int) : inR (kindF y) := by unfold kindF inR; split <;> (try split) <;> omega
def Cn (ν τ : Sg) : Prop := ν 0 0 = τ 0 4 ∧ ν 0 1 = τ 0 9 ∧ ν 0 2 = τ 0 23 ∧ ν 0 3 = τ 0 21
def kA (x done z : Int) : Int := (wrap (z + (if (jrem x 24) ≤ 0 then 0 else (if 4 ≤ (jrem x 24) then 0 else (if done < 0 then 0 else 1 : Int) : Int) : Int)))
def kB (x done z : Int) : Int := (wrap ((z) + (if (jrem x 24) ≤ 3 then (if (jrem x 24) = 15 then (if (jrem (jdiv x 24) 3) = 2 then (if done < 0 then 0 else 1 : Int) else 0 : Int) else 0 : Int) else (if 14 ≤ (jrem x 24) then (if (jrem x 24) = 15 then (if (jrem (jdiv x 24) 3) = 2 then (if done < 0 then 0 else 1 : Int) else 0 : Int) else 0 : Int) else (if 0 ≤ done then 1 else (if (jrem x 24) = 15 then (if (jrem (jdiv x 24) 3) = 2 then (if done < 0 then 0 else 1 : Int) else 0 : Int) else 0 : Int) : Int) : Int) : Int)))
def kC (x done z : Int) : Int := (if (if (jrem x 24) = 15 then (if (jrem (jdiv x 24) 3) = 0 then (if done < 0 then 0 else 1 : Int) else 0 : Int) else 0 : Int) = 0 then (if (jrem x 24) = 15 then (if done < 0 then (if (jrem x 24) ≤ 15 then z else (if 19 ≤ (jrem x 24) then z else (if done < 0 then z else wrap (done + 1) : Int) : Int) : Int) else done : Int) else (if (jrem x 24) ≤ 15 then z else (if 19 ≤ (jrem x 24) then z else (if done < 0 then z else wrap (done + 1) : Int) : Int) : Int) : Int) else 0 : Int)
def kD (x done z : Int) : Int := (if (if (jrem x 24) = 15 then (if (jrem (jdiv x 24) 3) = 0 then (if done < 0 then 0 else 1 : Int) else 0 : Int) else 0 : Int) = 0 then z else wrap (1 + (jrem (jdiv (jdiv x 24) 3) 2)) : Int)
theorem up4 (ν : Sg) (a b c d : Int → Int) : ∀ M : Sg, M = up2 (up2 (up2 (up2 ν 0 0 (a (ν 0 0))) 0 1 (b ((up2 ν 0 0 (a (ν 0 0))) 0 1))) 0 2 (c ((up2 (up2 ν 0 0 (a (ν 0 0))) 0 1 (b ((up2 ν 0 0 (a (ν 0 0))) 0 1))) 0 2))) 0 3 (d ((up2 (up2 (up2 ν 0 0 (a (ν 0 0))) 0 1 (b ((up2 ν 0 0 (a (ν 0 0))) 0 1))) 0 2 (c ((up2 (up2 ν 0 0 (a (ν 0 0))) 0 1 (b ((up2 ν 0 0 (a (ν 0 0))) 0 1))) 0 2))) 0 3)) →
    M 0 0 = a (ν 0 0) ∧ M 0 1 = b (ν 0 1) ∧ M 0 2 = c (ν 0 2) ∧ M 0 3 = d (ν 0 3) := by
  intro M h
  subst h
  refine ⟨?_, ?_, ?_, ?_⟩ <;> simp (disch := omega) only [up2_at, up2_row, up2_idx]
theorem keep_v (x k : Int) (ν : Sg) : (F_keep x k ν) 0 0 = kA x k (ν 0 0) ∧ (F_keep x k ν) 0 1 = kB x k (ν 0 1) ∧ (F_keep x k ν) 0 2 = kC x k (ν 0 2) ∧ (F_keep x k ν) 0 3 = kD x k (ν 0 3) := up4 ν (kA x k) (kB x k) (kC x k) (kD x k) _ rfl
/-- what the law keeps of the counts -/
theorem keep_at (x k : Int) (ν : Sg) : (F_keep x k ν) 0 0 = (if 0 < jrem x 24 ∧ jrem x 24 < 4 ∧ 0 ≤ k then wrap (ν 0 0 + 1) else wrap (ν 0 0 + 0)) ∧
    (F_keep x k ν) 0 1 = (if 0 ≤ k ∧ ((3 < jrem x 24 ∧ jrem x 24 < 14) ∨ (jrem x 24 = 15 ∧ jrem (jdiv x 24) 3 = 2)) then wrap (ν 0 1 + 1) else wrap (ν 0 1 + 0)) ∧
    (F_keep x k ν) 0 2 = (if 0 ≤ k ∧ jrem x 24 = 15 ∧ jrem (jdiv x 24) 3 = 0 then 0 else if 0 ≤ k ∧ jrem x 24 = 15 then k else if 0 ≤ k ∧ 15 < jrem x 24 ∧ jrem x 24 < 19 then wrap (k + 1) else ν 0 2) ∧
    (F_keep x k ν) 0 3 = (if 0 ≤ k ∧ jrem x 24 = 15 ∧ jrem (jdiv x 24) 3 = 0 then wrap (1 + jrem (jdiv (jdiv x 24) 3) 2) else ν 0 3) := by
  obtain ⟨v0, v1, v2, v3⟩ := keep_v x k ν
  rw [v0, v1, v2, v3]
  unfold kA kB kC kD
  generalize jrem x 24 = c
  generalize jrem (jdiv (jdiv x 24) 3) 2 = q
  generalize jrem (jdiv x 24) 3 = m
  generalize ν 0 0 = n0
  generalize ν 0 1 = n1
  generalize ν 0 2 = n2
  generalize ν 0 3 = n3
  have hb : ¬ (c = 15 ∧ m = 0 ∧ ¬ k < 0) → (if c = 15 then (if m = 0 then (if k < 0 then 0 else 1 : Int) else 0 : Int) else 0 : Int) = 0 := fun b => by
    (repeat' split) <;> first | rfl | omega
  refine ⟨?_, ?_, ?_, ?_⟩
  · by_cases P : 0 < c ∧ c < 4 ∧ 0 ≤ k
    · rw [if_pos P, if_neg (by omega), if_neg (by omega), if_neg (by omega)]
    · rw [if_neg P]
      (repeat' split) <;> first | rfl | omega
  · by_cases P : 0 ≤ k ∧ ((3 < c ∧ c < 14) ∨ (c = 15 ∧ m = 2))
    · rw [if_pos P]
      (repeat' split) <;> first | rfl | omega
    · rw [if_neg P]
      (repeat' split) <;> first | rfl | omega
  · by_cases b : c = 15 ∧ m = 0 ∧ ¬ k < 0
    · rw [if_pos b.1, if_pos b.2.1, if_neg b.2.2, if_neg (show ¬ (1 : Int) = 0 by decide), if_pos (by omega)]
    · rw [hb b, if_pos rfl, if_neg (show ¬ (0 ≤ k ∧ c = 15 ∧ m = 0) by omega)]
      (repeat' split) <;> first | rfl | omega
  · by_cases b : c = 15 ∧ m = 0 ∧ ¬ k < 0
    · rw [if_pos b.1, if_pos b.2.1, if_neg b.2.2, if_neg (show ¬ (1 : Int) = 0 by decide), if_pos (by omega)]
    · rw [hb b, if_pos rfl, if_neg (show ¬ (0 ≤ k ∧ c = 15 ∧ m = 0) by omega)]
theorem wrap_s {z : Int} (h1 : -10000 ≤ z) (h2 : z ≤ 10000) : wrap z = z := wrap_id (by omega) (by omega)
/-- the bounds of the counts -/
theorem rel_b {σ τ : Sg} (h : RelW σ τ) : (0 ≤ τ 0 4 ∧ τ 0 4 ≤ 40) ∧ (0 ≤ τ 0 9 ∧ τ 0 9 ≤ 60) ∧ (0 ≤ τ 0 23 ∧ τ 0 23 ≤ 8) ∧ (0 ≤ τ 0 21 ∧ τ 0 21 ≤ 3) := by
  obtain ⟨hW, hF, hM, hV, hWW⟩ := h.wf
  exact ⟨⟨hV.1, hV.2.1⟩, ⟨hW.1, hW.2.1⟩, hM.2.1, hM.1⟩
section KEEP
variable {x k : Int} {ν τ τ' σ σ' : Sg}
theorem kp_same (hr : RelW σ τ) (hc : Cn ν τ) (h : k < 0 ∨ jrem x 24 = 0 ∨ jrem x 24 = 14 ∨ 19 ≤ jrem x 24) (hS : Sm τ τ') : Cn (F_keep x k ν) τ' := by
  obtain ⟨e0, e1, e2, e3⟩ := keep_at x k ν
  have hb := rel_b hr
  unfold Cn Sm at *
  rw [e0, e1, e2, e3, if_neg (by omega), if_neg (by omega), if_neg (by omega), if_neg (by omega), if_neg (by omega), if_neg (by omega), wrap_s (by omega) (by omega), wrap_s (by omega) (by omega)]
  omega
theorem kp_V (hr : RelW σ τ) (hc : Cn ν τ) (h : 0 < jrem x 24 ∧ jrem x 24 < 4) (hS : CV τ k τ') : Cn (F_keep x k ν) τ' := by
  obtain ⟨e0, e1, e2, e3⟩ := keep_at x k ν
  have hb := rel_b hr
  unfold Cn CV at *
  rw [e0, e1, e2, e3, if_pos (by omega), if_neg (by omega), if_neg (by omega), if_neg (by omega), if_neg (by omega), if_neg (by omega), wrap_s (by omega) (by omega), wrap_s (by omega) (by omega)]
  omega
theorem kp_P (hr : RelW σ τ) (hc : Cn ν τ) (h : 3 < jrem x 24 ∧ jrem x 24 < 14) (hS : CP τ k τ') : Cn (F_keep x k ν) τ' := by
  obtain ⟨e0, e1, e2, e3⟩ := keep_at x k ν
  have hb := rel_b hr
  unfold Cn CP at *
  rw [e0, e1, e2, e3, if_neg (by omega), if_pos (by omega), if_neg (by omega), if_neg (by omega), if_neg (by omega), if_neg (by omega), wrap_s (by omega) (by omega), wrap_s (by omega) (by omega)]
  omega
theorem kp_B (hr : RelW σ τ) (hc : Cn ν τ) (h : jrem x 24 = 15 ∧ jrem (jdiv x 24) 3 = 0) (hS : CB τ (wrap (1 + (jrem (jdiv (jdiv x 24) 3) 2))) k τ') : Cn (F_keep x k ν) τ' := by
  obtain ⟨e0, e1, e2, e3⟩ := keep_at x k ν
  have hb := rel_b hr
  unfold Cn CB at *
  rw [e0, e1, e2, e3, if_neg (by omega), if_neg (by omega), if_pos (by omega), if_pos (by omega), wrap_s (by omega) (by omega), wrap_s (by omega) (by omega)]
  omega
theorem kp_S (hr : RelW σ τ) (hc : Cn ν τ) (h : jrem x 24 = 15 ∧ jrem (jdiv x 24) 3 = 1) (hS : CS τ k τ') : Cn (F_keep x k ν) τ' := by
  obtain ⟨e0, e1, e2, e3⟩ := keep_at x k ν
  have hb := rel_b hr
  unfold Cn CS at *
  rw [e0, e1, e2, e3, if_neg (by omega), if_neg (by omega), if_neg (by omega), if_pos (by omega), if_neg (by omega), wrap_s (by omega) (by omega), wrap_s (by omega) (by omega)]
  omega
theorem kp_G (hr : RelW σ τ) (hc : Cn ν τ) (h : jrem x 24 = 15 ∧ jrem (jdiv x 24) 3 = 2) (hS : CG τ k τ') : Cn (F_keep x k ν) τ' := by
  obtain ⟨e0, e1, e2, e3⟩ := keep_at x k ν
  have hb := rel_b hr
  unfold Cn CG at *
  rw [e0, e1, e2, e3, if_neg (by omega), if_pos (by omega), if_neg (by omega), if_pos (by omega), if_neg (by omega), wrap_s (by omega) (by omega), wrap_s (by omega) (by omega)]
  omega
theorem kp_A (hr : RelW σ τ) (hr' : RelW σ' τ') (hc : Cn ν τ) (h : 15 < jrem x 24 ∧ jrem x 24 < 19) (hS : CA τ k τ') : Cn (F_keep x k ν) τ' := by
  obtain ⟨e0, e1, e2, e3⟩ := keep_at x k ν
  have hb := rel_b hr
  have hb' := rel_b hr'
  unfold Cn CA at *
  rw [e0, e1, e2, e3, if_neg (by omega), if_neg (by omega), if_neg (by omega), if_neg (by omega), if_pos (by omega), if_neg (by omega), wrap_s (z := ν 0 0 + 0) (by omega) (by omega), wrap_s (z := ν 0 1 + 0) (by omega) (by omega), wrap_s (by omega) (by omega)]
  omega
end KEEP
set_option maxHeartbeats 4000000 in
theorem act_two {σ1 σ2 ν τ : Sg} {x : Int} (h1 : RelW σ1 τ) (h2 : RelW σ2 τ) (r1 : inRs σ1) (r2 : inRs σ2) (rt : inRt τ) (hc : Cn ν τ) (hx0 : 0 ≤ x) (hx1 : x < 2147483648) : ∃ (k : Int) (p1 p2 τ' : Sg), F_act x (ν 0 0) (ν 0 1) (ν 0 2) (ν 0 3) σ1 = some (k, p1) ∧ F_act x (ν 0 0) (ν 0 1) (ν 0 2) (ν 0 3) σ2 = some (k, p2) ∧ RelW p1 τ' ∧ RelW p2 τ' ∧ Cn (F_keep x k ν) τ' := by
  have hxr : inR x := by unfold inR; omega
  have hq := jrx hx0 24 (by decide)
  have hb := rel_b h1
  have hm := jrx (jdx ⟨hx0, hx1⟩ 24 (by decide)).1 3 (by decide)
  unfold F_act
  by_cases c0 : jrem x 24 = 0
  · rw [if_pos c0, if_pos c0]
    obtain ⟨k, p1, p2, τ', g1, g2, g3, g4, g5⟩ := t_constructor (a1 := (jrem (jdiv x 24) 2)) (a2 := (jrem (jdiv (jdiv x 24) 2) 3)) (a3 := (if (jrem (jdiv (jdiv x 24) 2) 3) ≤ 0 then 0 else jrem (jdiv (jdiv x 24) 6) 6 : Int)) (a4 := (if (jrem (jdiv (jdiv x 24) 2) 3) ≤ 1 then 0 else jrem (jdiv (jdiv x 24) 36) 6 : Int)) (a5 := 0) h1 h2 r1 r2 rt (jrem_in (wrap_in _)) (jrem_in (wrap_in _)) (inR_ite (by unfold inR; omega) (jrem_in (wrap_in _))) (inR_ite (by unfold inR; omega) (jrem_in (wrap_in _))) (by unfold inR; omega)
    exact ⟨k, p1, p2, τ', g1, g2, g3, g4, g5.elim (fun z => kp_same h1 hc (Or.inr (by omega)) z.2) (fun z => kp_same h1 hc (Or.inr (by omega)) z)⟩
  rw [if_neg c0, if_neg c0]
  by_cases c1 : jrem x 24 = 1
  · rw [if_pos c1, if_pos c1]
    obtain ⟨k, p1, p2, τ', g1, g2, g3, g4, g5⟩ := t_num (a1 := (jrem (jdiv x 24) 10)) h1 h2 r1 r2 rt (jrem_in (wrap_in _))
    exact ⟨k, p1, p2, τ', g1, g2, g3, g4, g5.elim (fun z => kp_same h1 hc (Or.inl z.1) z.2) (fun z => kp_V h1 hc (by omega) z)⟩
  rw [if_neg c1, if_neg c1]
  by_cases c2 : jrem x 24 = 2
  · rw [if_pos c2, if_pos c2]
    obtain ⟨k, p1, p2, τ', g1, g2, g3, g4, g5⟩ := t_seq (a1 := (jrem (jdiv x 24) 4)) (a2 := (if (jrem (jdiv x 24) 4) ≤ 0 then 0 else jrem (jdiv (jdiv x 24) 4) 10 : Int)) (a3 := (if (jrem (jdiv x 24) 4) ≤ 1 then 0 else jrem (jdiv (jdiv x 24) 40) 10 : Int)) (a4 := (if (jrem (jdiv x 24) 4) ≤ 2 then 0 else jrem (jdiv (jdiv x 24) 400) 10 : Int)) h1 h2 r1 r2 rt (jrem_in (wrap_in _)) (inR_ite (by unfold inR; omega) (jrem_in (wrap_in _))) (inR_ite (by unfold inR; omega) (jrem_in (wrap_in _))) (inR_ite (by unfold inR; omega) (jrem_in (wrap_in _)))
    exact ⟨k, p1, p2, τ', g1, g2, g3, g4, g5.elim (fun z => kp_same h1 hc (Or.inl z.1) z.2) (fun z => kp_V h1 hc (by omega) z)⟩
  rw [if_neg c2, if_neg c2]
  by_cases c3 : jrem x 24 = 3
  · rw [if_pos c3, if_pos c3]
    obtain ⟨k, p1, p2, τ', g1, g2, g3, g4, g5⟩ := t_data (a1 := (jrem (jdiv x 24) 2)) (a2 := (jrem (jdiv (jdiv x 24) 2) 3)) (a3 := (if (jrem (jdiv (jdiv x 24) 6) 2) = 0 then (-1) else (if (ν 0 0) = 0 then 0 else jrem (jdiv x 24) (ν 0 0) : Int) : Int)) (a4 := (if (jrem (jdiv (jdiv x 24) 12) 2) = 0 then (-1) else (if (ν 0 0) = 0 then 0 else jrem (jdiv (jdiv x 24) 61) (ν 0 0) : Int) : Int)) (a5 := (-1)) h1 h2 r1 r2 rt (jrem_in (wrap_in _)) (jrem_in (wrap_in _)) (inR_ite (by unfold inR; omega) (inR_ite (by unfold inR; omega) (jrem_in (wrap_in _)))) (inR_ite (by unfold inR; omega) (inR_ite (by unfold inR; omega) (jrem_in (wrap_in _)))) (by unfold inR; omega)
    exact ⟨k, p1, p2, τ', g1, g2, g3, g4, g5.elim (fun z => kp_same h1 hc (Or.inl z.1) z.2) (fun z => kp_V h1 hc (by omega) z)⟩
  rw [if_neg c3, if_neg c3]
  by_cases c4 : jrem x 24 = 4
  · rw [if_pos c4, if_pos c4]
    obtain ⟨k, p1, p2, τ', g1, g2, g3, g4, g5⟩ := t_any  h1 h2 r1 r2 rt 
    exact ⟨k, p1, p2, τ', g1, g2, g3, g4, g5.elim (fun z => kp_same h1 hc (Or.inl z.1) z.2) (fun z => kp_P h1 hc (by omega) z)⟩
  rw [if_neg c4, if_neg c4]
  by_cases c5 : jrem x 24 = 5
  · rw [if_pos c5, if_pos c5]
    obtain ⟨k, p1, p2, τ', g1, g2, g3, g4, g5⟩ := t_name (a1 := (jrem (jdiv (jdiv x 24) 61) 3)) (a2 := (if (ν 0 1) = 0 then 0 else jrem (jdiv x 24) (ν 0 1) : Int)) h1 h2 r1 r2 rt (jrem_in (wrap_in _)) (inR_ite (by unfold inR; omega) (jrem_in (wrap_in _)))
    exact ⟨k, p1, p2, τ', g1, g2, g3, g4, g5.elim (fun z => kp_same h1 hc (Or.inl z.1) z.2) (fun z => kp_P h1 hc (by omega) z)⟩
  rw [if_neg c5, if_neg c5]
  by_cases c6 : jrem x 24 = 6
  · rw [if_pos c6, if_pos c6]
    obtain ⟨k, p1, p2, τ', g1, g2, g3, g4, g5⟩ := t_range (a1 := (jrem (jdiv x 24) 10)) (a2 := (if (wrap ((jrem (jdiv x 24) 10) + (jrem (jdiv (jdiv x 24) 10) 4))) ≤ 9 then wrap ((jrem (jdiv x 24) 10) + (jrem (jdiv (jdiv x 24) 10) 4)) else 9 : Int)) h1 h2 r1 r2 rt (jrem_in (wrap_in _)) (inR_ite (wrap_in _) (by unfold inR; omega))
    exact ⟨k, p1, p2, τ', g1, g2, g3, g4, g5.elim (fun z => kp_same h1 hc (Or.inl z.1) z.2) (fun z => kp_P h1 hc (by omega) z)⟩
  rw [if_neg c6, if_neg c6]
  by_cases c7 : jrem x 24 = 7
  · rw [if_pos c7, if_pos c7]
    obtain ⟨k, p1, p2, τ', g1, g2, g3, g4, g5⟩ := t_range (a1 := (jrem (jdiv x 24) 10)) (a2 := (if (wrap ((jrem (jdiv x 24) 10) + (jrem (jdiv (jdiv x 24) 10) 4))) ≤ 9 then wrap ((jrem (jdiv x 24) 10) + (jrem (jdiv (jdiv x 24) 10) 4)) else 9 : Int)) h1 h2 r1 r2 rt (jrem_in (wrap_in _)) (inR_ite (wrap_in _) (by unfold inR; omega))
    exact ⟨k, p1, p2, τ', g1, g2, g3, g4, g5.elim (fun z => kp_same h1 hc (Or.inl z.1) z.2) (fun z => kp_P h1 hc (by omega) z)⟩
  rw [if_neg c7, if_neg c7]
  by_cases c8 : jrem x 24 = 8
  · rw [if_pos c8, if_pos c8]
    obtain ⟨k, p1, p2, τ', g1, g2, g3, g4, g5⟩ := t_make (a1 := (jrem (jdiv (jdiv x 24) 3) 2)) (a2 := (jrem (jdiv (jdiv x 24) 7) 3)) (a3 := (if (jrem (jdiv (jdiv x 24) 11) 2) = 0 then (-1) else (if (ν 0 1) = 0 then 0 else jrem (jdiv x 24) (ν 0 1) : Int) : Int)) (a4 := (if (jrem (jdiv (jdiv x 24) 13) 2) = 0 then (-1) else (if (ν 0 1) = 0 then 0 else jrem (jdiv (jdiv x 24) 61) (ν 0 1) : Int) : Int)) (a5 := (-1)) h1 h2 r1 r2 rt (jrem_in (wrap_in _)) (jrem_in (wrap_in _)) (inR_ite (by unfold inR; omega) (inR_ite (by unfold inR; omega) (jrem_in (wrap_in _)))) (inR_ite (by unfold inR; omega) (inR_ite (by unfold inR; omega) (jrem_in (wrap_in _)))) (by unfold inR; omega)
    exact ⟨k, p1, p2, τ', g1, g2, g3, g4, g5.elim (fun z => kp_same h1 hc (Or.inl z.1) z.2) (fun z => kp_P h1 hc (by omega) z)⟩
  rw [if_neg c8, if_neg c8]
  by_cases c9 : jrem x 24 = 9
  · rw [if_pos c9, if_pos c9]
    obtain ⟨k, p1, p2, τ', g1, g2, g3, g4, g5⟩ := t_make (a1 := (jrem (jdiv (jdiv x 24) 3) 2)) (a2 := (jrem (jdiv (jdiv x 24) 7) 3)) (a3 := (if (jrem (jdiv (jdiv x 24) 11) 2) = 0 then (-1) else (if (ν 0 1) = 0 then 0 else jrem (jdiv x 24) (ν 0 1) : Int) : Int)) (a4 := (if (jrem (jdiv (jdiv x 24) 13) 2) = 0 then (-1) else (if (ν 0 1) = 0 then 0 else jrem (jdiv (jdiv x 24) 61) (ν 0 1) : Int) : Int)) (a5 := (-1)) h1 h2 r1 r2 rt (jrem_in (wrap_in _)) (jrem_in (wrap_in _)) (inR_ite (by unfold inR; omega) (inR_ite (by unfold inR; omega) (jrem_in (wrap_in _)))) (inR_ite (by unfold inR; omega) (inR_ite (by unfold inR; omega) (jrem_in (wrap_in _)))) (by unfold inR; omega)
    exact ⟨k, p1, p2, τ', g1, g2, g3, g4, g5.elim (fun z => kp_same h1 hc (Or.inl z.1) z.2) (fun z => kp_P h1 hc (by omega) z)⟩
  rw [if_neg c9, if_neg c9]
  by_cases c10 : jrem x 24 = 10
  · rw [if_pos c10, if_pos c10]
    obtain ⟨k, p1, p2, τ', g1, g2, g3, g4, g5⟩ := t_either (a1 := (if (ν 0 1) = 0 then 0 else jrem (jdiv x 24) (ν 0 1) : Int)) (a2 := (if (ν 0 1) = 0 then 0 else jrem (jdiv (jdiv x 24) 61) (ν 0 1) : Int)) h1 h2 r1 r2 rt (inR_ite (by unfold inR; omega) (jrem_in (wrap_in _))) (inR_ite (by unfold inR; omega) (jrem_in (wrap_in _)))
    exact ⟨k, p1, p2, τ', g1, g2, g3, g4, g5.elim (fun z => kp_same h1 hc (Or.inl z.1) z.2) (fun z => kp_P h1 hc (by omega) z)⟩
  rw [if_neg c10, if_neg c10]
  by_cases c11 : jrem x 24 = 11
  · rw [if_pos c11, if_pos c11]
    obtain ⟨k, p1, p2, τ', g1, g2, g3, g4, g5⟩ := t_either (a1 := (if (ν 0 1) = 0 then 0 else jrem (jdiv x 24) (ν 0 1) : Int)) (a2 := (if (ν 0 1) = 0 then 0 else jrem (jdiv (jdiv x 24) 61) (ν 0 1) : Int)) h1 h2 r1 r2 rt (inR_ite (by unfold inR; omega) (jrem_in (wrap_in _))) (inR_ite (by unfold inR; omega) (jrem_in (wrap_in _)))
    exact ⟨k, p1, p2, τ', g1, g2, g3, g4, g5.elim (fun z => kp_same h1 hc (Or.inl z.1) z.2) (fun z => kp_P h1 hc (by omega) z)⟩
  rw [if_neg c11, if_neg c11]
  by_cases c12 : jrem x 24 = 12
  · rw [if_pos c12, if_pos c12]
    obtain ⟨k, p1, p2, τ', g1, g2, g3, g4, g5⟩ := t_view (a1 := (jrem (jdiv (jdiv x 24) 61) 3)) (a2 := (if (ν 0 1) = 0 then 0 else jrem (jdiv x 24) (ν 0 1) : Int)) h1 h2 r1 r2 rt (jrem_in (wrap_in _)) (inR_ite (by unfold inR; omega) (jrem_in (wrap_in _)))
    exact ⟨k, p1, p2, τ', g1, g2, g3, g4, g5.elim (fun z => kp_same h1 hc (Or.inl z.1) z.2) (fun z => kp_P h1 hc (by omega) z)⟩
  rw [if_neg c12, if_neg c12]
  by_cases c13 : jrem x 24 = 13
  · rw [if_pos c13, if_pos c13]
    obtain ⟨k, p1, p2, τ', g1, g2, g3, g4, g5⟩ := t_list (a1 := (jrem (jdiv x 24) 3)) (a2 := (if (jrem (jdiv x 24) 3) ≤ 0 then (-1) else (if (ν 0 1) = 0 then 0 else jrem (jdiv x 24) (ν 0 1) : Int) : Int)) (a3 := (if (jrem (jdiv x 24) 3) ≤ 1 then (-1) else (if (ν 0 1) = 0 then 0 else jrem (jdiv (jdiv x 24) 61) (ν 0 1) : Int) : Int)) (a4 := (jrem (jdiv (jdiv x 24) 3) 3)) h1 h2 r1 r2 rt (jrem_in (wrap_in _)) (inR_ite (by unfold inR; omega) (inR_ite (by unfold inR; omega) (jrem_in (wrap_in _)))) (inR_ite (by unfold inR; omega) (inR_ite (by unfold inR; omega) (jrem_in (wrap_in _)))) (jrem_in (wrap_in _))
    exact ⟨k, p1, p2, τ', g1, g2, g3, g4, g5.elim (fun z => kp_same h1 hc (Or.inl z.1) z.2) (fun z => kp_P h1 hc (by omega) z)⟩
  rw [if_neg c13, if_neg c13]
  by_cases c14 : jrem x 24 = 14
  · rw [if_pos c14, if_pos c14]
    obtain ⟨k, p1, p2, τ', g1, g2, g3, g4, g5⟩ := t_setView (a1 := (jrem (jdiv x 24) 3)) (a2 := (wrap ((jrem (jdiv (jdiv x 24) 3) 19) - 9))) (a3 := (wrap ((jrem (jdiv (jdiv x 24) 57) 19) - 9))) (a4 := (wrap ((jrem (jdiv (jdiv x 24) 1083) 19) - 9))) (a5 := (wrap (1 + (jrem (jdiv (jdiv x 24) 7) 4)))) h1 h2 r1 r2 rt (jrem_in (wrap_in _)) (wrap_in _) (wrap_in _) (wrap_in _) (wrap_in _)
    exact ⟨k, p1, p2, τ', g1, g2, g3, g4, g5.elim (fun z => kp_same h1 hc (Or.inr (by omega)) z.2) (fun z => kp_same h1 hc (Or.inr (by omega)) z)⟩
  rw [if_neg c14, if_neg c14]
  by_cases c15 : jrem x 24 = 15
  · rw [if_pos c15, if_pos c15]
    by_cases d0 : jrem (jdiv x 24) 3 = 0
    · rw [if_pos d0, if_pos d0]
      obtain ⟨k, p1, p2, τ', g1, g2, g3, g4, g5⟩ := t_begin (a1 := (wrap (1 + (jrem (jdiv (jdiv x 24) 3) 2)))) (a2 := (kindF (jdiv (jdiv x 24) 6))) (a3 := (if (jrem (jdiv (jdiv x 24) 3) 2) ≤ 0 then 0 else kindF (jdiv (jdiv x 24) 12) : Int)) (a4 := 0) h1 h2 r1 r2 rt (wrap_in _) (kindF_in _) (inR_ite (by unfold inR; omega) (kindF_in _)) (by unfold inR; omega)
      exact ⟨k, p1, p2, τ', g1, g2, g3, g4, g5.elim (fun z => kp_same h1 hc (Or.inl z.1) z.2) (fun z => kp_B h1 hc (by omega) z)⟩
    rw [if_neg d0, if_neg d0]
    by_cases d1 : jrem (jdiv x 24) 3 = 1
    · rw [if_pos d1, if_pos d1]
      obtain ⟨k, p1, p2, τ', g1, g2, g3, g4, g5⟩ := t_split (a1 := (if (ν 0 2) = 0 then 0 else jrem (jdiv (jdiv x 24) 3) (ν 0 2) : Int)) (a2 := (jrem (jdiv x 24) 2)) h1 h2 r1 r2 rt (inR_ite (by unfold inR; omega) (jrem_in (wrap_in _))) (jrem_in (wrap_in _))
      exact ⟨k, p1, p2, τ', g1, g2, g3, g4, g5.elim (fun z => kp_same h1 hc (Or.inl z.1) z.2) (fun z => kp_S h1 hc (by omega) z)⟩
    rw [if_neg d1, if_neg d1]
    obtain ⟨k, p1, p2, τ', g1, g2, g3, g4, g5⟩ := t_merge (a1 := (if 2 ≤ (ν 0 2) then jrem (jdiv (jdiv x 24) 3) (wrap ((ν 0 2) - 1)) else 0 : Int)) (a2 := (jrem (jdiv x 24) 2)) h1 h2 r1 r2 rt (inR_ite (jrem_in (wrap_in _)) (by unfold inR; omega)) (jrem_in (wrap_in _))
    exact ⟨k, p1, p2, τ', g1, g2, g3, g4, g5.elim (fun z => kp_same h1 hc (Or.inl z.1) z.2) (fun z => kp_G h1 hc (by omega) z)⟩
  rw [if_neg c15, if_neg c15]
  by_cases c16 : jrem x 24 = 16
  · rw [if_pos c16, if_pos c16]
    obtain ⟨k, p1, p2, τ', g1, g2, g3, g4, g5⟩ := t_add (a1 := (if (ν 0 1) = 0 then 0 else jrem (jdiv x 24) (ν 0 1) : Int)) (a2 := (if (ν 0 3) ≤ 1 then (-1) else (if (ν 0 1) = 0 then 0 else jrem (jdiv (jdiv x 24) 61) (ν 0 1) : Int) : Int)) (a3 := (if (ν 0 3) ≤ 2 then (-1) else 0 : Int)) (a4 := (jrem (jdiv x 24) 100)) h1 h2 r1 r2 rt (inR_ite (by unfold inR; omega) (jrem_in (wrap_in _))) (inR_ite (by unfold inR; omega) (inR_ite (by unfold inR; omega) (jrem_in (wrap_in _)))) (inR_ite (by unfold inR; omega) (by unfold inR; omega)) (jrem_in (wrap_in _))
    exact ⟨k, p1, p2, τ', g1, g2, g3, g4, g5.elim (fun z => kp_same h1 hc (Or.inl z.1) z.2) (fun z => kp_A h1 g3 hc (by omega) z)⟩
  rw [if_neg c16, if_neg c16]
  by_cases c17 : jrem x 24 = 17
  · rw [if_pos c17, if_pos c17]
    obtain ⟨k, p1, p2, τ', g1, g2, g3, g4, g5⟩ := t_add (a1 := (if (ν 0 1) = 0 then 0 else jrem (jdiv x 24) (ν 0 1) : Int)) (a2 := (if (ν 0 3) ≤ 1 then (-1) else (if (ν 0 1) = 0 then 0 else jrem (jdiv (jdiv x 24) 61) (ν 0 1) : Int) : Int)) (a3 := (if (ν 0 3) ≤ 2 then (-1) else 0 : Int)) (a4 := (jrem (jdiv x 24) 100)) h1 h2 r1 r2 rt (inR_ite (by unfold inR; omega) (jrem_in (wrap_in _))) (inR_ite (by unfold inR; omega) (inR_ite (by unfold inR; omega) (jrem_in (wrap_in _)))) (inR_ite (by unfold inR; omega) (by unfold inR; omega)) (jrem_in (wrap_in _))
    exact ⟨k, p1, p2, τ', g1, g2, g3, g4, g5.elim (fun z => kp_same h1 hc (Or.inl z.1) z.2) (fun z => kp_A h1 g3 hc (by omega) z)⟩
  rw [if_neg c17, if_neg c17]
  by_cases c18 : jrem x 24 = 18
  · rw [if_pos c18, if_pos c18]
    obtain ⟨k, p1, p2, τ', g1, g2, g3, g4, g5⟩ := t_add (a1 := (if (ν 0 1) = 0 then 0 else jrem (jdiv x 24) (ν 0 1) : Int)) (a2 := (if (ν 0 3) ≤ 1 then (-1) else (if (ν 0 1) = 0 then 0 else jrem (jdiv (jdiv x 24) 61) (ν 0 1) : Int) : Int)) (a3 := (if (ν 0 3) ≤ 2 then (-1) else 0 : Int)) (a4 := (jrem (jdiv x 24) 100)) h1 h2 r1 r2 rt (inR_ite (by unfold inR; omega) (jrem_in (wrap_in _))) (inR_ite (by unfold inR; omega) (inR_ite (by unfold inR; omega) (jrem_in (wrap_in _)))) (inR_ite (by unfold inR; omega) (by unfold inR; omega)) (jrem_in (wrap_in _))
    exact ⟨k, p1, p2, τ', g1, g2, g3, g4, g5.elim (fun z => kp_same h1 hc (Or.inl z.1) z.2) (fun z => kp_A h1 g3 hc (by omega) z)⟩
  rw [if_neg c18, if_neg c18]
  by_cases c19 : jrem x 24 = 19
  · rw [if_pos c19, if_pos c19]
    obtain ⟨k, p1, p2, τ', g1, g2, g3, g4, g5⟩ := t_guard (a1 := (if (ν 0 2) = 0 then 0 else jrem (jdiv x 24) (ν 0 2) : Int)) (a2 := (wrap ((jrem (jdiv (jdiv x 24) 8) 5) - 1))) (a3 := (if (jrem (jdiv (jdiv x 24) 8) 5) = 0 then 0 else jrem (jdiv (jdiv x 24) 40) 3 : Int)) (a4 := (jrem (jdiv (jdiv x 24) 120) 10)) h1 h2 r1 r2 rt (inR_ite (by unfold inR; omega) (jrem_in (wrap_in _))) (wrap_in _) (inR_ite (by unfold inR; omega) (jrem_in (wrap_in _))) (jrem_in (wrap_in _))
    exact ⟨k, p1, p2, τ', g1, g2, g3, g4, g5.elim (fun z => kp_same h1 hc (Or.inr (by omega)) z.2) (fun z => kp_same h1 hc (Or.inr (by omega)) z)⟩
  rw [if_neg c19, if_neg c19]
  by_cases c20 : jrem x 24 = 20
  · rw [if_pos c20, if_pos c20]
    obtain ⟨k, p1, p2, τ', g1, g2, g3, g4, g5⟩ := t_size (a := (wrap (2 + (jrem (jdiv x 24) 2)))) (b := (decide ((jrem (jdiv (jdiv x 24) 2) 2) = 0))) h1 h2 rt
    exact ⟨k, p1, p2, τ', g1, g2, g3, g4, g5.elim (fun z => kp_same h1 hc (Or.inr (by omega)) z.2) (fun z => kp_same h1 hc (Or.inr (by omega)) z)⟩
  rw [if_neg c20, if_neg c20]
  obtain ⟨k, p1, p2, τ', g1, g2, g3, g4, g5⟩ := t_run (e := (jrem (jdiv (jdiv x 24) 7) 4)) (a := (if (ν 0 0) = 0 then 0 else (if (ν 0 0) = 0 then 0 else jrem (jdiv x 24) (ν 0 0) : Int) : Int)) (b := (if (ν 0 3) ≤ 1 then (-1) else (if (ν 0 0) = 0 then 0 else jrem (jdiv (jdiv x 24) 61) (ν 0 0) : Int) : Int)) (c := (if (ν 0 3) ≤ 2 then (-1) else 0 : Int)) h1 h2 rt (by have := jrx (jdx (jdx ⟨hx0, hx1⟩ 24 (by decide)) 7 (by decide)).1 4 (by decide); omega)
  exact ⟨k, p1, p2, τ', g1, g2, g3, g4, g5.elim (fun z => kp_same h1 hc (Or.inr (by omega)) z.2) (fun z => kp_same h1 hc (Or.inr (by omega)) z)⟩
