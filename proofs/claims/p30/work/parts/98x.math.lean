/-! the place that the most cases need -/
def cntL (τ : Sg) (P : Pth) (c : Nat) (x : Int) : Nat := ((List.range c).filter (fun c => cted τ P c && decide (x ∈ ndC τ P c))).length
theorem cntL_s {τ : Sg} {P : Pth} {c : Nat} {x : Int} : cntL τ P (c + 1) x = cntL τ P c x + (if cted τ P c = true ∧ x ∈ ndC τ P c then 1 else 0) := by
  unfold cntL
  rw [List.range_succ, List.filter_append, List.length_append]
  congr 1
  rw [List.filter_cons]
  by_cases g : cted τ P c = true ∧ x ∈ ndC τ P c
  · rw [if_pos (by simp [g.1, g.2]), if_pos g]; rfl
  · rw [if_neg (by simpa using g), if_neg g]; rfl
theorem cntL_le {τ : Sg} {P : Pth} {c : Nat} {x : Int} : cntL τ P c x ≤ c := by
  unfold cntL
  have := List.length_filter_le (fun c => cted τ P c && decide (x ∈ ndC τ P c)) (List.range c)
  rw [List.length_range] at this
  exact this
theorem NI.next {s : Sg} {c : Nat} {f g : Int → Nat} {D : Int → Prop} (h : NI s c f D) (h1 : ∀ x, D x → g x = f x + 1) (h2 : ∀ x, ¬ D x → g x = f x) : NI s (c + 1) g (fun _ => False) := by
  obtain ⟨K, k1, k2, k3, k4, k5⟩ := h
  refine ⟨K, k1, k2, k3, fun x => ?_, fun i hi => ⟨fun z => z.elim, fun _ => ?_⟩⟩
  · rw [k4 x]
    by_cases d : D x
    · have := h1 x d
      exact ⟨fun _ => Or.inl (by omega), fun _ => Or.inr d⟩
    · rw [h2 x d]
      exact ⟨fun z => by rcases z with z | z; exact Or.inl z; exact absurd z d, fun z => by rcases z with z | z; exact Or.inl z; exact z.elim⟩
  · obtain ⟨a, b⟩ := k5 i hi
    by_cases d : D (s 47 i)
    · rw [h1 _ d]
      obtain ⟨a1, a2⟩ := a d
      exact ⟨by omega, by omega⟩
    · rw [h2 _ d]
      obtain ⟨a1, a2⟩ := b d
      exact ⟨by omega, by omega⟩
theorem most_1 {τ s : Sg} {pf : Nat → Pth} {N n c : Nat} {x : XS} (hP : WFP τ) (hF : WFK (τ 1) (τ 2) (τ 3)) (hM : WFM τ) (hWW : WFW τ) (hN : NodeAt τ pf N n) (h : FrW τ s) (hx : Xo x s) (hc : (c : Int) < τ 0 23) (hI : NI s c (cntL τ (pf n) c) (fun _ => False)) : ∃ x' s', L_X11_mostNeeded_7 c s = some (.inl (((c + 1 : Nat) : Int), s')) ∧ FrW τ s' ∧ Xo x' s' ∧ x'.2 = x.2 ∧ NI s' (c + 1) (cntL τ (pf n) (c + 1)) (fun _ => False) := by
  obtain ⟨hR, hn, hK, h40, h41⟩ := id hN
  have h8 := hM.2.1
  have hw : wrap ((c : Int) + 1) = ((c + 1 : Nat) : Int) := by rw [wrap_id (z := (c : Int) + 1) (by omega) (by omega)]; omega
  have hfail := hasFailed_m (c := c) (hR.fr (s' := s) (fun r r1 r2 => h.2.1 r (by omega) (by omega))) hn (by rw [h.2.2.2.2 41 (by decide)]; exact h41)
  have hend : ∀ s', B_X11_mostNeeded_37 c s' = some (.inl (((c + 1 : Nat) : Int), s')) := fun s' => by
    unfold B_X11_mostNeeded_37; rw [hw]
  unfold L_X11_mostNeeded_7
  rw [h.2.2.2.2 23 (by decide), if_neg (by omega), hfail, Option.bind_some]
  clear hfail
  by_cases g : fk (pf n) c = true
  · rw [if_pos g, hend]
    refine ⟨x, s, rfl, h, hx, rfl, hI.next (fun x z => z.elim) (fun x _ => ?_)⟩
    rw [cntL_s, if_neg (fun z => by unfold cted at z; rw [g] at z; simp at z)]; rfl
  · rw [if_neg g]
    obtain ⟨s1, t1, t2, t3, t4, t5, -⟩ := tryN_c hP hF hM hWW hN h hx hc
    rw [t1, Option.bind_some]
    clear t1
    dsimp only
    have hI1 : NI s1 c (cntL τ (pf n) c) (fun _ => False) := hI.fr t5 (t4 47 (by omega) (Or.inr (by omega))) (t4 48 (by omega) (Or.inr (by omega))) (t4 49 (by omega) (Or.inr (by omega)))
    by_cases q : codeR (tryK τ (pf n) c).1 = 1
    · rw [if_pos q, hend]
      refine ⟨_, s1, rfl, t2, t3, rfl, hI1.next (fun x z => z.elim) (fun x _ => ?_)⟩
      have hr : (tryK τ (pf n) c).1 = .inl false := by
        unfold codeR at q
        split at q
        · omega
        · assumption
        · omega
      rw [cntL_s, if_neg (fun z => by unfold cted at z; rw [hr] at z; simp at z)]; rfl
    · rw [if_neg q]
      have hr : ¬ (tryK τ (pf n) c).1 = .inl false := fun z => q (by rw [z]; rfl)
      have hct : cted τ (pf n) c = true := by unfold cted; simp [hr, g]
      have hs1 := t2.sm
      have he := hs1.eqp
      have hF1 := hs1.wfk hF
      have hM1 := hs1.wfm hP hM
      have hK1 : KP s1 (pf n) := he.kpE.mpr hK
      obtain ⟨s2, u1, u2, u3⟩ := needsOf_c (τ := s1) (s := s1) (P := pf n) (f := cntL τ (pf n) c) (hs1.wfp hP) hF1 hM1 (hK1.hok hF1 hM1) (fun s' hs' pl hpl => factK (τ := s1) (hR.fr (fun r r1 r2 => by rw [hs'.2.1 r (by omega) (by omega)]; exact t2.2.1 r (by omega) (by omega))) hn hK1 (by rw [hs'.2.2.2.2 40 (by decide), t2.2.2.2.2 40 (by decide)]; exact h40) (by rw [hs'.2.2.2.2 41 (by decide), t2.2.2.2.2 41 (by decide)]; exact h41) hpl) (fun y => by have := cntL_le (τ := τ) (P := pf n) (c := c) (x := y); omega) (by rw [t2.2.2.2.2 23 (by decide)]; exact hc) FrN.rfl' hI1
      rw [u1, Option.bind_some, hend]
      clear u1
      rw [he.ndCE hP hM hc] at u3
      refine ⟨_, s2, rfl, t2.n u2, t3.n u2, rfl, u3.next (fun x z => ?_) (fun x z => ?_)⟩
      · rw [cntL_s, if_pos ⟨hct, z.resolve_left (fun y => y)⟩]
      · rw [cntL_s, if_neg (fun y => z (Or.inr y.2))]; rfl
