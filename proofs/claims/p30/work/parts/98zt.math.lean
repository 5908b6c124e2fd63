/-! a run by a tree, whatever holds the tree -/
theorem qry_qok {τ : Sg} {m : Bool} {P : Pth} (hW : WFP τ) (hF : WFK (τ 1) (τ 2) (τ 3)) (hM : WFM τ) (hWW : WFW τ) (h : AP τ m P) (h3 : (qry τ m P).1 = 3 ∨ (qry τ m P).1 = 4) : AskOK τ P (qry τ m P) := by
  have hKP := AP.kp hW hF hM hWW h
  have hs := seekM_ok (m := m) hW hF hM (hKP.hok hF hM) (hKP.vok hWW)
  have gen : ∀ a : Ask, a.1 = 3 ∨ a.1 = 4 → QOK τ P a → AskOK τ P a := fun a h3 ha => by
    rcases ha with g | g | g | g
    · exact g
    · omega
    · rw [g] at h3; exact absurd h3 (by decide)
    · omega
  cases P with
  | nil => exact gen _ h3 hs
  | cons q P =>
    rw [qry_c] at h3 ⊢
    by_cases c1 : q.1.1 = 5 ∧ q.2 = 0
    · rw [if_pos c1] at h3; exact absurd h3 (by show ¬ ((0 : Int) = 3 ∨ (0 : Int) = 4); omega)
    rw [if_neg c1] at h3 ⊢
    by_cases c2 : q.1.1 = 5 ∧ τ 22 q.1.2.1.toNat = 3
    · rw [if_pos c2] at h3; exact absurd h3 (by show ¬ ((1 : Int) = 3 ∨ (1 : Int) = 4); omega)
    rw [if_neg c2] at h3 ⊢
    exact gen _ h3 hs
def cntX (x : XS) : XS := (x.1, wrap (x.2.1 + 1), x.2.2)
/-- a walk: 0 taken, 1 raised, 2 missed; the case; what is told of the run -/
noncomputable def wk (τ : Sg) (m : Bool) : Nat → Pth → XS → Int × Nat × XS
  | 0, _, x => (2, 0, x)
  | d + 1, P, x =>
    if (qry τ m P).1 = 0 then (0, (qry τ m P).2.1.toNat, ((tryK τ P (qry τ m P).2.1.toNat).2.1, x.2))
    else if (qry τ m P).1 = 1 then (1, (qry τ m P).2.1.toNat, ((tryK τ P (qry τ m P).2.1.toNat).2.1, x.2))
    else if (qry τ m P).1 = 2 then (2, 0, x)
    else if (qry τ m P).1 = 5 then wk τ m d ((qry τ m P, if grd τ (hdR τ) (qry τ m P).2.1.toNat ((tryK τ P (qry τ m P).2.1.toNat).2.1, x.2) = 0 then 0 else 1) :: P) ((tryK τ P (qry τ m P).2.1.toNat).2.1, x.2)
    else if (qry τ m P).1 = 4 then wk τ m d ((qry τ m P, (gvR τ (qry τ m P).2.2 (qry τ m P).2.1 (cntX x)).1.toNat) :: P) (gvR τ (qry τ m P).2.2 (qry τ m P).2.1 (cntX x)).2
    else wk τ m d ((qry τ m P, (hdR τ (qry τ m P).2.1).toNat) :: P) (cntX x)
theorem wk_s {τ : Sg} {m : Bool} {d : Nat} {P : Pth} {x : XS} : wk τ m (d + 1) P x = 
    if (qry τ m P).1 = 0 then (0, (qry τ m P).2.1.toNat, ((tryK τ P (qry τ m P).2.1.toNat).2.1, x.2))
    else if (qry τ m P).1 = 1 then (1, (qry τ m P).2.1.toNat, ((tryK τ P (qry τ m P).2.1.toNat).2.1, x.2))
    else if (qry τ m P).1 = 2 then (2, 0, x)
    else if (qry τ m P).1 = 5 then wk τ m d ((qry τ m P, if grd τ (hdR τ) (qry τ m P).2.1.toNat ((tryK τ P (qry τ m P).2.1.toNat).2.1, x.2) = 0 then 0 else 1) :: P) ((tryK τ P (qry τ m P).2.1.toNat).2.1, x.2)
    else if (qry τ m P).1 = 4 then wk τ m d ((qry τ m P, (gvR τ (qry τ m P).2.2 (qry τ m P).2.1 (cntX x)).1.toNat) :: P) (gvR τ (qry τ m P).2.2 (qry τ m P).2.1 (cntX x)).2
    else wk τ m d ((qry τ m P, (hdR τ (qry τ m P).2.1).toNat) :: P) (cntX x) := rfl
/-- what is told of two walks with unlike names at first -/
def Wlk (a b : Int × Nat × XS) : Prop := a.1 = b.1 ∧ a.2.1 = b.2.1 ∧ a.2.2.2 = b.2.2.2 ∧ (a.1 = 2 ∨ a.2.2 = b.2.2)
theorem wk_x {τ : Sg} {m : Bool} : ∀ (d : Nat) (P : Pth) (x y : XS), x.2 = y.2 → Wlk (wk τ m d P x) (wk τ m d P y)
  | 0, P, x, y, h => ⟨rfl, rfl, h, Or.inl rfl⟩
  | d + 1, P, x, y, h => by
    have hc : cntX x = (x.1, (cntX y).2) := by unfold cntX; rw [h]
    rw [wk_s, wk_s, h]
    by_cases c0 : (qry τ m P).1 = 0
    · rw [if_pos c0, if_pos c0]; exact ⟨rfl, rfl, rfl, Or.inr rfl⟩
    rw [if_neg c0, if_neg c0]
    by_cases c1 : (qry τ m P).1 = 1
    · rw [if_pos c1, if_pos c1]; exact ⟨rfl, rfl, rfl, Or.inr rfl⟩
    rw [if_neg c1, if_neg c1]
    by_cases c2 : (qry τ m P).1 = 2
    · rw [if_pos c2, if_pos c2]; exact ⟨rfl, rfl, h, Or.inl rfl⟩
    rw [if_neg c2, if_neg c2]
    by_cases c5 : (qry τ m P).1 = 5
    · rw [if_pos c5, if_pos c5]; exact wk_x d _ _ _ rfl
    rw [if_neg c5, if_neg c5]
    by_cases c4 : (qry τ m P).1 = 4
    · rw [if_pos c4, if_pos c4]
      have hg : (gvR τ (qry τ m P).2.2 (qry τ m P).2.1 (cntX x)).1 = (gvR τ (qry τ m P).2.2 (qry τ m P).2.1 (cntX y)).1 ∧ (gvR τ (qry τ m P).2.2 (qry τ m P).2.1 (cntX x)).2.2 = (gvR τ (qry τ m P).2.2 (qry τ m P).2.1 (cntX y)).2.2 := by
        rw [hc]
        unfold gvR
        dsimp only
        split
        · exact ⟨rfl, rfl⟩
        · exact ⟨rfl, rfl⟩
      rw [hg.1]
      exact wk_x d _ _ _ hg.2
    · rw [if_neg c4, if_neg c4]
      exact wk_x d _ _ _ (by rw [hc])
/-- what a walk has found agrees with the values -/
def WI (τ : Sg) (m : Bool) (P : Pth) (x : XS) : Prop := AP τ m P ∧ (∀ pl, ¬ hk P pl = -9 → hdR τ pl = hk P pl) ∧ (∀ v pl, vk P v pl = lkR x.2.2 v pl) ∧ JR x.2.2
def CtxT (τ : Sg) : Prop := WFK (τ 1) (τ 2) (τ 3) ∧ WFV τ ∧ WFP τ ∧ WFM τ ∧ WFW τ ∧ GV τ
theorem WI.kd {τ : Sg} {m : Bool} {P : Pth} {x : XS} (h : WI τ m P x) {pl : Int} (hk0 : 0 ≤ kd τ (hk P) pl) : kd τ (hdR τ) pl = kd τ (hk P) pl := kd_ext h.2.1 _ pl (Nat.le_refl _) hk0
theorem hdR_b {τ : Sg} (hC : CtxT τ) {pl : Int} (hv : vR τ pl) : 0 ≤ hdR τ pl ∧ hdR τ pl ≤ 9 ∧ (kd τ (hdR τ) pl = 5 → hdR τ pl ≤ 3) ∧ (kd τ (hdR τ) pl ≤ 3 → hdR τ pl < τ 1 (kd τ (hdR τ) pl).toNat) := by
  obtain ⟨hF, hV, hP, hM, hW, hG⟩ := hC
  have hb := va_b hF hV hM hG hv
  refine HOK_R hF hV hM hG pl hv.1 hv.2.1 hv.2.2 (fun z => ?_)
  unfold hdR at z
  split at z
  · have := hb.1 (by omega); omega
  · have := (hV.2.2 (va τ pl).toNat (by omega)).2.2.2.2.1
    omega
theorem WI.head {τ : Sg} {m : Bool} {P : Pth} {x : XS} (hC : CtxT τ) (h : WI τ m P x) (h3 : (qry τ m P).1 = 3) : vR τ (qry τ m P).2.1 ∧ 0 ≤ hdR τ (qry τ m P).2.1 ∧ hdR τ (qry τ m P).2.1 ≤ 9 ∧ (hdR τ (qry τ m P).2.1).toNat < wid τ (qry τ m P) ∧ WI τ m ((qry τ m P, (hdR τ (qry τ m P).2.1).toNat) :: P) (cntX x) := by
  obtain ⟨hF, hV, hP, hM, hW, hG⟩ := id hC
  have ha := qry_qok hP hF hM hW h.1 (Or.inl h3)
  rcases ha with ⟨-, a2, a3, a4, a5⟩ | ⟨a1, -⟩
  · have hv : vR τ (qry τ m P).2.1 := ⟨a2.1, a2.2, by rw [h.kd a3]; exact a3⟩
    obtain ⟨b1, b2, b3, b4⟩ := hdR_b hC hv
    rw [h.kd a3] at b3 b4
    have hw : (hdR τ (qry τ m P).2.1).toNat < wid τ (qry τ m P) := by
      unfold wid hds
      rw [if_pos h3, a5]
      split
      · omega
      · split
        · have := b3 (by omega); omega
        · have hle := kd_le5 hF hM a3 a2.1
          have := b4 (by omega)
          omega
    refine ⟨hv, b1, b2, hw, ⟨h.1, rfl, hw⟩, fun pl hpl => ?_, fun v pl => ?_, h.2.2.2⟩
    · have e : hk ((qry τ m P, (hdR τ (qry τ m P).2.1).toNat) :: P) pl = if (qry τ m P).1 = 3 ∧ (qry τ m P).2.1 = pl then (((hdR τ (qry τ m P).2.1).toNat : Nat) : Int) else hk P pl := rfl
      rw [e] at hpl ⊢
      by_cases g : (qry τ m P).1 = 3 ∧ (qry τ m P).2.1 = pl
      · rw [if_pos g, ← g.2]; omega
      · rw [if_neg g] at hpl ⊢; exact h.2.1 pl hpl
    · show (if (qry τ m P).1 = 4 ∧ (qry τ m P).2.1 = pl ∧ (qry τ m P).2.2 = v then (((hdR τ (qry τ m P).2.1).toNat : Nat) : Int) else vk P v pl) = _
      rw [if_neg (fun z => by have := z.1; omega)]
      exact h.2.2.1 v pl
  · omega
theorem WI.given {τ : Sg} {m : Bool} {P : Pth} {x : XS} (hC : CtxT τ) (h : WI τ m P x) (h4 : (qry τ m P).1 = 4) : vR τ (qry τ m P).2.1 ∧ (0 ≤ (qry τ m P).2.2 ∧ (qry τ m P).2.2 ≤ 2) ∧ 0 ≤ (gvR τ (qry τ m P).2.2 (qry τ m P).2.1 (cntX x)).1 ∧ (gvR τ (qry τ m P).2.2 (qry τ m P).2.1 (cntX x)).1 ≤ 9 ∧ (gvR τ (qry τ m P).2.2 (qry τ m P).2.1 (cntX x)).1.toNat < wid τ (qry τ m P) ∧ WI τ m ((qry τ m P, (gvR τ (qry τ m P).2.2 (qry τ m P).2.1 (cntX x)).1.toNat) :: P) (gvR τ (qry τ m P).2.2 (qry τ m P).2.1 (cntX x)).2 := by
  obtain ⟨hF, hV, hP, hM, hW, hG⟩ := id hC
  have ha := qry_qok hP hF hM hW h.1 (Or.inr h4)
  rcases ha with ⟨a1, -⟩ | ⟨-, a2, a3, a4, a5⟩
  · omega
  · have hv : vR τ (qry τ m P).2.1 := ⟨a2.1, a2.2, by rw [h.kd a3]; exact a3⟩
    have hH := HOK_R hF hV hM hG
    have hpr := kd_pr hF hH 3 (qry τ m P).2.1 hv.1 hv.2.1 hv.2.1 hv.2.2
    have hb := nvR_b (τ := τ) (v := (qry τ m P).2.2) (pl := (qry τ m P).2.1) (n := x.2.2.length) hW a4
    have hlk : lkR (cntX x).2.2 (qry τ m P).2.2 (qry τ m P).2.1 = -9 := by
      rw [← a5]; exact (h.2.2.1 _ _).symm
    have hJ := JR_gv (x := cntX x) hW a4 hpr h.2.2.2
    have e : gvR τ (qry τ m P).2.2 (qry τ m P).2.1 (cntX x) = (nvR τ (qry τ m P).2.2 (qry τ m P).2.1 x.2.2.length, (x.1, (cntX x).2.1, ((qry τ m P).2.2, (qry τ m P).2.1, nvR τ (qry τ m P).2.2 (qry τ m P).2.1 x.2.2.length) :: x.2.2)) := by
      unfold gvR
      rw [if_pos hlk]; rfl
    rw [e] at hJ ⊢
    dsimp only at hJ ⊢
    have hw : (nvR τ (qry τ m P).2.2 (qry τ m P).2.1 x.2.2.length).toNat < wid τ (qry τ m P) := by
      unfold wid
      rw [if_neg (by omega), if_pos h4]
      have hm := hW (qry τ m P).2.2.toNat (by omega)
      rw [show 4 * (qry τ m P).2.2.toNat + 3 = (4 * (qry τ m P).2.2 + 3).toNat by omega] at hm
      have := Int.emod_lt_of_pos (τ 18 (4 * (qry τ m P).2.2).toNat * msR τ (qry τ m P).2.1 + τ 18 (4 * (qry τ m P).2.2 + 1).toNat * (x.2.2.length : Int) + τ 18 (4 * (qry τ m P).2.2 + 2).toNat) (show 0 < τ 18 (4 * (qry τ m P).2.2 + 3).toNat by omega)
      unfold nvR at hb ⊢
      omega
    refine ⟨hv, a4, hb.1, hb.2, hw, ⟨h.1, rfl, hw⟩, fun pl hpl => ?_, fun v pl => ?_, hJ⟩
    · have e2 : hk ((qry τ m P, (nvR τ (qry τ m P).2.2 (qry τ m P).2.1 x.2.2.length).toNat) :: P) pl = hk P pl := by
        show (if (qry τ m P).1 = 3 ∧ (qry τ m P).2.1 = pl then (((nvR τ (qry τ m P).2.2 (qry τ m P).2.1 x.2.2.length).toNat : Nat) : Int) else hk P pl) = _
        rw [if_neg (fun z => by have := z.1; omega)]
      rw [e2] at hpl ⊢
      exact h.2.1 pl hpl
    · show (if (qry τ m P).1 = 4 ∧ (qry τ m P).2.1 = pl ∧ (qry τ m P).2.2 = v then (((nvR τ (qry τ m P).2.2 (qry τ m P).2.1 x.2.2.length).toNat : Nat) : Int) else vk P v pl) = (if (qry τ m P).2.2 = v ∧ (qry τ m P).2.1 = pl then nvR τ (qry τ m P).2.2 (qry τ m P).2.1 x.2.2.length else lkR x.2.2 v pl)
      by_cases g : (qry τ m P).2.2 = v ∧ (qry τ m P).2.1 = pl
      · rw [if_pos ⟨h4, g.2, g.1⟩, if_pos g]; omega
      · rw [if_neg (fun z => g ⟨z.2.2, z.2.1⟩), if_neg g]; exact h.2.2.1 v pl
theorem WI.guard {τ : Sg} {m : Bool} {P : Pth} {x y : XS} {br : Nat} (h : WI τ m P x) (h5 : (qry τ m P).1 = 5) (hb : br < 2) (hy : y.2 = x.2) : WI τ m ((qry τ m P, br) :: P) y := by
  refine ⟨⟨h.1, rfl, by show br < wid τ (qry τ m P); rw [wid_g h5]; exact hb⟩, fun pl hpl => ?_, fun v pl => ?_, by rw [hy]; exact h.2.2.2⟩
  · have e2 : hk ((qry τ m P, br) :: P) pl = hk P pl := by
      show (if (qry τ m P).1 = 3 ∧ (qry τ m P).2.1 = pl then (br : Int) else hk P pl) = _
      rw [if_neg (fun z => by have := z.1; omega)]
    rw [e2] at hpl ⊢
    exact h.2.1 pl hpl
  · show (if (qry τ m P).1 = 4 ∧ (qry τ m P).2.1 = pl ∧ (qry τ m P).2.2 = v then (br : Int) else vk P v pl) = _
    rw [if_neg (fun z => by have := z.1; omega), hy]
    exact h.2.2.1 v pl
