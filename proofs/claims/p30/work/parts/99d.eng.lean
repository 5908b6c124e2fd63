/-! one thing more known -/
theorem hk_q {q : Ask × Nat} {P : Pth} {pl : Int} (h : ¬ hk (q :: P) pl = hk P pl) : q.1.1 = 3 ∧ q.1.2.1 = pl := by
  by_cases c : q.1.1 = 3 ∧ q.1.2.1 = pl
  · exact c
  · exact absurd (if_neg c) h
theorem vk_q {q : Ask × Nat} {P : Pth} {v pl : Int} (h : ¬ vk (q :: P) v pl = vk P v pl) : q.1.1 = 4 ∧ q.1.2.1 = pl ∧ q.1.2.2 = v := by
  by_cases c : q.1.1 = 4 ∧ q.1.2.1 = pl ∧ q.1.2.2 = v
  · exact c
  · exact absurd (if_neg c) h
def JL (P : Pth) (q : Ask × Nat) (r r' : Res) : Prop := (∃ b, r.1 = .inl b ∧ r' = r) ∨ (∃ a, r.1 = .inr a ∧ (r.2.2.2 = vwP P → (q.1.1 = 4 → a = q.1) → r'.2.2.2 = vwP (q :: P) ∧ r.2.2.1 ≤ r'.2.2.1 ∧ (a = q.1 → q.1.1 = 3 → r.2.2.1 + 1 ≤ r'.2.2.1)))
theorem JL.cont {P : Pth} {q : Ask × Nat} {r r' r2 : Res} {a : Ask} (h : JL P q r r') (e : r.1 = .inr a) (h1 : r'.2.2.2 = vwP (q :: P) → r2.2.2.2 = vwP (q :: P)) (h2 : r'.2.2.1 ≤ r2.2.2.1) : JL P q r r2 := by
  rcases h with ⟨b, h3, -⟩ | ⟨a', h3, h4⟩
  · rw [e] at h3; cases h3
  · refine Or.inr ⟨a', h3, fun g1 g2 => ?_⟩
    obtain ⟨k1, k2, k3⟩ := h4 g1 g2
    exact ⟨h1 k1, Int.le_trans k2 h2, fun u1 u2 => Int.le_trans (k3 u1 u2) h2⟩
theorem fact_k {P : Pth} {pl : Int} (h : factE (envT P) pl = -9) : ¬ pl < 0 ∧ hk P pl = -9 := by
  unfold factE at h
  by_cases c : pl < 0
  · rw [if_pos c] at h; omega
  · rw [if_neg c] at h; exact ⟨c, h⟩
theorem fact_e {P P' : Pth} {pl : Int} (h : ¬ pl < 0 → hk P' pl = hk P pl) : factE (envT P') pl = factE (envT P) pl := by
  unfold factE
  by_cases c : pl < 0
  · rw [if_pos c, if_pos c]
  · rw [if_neg c, if_neg c]; exact h c
theorem sim_L {τ : Sg} {P : Pth} {q : Ask × Nat} (hu : q.1.1 = 3 → hk P q.1.2.1 = -9) (hw : q.1.1 = 4 → vk P q.1.2.2 q.1.2.1 = -9) : SimH τ (envT P) (envT (q :: P)) (fun x x' => x' = x) (JL P q) (fun _ => True) := by
  have hvk : ∀ v pl, ¬ vk P v pl = -9 → vk (q :: P) v pl = vk P v pl := fun v pl h => by
    by_cases c : vk (q :: P) v pl = vk P v pl
    · exact c
    · obtain ⟨c1, c2, c3⟩ := vk_q c
      have := hw c1
      rw [c2, c3] at this
      exact absurd this h
  have hhk : ∀ pl, ¬ hk P pl = -9 → hk (q :: P) pl = hk P pl := fun pl h => by
    by_cases c : hk (q :: P) pl = hk P pl
    · exact c
    · obtain ⟨c1, c2⟩ := hk_q c
      have := hu c1
      rw [c2] at this
      exact absurd this h
  refine ⟨fun b x x' h => Or.inl ⟨b, rfl, by rw [h]⟩, fun b r r' h e => ?_, fun a r r' b h e1 e2 n p pl => h.cont e1 (fun g => mt_F g) (mt_S (P := q :: P)).2, fun x x' v pl h => by rw [h], fun v pl x x' h _ => ?_, fun pl k x x' h => ?_, fun _ _ _ _ _ => trivial, fun _ _ _ _ => trivial, fun _ _ => trivial⟩
  · rcases h with ⟨b', h1, h2⟩ | ⟨a, h1, -⟩
    · rw [h2]; exact ⟨e, rfl⟩
    · rw [e] at h1; cases h1
  · subst x'
    show ((gvT P v pl x).1 = -9 → ((gvT (q :: P) v pl x).1 = -9 → JL P q (.inr (4, pl, v), (gvT P v pl x).2) (.inr (4, pl, v), (gvT (q :: P) v pl x).2)) ∧ (¬ (gvT (q :: P) v pl x).1 = -9 → JL P q (.inr (4, pl, v), (gvT P v pl x).2) (.inl true, (gvT (q :: P) v pl x).2))) ∧ (¬ (gvT P v pl x).1 = -9 → (gvT (q :: P) v pl x).1 = (gvT P v pl x).1 ∧ (gvT (q :: P) v pl x).2 = (gvT P v pl x).2)
    rcases gvT_c (P := P) (v := v) (pl := pl) (x := x) with ⟨c1, c2, c⟩ | ⟨c1, c2, c⟩ | ⟨c1, c⟩
    · rw [c]
      refine ⟨fun _ => ⟨fun g => ?_, fun g => ?_⟩, fun g => absurd rfl g⟩
      · have c3 : vk (q :: P) v pl = -9 := by
          by_cases z : vk (q :: P) v pl = -9
          · exact z
          · rw [gvT_n c1 z] at g; exact g
        rw [gvT_a c1 c3]
        refine Or.inr ⟨_, rfl, fun g1 g2 => ⟨?_, Int.le_refl _, fun u1 u2 => ?_⟩⟩
        · show x.2.2 = vwP (q :: P)
          by_cases z : q.1.1 = 4
          · have := g2 z
            have e : vk (q :: P) v pl = (q.2 : Int) := if_pos ⟨z, by rw [← this], by rw [← this]⟩
            rw [c3] at e; omega
          · rw [vw_n z]; exact g1
        · rw [← u1] at u2; exact absurd u2 (by show ¬ (4 : Int) = 3; omega)
      · have c3 : ¬ vk (q :: P) v pl = -9 := fun z => by rw [gvT_a c1 z] at g; exact g rfl
        rw [gvT_n c1 c3]
        have c4 := vk_q (q := q) (P := P) (v := v) (pl := pl) (by rw [c2]; exact c3)
        refine Or.inr ⟨_, rfl, fun g1 g2 => ⟨?_, Int.le_refl _, fun u1 u2 => ?_⟩⟩
        · show (v, pl, vk (q :: P) v pl) :: x.2.2 = vwP (q :: P)
          rw [vw_4 c4.1, c4.2.1, c4.2.2, show x.2.2 = vwP P from g1, show vk (q :: P) v pl = (q.2 : Int) from if_pos c4]
        · rw [c4.1] at u2; omega
    · rw [c]
      refine ⟨fun g => absurd g c2, fun _ => ?_⟩
      have e := hvk v pl c2
      rw [gvT_n c1 (by rw [e]; exact c2), e]
      exact ⟨rfl, rfl⟩
    · rw [c, gvT_k (P := q :: P) c1]
      exact ⟨fun g => absurd g c1, fun _ => ⟨rfl, rfl⟩⟩
  · subst x'
    refine ⟨fun g => ?_, fun g => ?_⟩
    · obtain ⟨g1, g2⟩ := fact_k g
      refine ⟨fun g' => ?_, fun g' b => ?_⟩
      · obtain ⟨-, g4⟩ := fact_k g'
        refine Or.inr ⟨_, rfl, fun k1 k2 => ⟨?_, Int.le_refl _, fun u1 u2 => ?_⟩⟩
        · show x.2.2 = vwP (q :: P)
          by_cases z : q.1.1 = 4
          · have := k2 z
            rw [← this] at z; exact absurd z (by show ¬ (3 : Int) = 4; omega)
          · rw [vw_n z]; exact k1
        · have e : hk (q :: P) pl = (q.2 : Int) := if_pos ⟨u2, by rw [← u1]⟩
          rw [g4] at e; omega
      · have c4 := hk_q (q := q) (P := P) (pl := pl) (by
          intro z
          refine g' ?_
          rw [fact_e (fun _ => z)]; exact g)
        refine Or.inr ⟨_, rfl, fun k1 k2 => ⟨?_, ?_, fun u1 u2 => ?_⟩⟩
        · show x.2.2 = vwP (q :: P)
          rw [vw_n (by omega)]; exact k1
        · show x.2.1 ≤ x.2.1 + 1; omega
        · show x.2.1 + 1 ≤ x.2.1 + 1; omega
    · refine ⟨fact_e (fun c => ?_), rfl⟩
      unfold factE at g
      rw [if_neg c] at g
      exact hhk pl g
/-! what is known, against the values -/
def wX (x : XS) : XS := (x.1, wrap x.2.1, x.2.2)
/-- each view gave what it gives behind those before -/
def GVL (τ : Sg) : List (Int × Int × Int) → Prop
  | [] => True
  | e :: R => (e.2.2 = nvR τ e.1 e.2.1 R.length ∧ ¬ e.2.2 = -9) ∧ GVL τ R
theorem GVL.suf {τ : Sg} : ∀ {L S : List (Int × Int × Int)}, GVL τ L → S <:+ L → GVL τ S
  | [], S, _, hs => by rw [List.suffix_nil.mp hs]; trivial
  | a :: L, S, h, hs => by
    rcases List.suffix_cons_iff.mp hs with rfl | hs
    · exact h
    · exact GVL.suf h.2 hs
def RealP (τ : Sg) (P : Pth) : Prop := (∀ pl, ¬ hk P pl = -9 → hdR τ pl = hk P pl) ∧ GVL τ (vwP P)
theorem wrap_w {a : Int} : wrap (wrap a + 1) = wrap (a + 1) := by unfold wrap; omega
theorem sim_R {τ : Sg} {P : Pth} (hR : RealP τ P) : SimH τ (envT P) (envR τ) (fun x x' => x' = wX x) (fun r r' => ∀ b, r.1 = .inl b → r'.1 = .inl b ∧ r'.2 = wX r.2) (fun x => x.2.2 <:+ vwP P) := by
  refine ⟨fun b x x' h b' e => ⟨e, h⟩, fun b r r' h e => h b e, fun a r r' b h e1 e2 n p pl b' e => ?_, fun x x' v pl h => by rw [h]; rfl, fun v pl x x' h hv => ⟨fun g => ⟨fun g' b e => ?_, fun g' b e => ?_⟩, fun g => ?_⟩, fun pl k x x' h => ⟨fun g => ⟨fun g' b e => ?_, fun g' b b' e => ?_⟩, fun g => ?_⟩, fun n p pl x h => (mt_S (P := P)).1.trans h, fun v pl x h => (Lat.gv (P := P)).1.trans h, fun x h => h⟩
  · rw [e1] at e; cases e
  · cases e
  · cases e
  · subst h
    show (gvR τ v pl (wX x)).1 = (gvT P v pl x).1 ∧ (gvR τ v pl (wX x)).2 = wX (gvT P v pl x).2
    change ¬ (gvT P v pl x).1 = -9 at g
    change (gvT P v pl x).2.2.2 <:+ vwP P at hv
    rcases gvT_c (P := P) (v := v) (pl := pl) (x := x) with ⟨c1, c2, c⟩ | ⟨c1, c2, c⟩ | ⟨c1, c⟩
    · rw [c] at g; exact absurd rfl g
    · rw [c] at hv ⊢
      have hg := (GVL.suf hR.2 hv).1
      have e : vk P v pl = nvR τ v pl x.2.2.length := hg.1
      unfold gvR
      rw [if_pos (show lkR (wX x).2.2 v pl = -9 from c1)]
      rw [e]
      exact ⟨rfl, rfl⟩
    · rw [c]
      unfold gvR
      rw [if_neg (show ¬ lkR (wX x).2.2 v pl = -9 from c1)]
      exact ⟨rfl, rfl⟩
  · cases e
  · cases e
  · subst h
    refine ⟨?_, ?_⟩
    · unfold factE at g ⊢
      by_cases c : pl < 0
      · rw [if_pos c, if_pos c]
      · rw [if_neg c] at g
        rw [if_neg c, if_neg c]
        exact hR.1 pl g
    · show (x.1, wrap (wrap x.2.1 + 1), x.2.2) = (x.1, wrap (x.2.1 + 1), x.2.2)
      rw [wrap_w]
/-! cases -/
theorem try_K {τ : Sg} {P : Pth} {c : Nat} {x : XS} (h : AgP P x.2.2) : (tryS τ (envT P) c x).1 = (tryK τ P c).1 ∧ AgP P (tryS τ (envT P) c x).2.2.2 ∧ (tryS τ (envT P) c x).2.1 = (tryK τ P c).2.1 :=
  seq_rel (sim_K (τ := τ) (P := P)) (n := 60) (L := colsL τ c) (x := clrX x) (x' := clrX x00) ⟨h, rfl⟩ trivial
theorem try_S {τ : Sg} {P : Pth} {c : Nat} {x : XS} : Lat x (tryS τ (envT P) c x).2 := seq_S (x := clrX x)
theorem try_F {τ : Sg} {P : Pth} {c : Nat} {x : XS} (h : x.2.2 = vwP P) : (tryS τ (envT P) c x).2.2.2 = vwP P := seq_F (x := clrX x) h
theorem try_L {τ : Sg} {P : Pth} {q : Ask × Nat} (hu : q.1.1 = 3 → hk P q.1.2.1 = -9) (hw : q.1.1 = 4 → vk P q.1.2.2 q.1.2.1 = -9) {c : Nat} {x : XS} : JL P q (tryS τ (envT P) c x) (tryS τ (envT (q :: P)) c x) :=
  seq_rel (sim_L hu hw) (n := 60) (L := colsL τ c) (x := clrX x) (x' := clrX x) rfl trivial
theorem try_R {τ : Sg} {P : Pth} (hR : RealP τ P) {c : Nat} {x : XS} {b : Bool} (h : (tryS τ (envT P) c x).1 = .inl b) (hs : (tryS τ (envT P) c x).2.2.2 <:+ vwP P) : (tryS τ (envR τ) c (wX x)).1 = .inl b ∧ (tryS τ (envR τ) c (wX x)).2 = wX (tryS τ (envT P) c x).2 :=
  seq_rel (sim_R hR) (n := 60) (L := colsL τ c) (x := clrX x) (x' := clrX (wX x)) rfl hs b h
