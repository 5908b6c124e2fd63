/-! what is known, its views in their order -/
def vwP : Pth → List (Int × Int × Int)
  | [] => []
  | q :: P => if q.1.1 = 4 then (q.1.2.2, q.1.2.1, (q.2 : Int)) :: vwP P else vwP P
theorem vw_4 {q : Ask × Nat} {P : Pth} (h : q.1.1 = 4) : vwP (q :: P) = (q.1.2.2, q.1.2.1, (q.2 : Int)) :: vwP P := if_pos h
theorem vw_n {q : Ask × Nat} {P : Pth} (h : ¬ q.1.1 = 4) : vwP (q :: P) = vwP P := if_neg h
theorem vk_vw {v pl : Int} : ∀ {P : Pth}, vk P v pl = lkR (vwP P) v pl
  | [] => rfl
  | q :: P => by
    show (if q.1.1 = 4 ∧ q.1.2.1 = pl ∧ q.1.2.2 = v then (q.2 : Int) else vk P v pl) = lkR (vwP (q :: P)) v pl
    rw [vk_vw (P := P)]
    by_cases h : q.1.1 = 4
    · rw [vw_4 h]
      show _ = (if q.1.2.2 = v ∧ q.1.2.1 = pl then (q.2 : Int) else lkR (vwP P) v pl)
      by_cases g : q.1.2.2 = v ∧ q.1.2.1 = pl
      · rw [if_pos g, if_pos ⟨h, g.2, g.1⟩]
      · rw [if_neg g, if_neg (fun z => g ⟨z.2.2, z.2.1⟩)]
    · rw [vw_n h, if_neg (fun z => h z.1)]
/-- what is known, a view that is looked at being noted -/
def gvT (P : Pth) (v pl : Int) (x : XS) : Int × XS := if lkR x.2.2 v pl = -9 then (if vk P v pl = -9 then (-9, x) else (vk P v pl, (x.1, x.2.1, (v, pl, vk P v pl) :: x.2.2))) else (lkR x.2.2 v pl, x)
def envT (P : Pth) : EnvQ := (hk P, gvT P, fun x => (x.1, x.2.1 + 1, x.2.2))
theorem gvT_k {P : Pth} {v pl : Int} {x : XS} (h : ¬ lkR x.2.2 v pl = -9) : gvT P v pl x = (lkR x.2.2 v pl, x) := if_neg h
theorem gvT_a {P : Pth} {v pl : Int} {x : XS} (h : lkR x.2.2 v pl = -9) (g : vk P v pl = -9) : gvT P v pl x = (-9, x) := by unfold gvT; rw [if_pos h, if_pos g]
theorem gvT_n {P : Pth} {v pl : Int} {x : XS} (h : lkR x.2.2 v pl = -9) (g : ¬ vk P v pl = -9) : gvT P v pl x = (vk P v pl, (x.1, x.2.1, (v, pl, vk P v pl) :: x.2.2)) := by unfold gvT; rw [if_pos h, if_neg g]
theorem gvT_c {P : Pth} {v pl : Int} {x : XS} : (lkR x.2.2 v pl = -9 ∧ vk P v pl = -9 ∧ gvT P v pl x = (-9, x)) ∨ (lkR x.2.2 v pl = -9 ∧ ¬ vk P v pl = -9 ∧ gvT P v pl x = (vk P v pl, (x.1, x.2.1, (v, pl, vk P v pl) :: x.2.2))) ∨ (¬ lkR x.2.2 v pl = -9 ∧ gvT P v pl x = (lkR x.2.2 v pl, x)) := by
  by_cases h : lkR x.2.2 v pl = -9
  · by_cases g : vk P v pl = -9
    · exact Or.inl ⟨h, g, gvT_a h g⟩
    · exact Or.inr (Or.inl ⟨h, g, gvT_n h g⟩)
  · exact Or.inr (Or.inr ⟨h, gvT_k h⟩)
theorem lkR_cons {v0 pl0 d v pl : Int} {R : List (Int × Int × Int)} : lkR ((v0, pl0, d) :: R) v pl = if v0 = v ∧ pl0 = pl then d else lkR R v pl := rfl
/-- what was noted is known -/
def AgP (P : Pth) (R : List (Int × Int × Int)) : Prop := ∀ v pl, ¬ lkR R v pl = -9 → vk P v pl = lkR R v pl
theorem AgP.nil {P : Pth} : AgP P [] := fun _ _ h => absurd rfl h
theorem AgP.push {P : Pth} {R : List (Int × Int × Int)} (h : AgP P R) (v pl : Int) : AgP P ((v, pl, vk P v pl) :: R) := fun v' pl' hn => by
  rw [lkR_cons] at hn ⊢
  by_cases c : v = v' ∧ pl = pl'
  · rw [if_pos c, c.1, c.2]
  · rw [if_neg c] at hn ⊢; exact h v' pl' hn
theorem fact_T {P : Pth} {pl : Int} : factE (envT P) pl = factE (envK P) pl := rfl
/-- noting makes no difference -/
theorem sim_K {τ : Sg} {P : Pth} : SimH τ (envT P) (envK P) (fun x x' => AgP P x.2.2 ∧ x.1 = x'.1) (fun r r' => r.1 = r'.1 ∧ AgP P r.2.2.2 ∧ r.2.1 = r'.2.1) (fun _ => True) := by
  refine ⟨fun b x x' h => ⟨rfl, h⟩, fun b r r' h e => ⟨h.1.symm.trans e, h.2⟩, fun a r r' b h e1 e2 => ?_, fun x x' v pl h => ⟨h.1, ?_⟩, fun v pl x x' h _ => ⟨fun g => ⟨fun g' => ⟨rfl, ?_, ?_⟩, fun g' => ?_⟩, fun g => ⟨?_, ?_, ?_⟩⟩, fun pl k x x' h => ⟨fun g => ⟨fun g' => ⟨rfl, h⟩, fun g' => absurd g g'⟩, fun g => ⟨rfl, h⟩⟩, fun _ _ _ _ _ => trivial, fun _ _ _ _ => trivial, fun _ _ => trivial⟩
  · rw [h.1, e2] at e1; cases e1
  · show (fun i => if i = v.toNat then pl else x.1 i) = fun i => if i = v.toNat then pl else x'.1 i
    rw [h.2]
  · change (gvT P v pl x).1 = -9 at g
    change AgP P (gvT P v pl x).2.2.2
    rcases gvT_c (P := P) (v := v) (pl := pl) (x := x) with ⟨_, _, c⟩ | ⟨_, _, c⟩ | ⟨_, c⟩
    · rw [c]; exact h.1
    · rw [c]; exact h.1.push v pl
    · rw [c]; exact h.1
  · change (gvT P v pl x).2.1 = x'.1
    rcases gvT_c (P := P) (v := v) (pl := pl) (x := x) with ⟨_, _, c⟩ | ⟨_, _, c⟩ | ⟨_, c⟩ <;> rw [c] <;> exact h.2
  · exfalso
    change (gvT P v pl x).1 = -9 at g
    change ¬ vk P v pl = -9 at g'
    rcases gvT_c (P := P) (v := v) (pl := pl) (x := x) with ⟨_, c2, c⟩ | ⟨_, c2, c⟩ | ⟨c2, c⟩
    · exact g' c2
    · rw [c] at g; exact c2 g
    · rw [c] at g; exact c2 g
  · change ¬ (gvT P v pl x).1 = -9 at g
    change vk P v pl = (gvT P v pl x).1
    rcases gvT_c (P := P) (v := v) (pl := pl) (x := x) with ⟨_, c2, c⟩ | ⟨_, c2, c⟩ | ⟨c2, c⟩
    · rw [c] at g; exact absurd rfl g
    · rw [c]
    · rw [c]; exact h.1 v pl c2
  · change AgP P (gvT P v pl x).2.2.2
    rcases gvT_c (P := P) (v := v) (pl := pl) (x := x) with ⟨_, _, c⟩ | ⟨_, _, c⟩ | ⟨_, c⟩
    · rw [c]; exact h.1
    · rw [c]; exact h.1.push v pl
    · rw [c]; exact h.1
  · change (gvT P v pl x).2.1 = x'.1
    rcases gvT_c (P := P) (v := v) (pl := pl) (x := x) with ⟨_, _, c⟩ | ⟨_, _, c⟩ | ⟨_, c⟩ <;> rw [c] <;> exact h.2
/-- later: more views noted, no fewer tests -/
def Lat (x y : XS) : Prop := x.2.2 <:+ y.2.2 ∧ x.2.1 ≤ y.2.1
theorem Lat.rfl' {x : XS} : Lat x x := ⟨List.suffix_refl _, Int.le_refl _⟩
theorem Lat.trans {x y z : XS} (h : Lat x y) (h' : Lat y z) : Lat x z := ⟨h.1.trans h'.1, Int.le_trans h.2 h'.2⟩
theorem Lat.gv {P : Pth} {v pl : Int} {x : XS} : Lat x (gvT P v pl x).2 := by
  rcases gvT_c (P := P) (v := v) (pl := pl) (x := x) with ⟨_, _, c⟩ | ⟨_, _, c⟩ | ⟨_, c⟩
  · rw [c]; exact Lat.rfl'
  · rw [c]; exact ⟨List.suffix_cons _ _, Int.le_refl _⟩
  · rw [c]; exact Lat.rfl'
theorem Lat.ts {P : Pth} {x : XS} : Lat x ((envT P).2.2 x) := ⟨List.suffix_refl _, by show x.2.1 ≤ x.2.1 + 1; omega⟩
theorem sim_S {τ : Sg} {P : Pth} (x0 : XS) : SimH τ (envT P) (envT P) (fun x x' => x' = x ∧ Lat x0 x) (fun r r' => r' = r ∧ Lat x0 r.2) (fun _ => True) := by
  refine ⟨fun b x x' h => ⟨by rw [h.1], h.2⟩, fun b r r' h e => ⟨by rw [h.1]; exact e, by rw [h.1], h.2⟩, fun a r r' b h e1 e2 => ?_, fun x x' v pl h => ⟨by rw [h.1], h.2⟩, fun v pl x x' h _ => ⟨fun g => ⟨fun g' => ⟨by rw [h.1], h.2.trans Lat.gv⟩, fun g' => absurd (by rw [h.1]; exact g) g'⟩, fun g => ⟨by rw [h.1], by rw [h.1], h.2.trans Lat.gv⟩⟩, fun pl k x x' h => ⟨fun g => ⟨fun g' => ⟨by rw [h.1], h.2⟩, fun g' => absurd g g'⟩, fun g => ⟨rfl, by rw [h.1], h.2.trans (Lat.ts (P := P))⟩⟩, fun _ _ _ _ _ => trivial, fun _ _ _ _ => trivial, fun _ _ => trivial⟩
  rw [h.1, e1] at e2; cases e2
theorem mt_S {τ : Sg} {P : Pth} {n p : Nat} {pl : Int} {x : XS} : Lat x (mt τ (envT P) n p pl x).2 := (mt_rel (sim_S x) n p pl x x ⟨rfl, Lat.rfl'⟩ trivial).2
theorem seq_S {τ : Sg} {P : Pth} {n : Nat} {L : List (Nat × Int)} {x : XS} : Lat x (seqM (mt τ (envT P) n) L x).2 := (seq_rel (sim_S (P := P) x) (n := n) (L := L) (x := x) (x' := x) ⟨rfl, Lat.rfl'⟩ trivial).2
/-- once all that is known was noted, it stays so -/
theorem sim_F {τ : Sg} {P : Pth} : SimH τ (envT P) (envT P) (fun x x' => x' = x ∧ x.2.2 = vwP P) (fun r r' => r' = r ∧ r.2.2.2 = vwP P) (fun _ => True) := by
  have hg : ∀ (v pl : Int) (x : XS), x.2.2 = vwP P → (gvT P v pl x).2.2.2 = vwP P := fun v pl x h => by
    rcases gvT_c (P := P) (v := v) (pl := pl) (x := x) with ⟨_, _, c⟩ | ⟨c1, c2, c⟩ | ⟨_, c⟩
    · rw [c]; exact h
    · rw [h, ← vk_vw] at c1; exact absurd c1 c2
    · rw [c]; exact h
  refine ⟨fun b x x' h => ⟨by rw [h.1], h.2⟩, fun b r r' h e => ⟨by rw [h.1]; exact e, by rw [h.1], h.2⟩, fun a r r' b h e1 e2 => ?_, fun x x' v pl h => ⟨by rw [h.1], h.2⟩, fun v pl x x' h _ => ⟨fun g => ⟨fun g' => ⟨by rw [h.1], hg v pl x h.2⟩, fun g' => absurd (by rw [h.1]; exact g) g'⟩, fun g => ⟨by rw [h.1], by rw [h.1], hg v pl x h.2⟩⟩, fun pl k x x' h => ⟨fun g => ⟨fun g' => ⟨by rw [h.1], h.2⟩, fun g' => absurd g g'⟩, fun g => ⟨rfl, by rw [h.1], h.2⟩⟩, fun _ _ _ _ _ => trivial, fun _ _ _ _ => trivial, fun _ _ => trivial⟩
  rw [h.1, e1] at e2; cases e2
theorem mt_F {τ : Sg} {P : Pth} {n p : Nat} {pl : Int} {x : XS} (h : x.2.2 = vwP P) : (mt τ (envT P) n p pl x).2.2.2 = vwP P := (mt_rel sim_F n p pl x x ⟨rfl, h⟩ trivial).2
theorem seq_F {τ : Sg} {P : Pth} {n : Nat} {L : List (Nat × Int)} {x : XS} (h : x.2.2 = vwP P) : (seqM (mt τ (envT P) n) L x).2.2.2 = vwP P := (seq_rel (sim_F (P := P)) (n := n) (L := L) (x := x) (x' := x) ⟨rfl, h⟩ trivial).2
/-- what is asked of a pattern is a head or a view -/
theorem sim_A {τ : Sg} {P : Pth} : SimH τ (envT P) (envT P) (fun x x' => x' = x) (fun r r' => r' = r ∧ ∀ a, r.1 = .inr a → a.1 = 3 ∨ a.1 = 4) (fun _ => True) := by
  refine ⟨fun b x x' h => ⟨by rw [h], fun a e => by cases e⟩, fun b r r' h e => ⟨by rw [h.1]; exact e, by rw [h.1]⟩, fun a r r' b h e1 e2 => ?_, fun x x' v pl h => by rw [h], fun v pl x x' h _ => ⟨fun g => ⟨fun g' => ⟨by rw [h], fun a e => ?_⟩, fun g' => absurd (by rw [h]; exact g) g'⟩, fun g => ⟨by rw [h], by rw [h]⟩⟩, fun pl k x x' h => ⟨fun g => ⟨fun g' => ⟨by rw [h], fun a e => ?_⟩, fun g' => absurd g g'⟩, fun g => ⟨rfl, by rw [h]⟩⟩, fun _ _ _ _ _ => trivial, fun _ _ _ _ => trivial, fun _ _ => trivial⟩
  · rw [h.1, e1] at e2; cases e2
  · cases e; exact Or.inr rfl
  · cases e; exact Or.inl rfl
theorem try_ask_k {τ : Sg} {P : Pth} {c : Nat} {x : XS} {a : Ask} (h : (tryS τ (envT P) c x).1 = .inr a) (hk : a.1 = 2 ∨ a.1 = 0 ∨ a.1 = 5) : False := by
  have := (seq_rel (sim_A (τ := τ) (P := P)) (n := 60) (L := colsL τ c) (x := clrX x) (x' := clrX x) rfl trivial).2 a h
  omega
