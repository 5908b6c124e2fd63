/-! how many tests the plain order takes at most -/
theorem szo_le {τ : Sg} {x : Int} (hW : WFP τ) (h : ¬ x = -1 → 0 ≤ x ∧ x < τ 0 9) (h1 : -1 ≤ x) : 0 ≤ szo τ x := by
  unfold szo
  by_cases c : x < 0
  · rw [if_pos c]; omega
  · rw [if_neg c]
    have := (hW.ge (p := x.toNat) (by have := (h (by omega)).2; omega)).1
    omega
theorem seq_bd {τ : Sg} {P : Pth} {n : Nat} (ih : ∀ (p : Nat) (pl : Int) (x : XS), (p : Int) < τ 0 9 → (mt τ (envT P) n p pl x).2.2.1 ≤ x.2.1 + τ 14 p) : ∀ (L : List (Nat × Int)) (x : XS), (∀ q ∈ L, (q.1 : Int) < τ 0 9 ∧ 0 ≤ τ 14 q.1) → (seqM (mt τ (envT P) n) L x).2.2.1 ≤ x.2.1 + szL τ L
  | [], x, _ => by rw [szL_nil]; show x.2.1 ≤ _; omega
  | q :: L, x, h => by
    obtain ⟨h1, h2⟩ := h q List.mem_cons_self
    have i1 := ih q.1 q.2 x h1
    have hL : 0 ≤ szL τ L := by
      have hl : ∀ (L : List (Nat × Int)), (∀ q ∈ L, (q.1 : Int) < τ 0 9 ∧ 0 ≤ τ 14 q.1) → 0 ≤ szL τ L := fun L => by
        induction L with
        | nil => intro _; rw [szL_nil]; omega
        | cons a L ihl =>
          intro hz
          have z1 := (hz a List.mem_cons_self).2
          have z2 := ihl (fun q hq => hz q (List.mem_cons_of_mem _ hq))
          rw [szL_cons]; omega
      exact hl L (fun z hz => h z (List.mem_cons_of_mem _ hz))
    rw [szL_cons]
    unfold seqM
    split
    · have i2 := seq_bd ih L (mt τ (envT P) n q.1 q.2 x).2 (fun z hz => h z (List.mem_cons_of_mem _ hz))
      omega
    · omega
theorem gvT_t {P : Pth} {v pl : Int} {x : XS} : (gvT P v pl x).2.2.1 = x.2.1 := by
  rcases gvT_c (P := P) (v := v) (pl := pl) (x := x) with ⟨_, _, c⟩ | ⟨_, _, c⟩ | ⟨_, c⟩ <;> rw [c]
theorem prt_in {τ : Sg} {p k : Nat} (hW : WFP τ) (hp : (p : Int) < τ 0 9) (hk : k < 3) : ¬ prt τ p k = -1 → 0 ≤ prt τ p k ∧ prt τ p k < τ 0 9 := fun h => by
  have := hW.pb hp hk
  omega
theorem mt_bd {τ : Sg} {P : Pth} (hW : WFP τ) : ∀ (n p : Nat) (pl : Int) (x : XS), (p : Int) < τ 0 9 → (mt τ (envT P) n p pl x).2.2.1 ≤ x.2.1 + τ 14 p
  | 0, p, pl, x, hp => by
    have := (hW.ge hp).1
    show x.2.1 ≤ _; omega
  | n + 1, p, pl, x, hp => by
    have ih := mt_bd (P := P) hW n
    have hs := (hW.sz hp).1
    have hg := (hW.ge hp).1
    have p0 := prt_in hW hp (k := 0) (by omega)
    have p1 := prt_in hW hp (k := 1) (by omega)
    have p2 := prt_in hW hp (k := 2) (by omega)
    have b0 := (hW.pb hp (k := 0) (by omega)).1
    have b1 := (hW.pb hp (k := 1) (by omega)).1
    have b2 := (hW.pb hp (k := 2) (by omega)).1
    have z0 := szo_le hW p0 b0
    have z1 := szo_le hW p1 b1
    have z2 := szo_le hW p2 b2
    have hz : ∀ y : Int, 0 ≤ y → szo τ y = τ 14 y.toNat := fun y hy => by unfold szo; rw [if_neg (by omega)]
    show (mtG τ (envT P) (mt τ (envT P) n) p pl x).2.2.1 ≤ _
    unfold mtG
    by_cases c0 : τ 8 p = 0
    · rw [if_pos c0]; show x.2.1 ≤ _; omega
    rw [if_neg c0]
    by_cases c1 : τ 8 p = 1
    · rw [if_pos c1]
      have g := (hW.g1 hp c1).2.1
      have i := ih (prt τ p 0).toNat pl (bindX x (τ 9 p) pl) (by have := p0 (by omega); omega)
      have e : (bindX x (τ 9 p) pl).2.1 = x.2.1 := rfl
      rw [hz _ g] at hs
      omega
    rw [if_neg c1]
    by_cases c4 : τ 8 p = 4
    · rw [if_pos c4]
      obtain ⟨g0, g1, -⟩ := hW.g4 hp c4
      have i := ih (prt τ p 0).toNat pl x (by have := p0 (by omega); omega)
      rw [hz _ g0, hz _ g1] at hs
      rw [hz _ g1] at z1
      split
      · have i2 := ih (prt τ p 1).toNat pl (mt τ (envT P) n (prt τ p 0).toNat pl x).2 (by have := p1 (by omega); omega)
        omega
      · omega
    rw [if_neg c4]
    by_cases c5 : τ 8 p = 5
    · rw [if_pos c5]
      have g0 := (hW.g5 hp c5).2.1
      have e : ((envT P).2.1 (τ 9 p) pl x).2.2.1 = x.2.1 := gvT_t
      split
      · rw [e]; omega
      · have i := ih (prt τ p 0).toNat (-1 - ((envT P).2.1 (τ 9 p) pl x).1) ((envT P).2.1 (τ 9 p) pl x).2 (by have := p0 (by omega); omega)
        rw [e] at i
        rw [hz _ g0] at hs
        omega
    rw [if_neg c5]
    split
    · show x.2.1 ≤ _; omega
    · have e : ((envT P).2.2 x).2.1 = x.2.1 + 1 := rfl
      split
      · have i := seq_bd (P := P) ih (partsL τ p pl (factE (envT P) pl)) ((envT P).2.2 x) (fun q hq => by
          obtain ⟨l1, l2, -⟩ := parts_lt hW hp hq
          exact ⟨l1, by omega⟩)
        have h9 := szL_parts (τ := τ) (p := p) (pl := pl) (f := factE (envT P) pl) hW hp
        rw [e] at i
        omega
      · show ((envT P).2.2 x).2.1 ≤ _
        rw [e]; omega
theorem try_bd {τ : Sg} {P : Pth} (hW : WFP τ) (hM : WFM τ) {c : Nat} (hc : (c : Int) < τ 0 23) {x : XS} : (tryS τ (envT P) c x).2.2.1 ≤ x.2.1 + 120 := by
  have hq : ∀ k, k < 3 → szL τ (col1L τ c k) ≤ 40 ∧ ∀ q ∈ col1L τ c k, (q.1 : Int) < τ 0 9 ∧ 0 ≤ τ 14 q.1 := fun k hk => by
    unfold col1L
    by_cases g : (k : Int) < τ 0 21
    · rw [if_pos g]
      obtain ⟨f1, f2, -⟩ := ((hM.2.2.2.2 c hc).1 k hk).1 g
      have f3 : (((cpt τ c k).toNat : Nat) : Int) < τ 0 9 := by omega
      have f4 := hW.ge f3
      refine ⟨?_, fun q hq => ?_⟩
      · rw [szL_cons, szL_nil]; show τ 14 (cpt τ c k).toNat + 0 ≤ 40; omega
      · rw [List.mem_singleton.mp hq]; exact ⟨f3, by show 0 ≤ τ 14 (cpt τ c k).toNat; omega⟩
    · rw [if_neg g]
      exact ⟨by rw [szL_nil]; omega, fun q hq => by cases hq⟩
  obtain ⟨a0, b0⟩ := hq 0 (by omega)
  obtain ⟨a1, b1⟩ := hq 1 (by omega)
  obtain ⟨a2, b2⟩ := hq 2 (by omega)
  have h := seq_bd (P := P) (mt_bd (P := P) hW 60) (colsL τ c) (clrX x) (fun q hq => by
    unfold colsL at hq
    rcases List.mem_append.mp hq with hq | hq
    · exact b0 q hq
    rcases List.mem_append.mp hq with hq | hq
    · exact b1 q hq
    · exact b2 q hq)
  unfold colsL at h
  rw [szL_app, szL_app] at h
  have e : (clrX x).2.1 = x.2.1 := rfl
  unfold tryS
  unfold colsL
  omega
theorem psT_bd {τ : Sg} {P : Pth} (hW : WFP τ) (hM : WFM τ) : ∀ (d c : Nat) (x : XS), ((c + d : Nat) : Int) ≤ τ 0 23 → (psT τ P d c x).2.2.1 ≤ x.2.1 + 120 * d
  | 0, c, x, _ => by show x.2.1 ≤ _; omega
  | d + 1, c, x, h => by
    have h1 := try_bd (P := P) hW hM (c := c) (by omega) (x := x)
    have ih := psT_bd (P := P) hW hM d (c + 1) (tryS τ (envT P) c x).2 (by omega)
    rcases res_c (tryS τ (envT P) c x) with e | e | ⟨a, e⟩
    · rw [psT_t e]
      split
      · omega
      · show (tryS τ (envT P) c x).2.2.1 ≤ _; omega
    · rw [psT_f e]; omega
    · rw [psT_a e]
      show (tryS τ (envT P) c x).2.2.1 ≤ _; omega
/-! the plain run, against what is known -/
theorem grd_x {τ : Sg} {H : Int → Int} {c : Nat} {x y : XS} (h : x.1 = y.1) : grd τ H c x = grd τ H c y := by unfold grd; rw [h]
/-- a guard that failed fails -/
def GRD (τ : Sg) (P : Pth) : Prop := ∀ c, fk P c = true → ∀ z : XS, z.1 = (tryK τ P c).2.1 → grd τ (hdR τ) c z = 1
theorem pl_cmp {τ : Sg} {P : Pth} (hR : RealP τ P) (hG : GRD τ P) : ∀ (d c : Nat) (x : XS), AgP P x.2.2 → (psT τ P d c x).2.2.2 <:+ vwP P →
    ((psT τ P d c x).1 = (2, 0, 0) → (plS τ d c (wX x)).1 = 2 ∧ (plS τ d c (wX x)).2.2 = wX (psT τ P d c x).2) ∧
    (∀ c' : Nat, (psT τ P d c x).1 = (0, (c' : Int), 0) → plS τ d c (wX x) = (0, c', wX (psT τ P d c x).2) ∧ (psT τ P d c x).2.1 = (tryK τ P c').2.1) ∧
    (∀ c' : Nat, (psT τ P d c x).1 = (5, (c' : Int), 0) → (psT τ P d c x).2.1 = (tryK τ P c').2.1 ∧
      (grd τ (hdR τ) c' (psT τ P d c x).2 = 0 → plS τ d c (wX x) = (0, c', wX (psT τ P d c x).2)) ∧
      (grd τ (hdR τ) c' (psT τ P d c x).2 = 2 → plS τ d c (wX x) = (1, c', wX (psT τ P d c x).2)))
  | 0, c, x, _, _ => ⟨fun _ => ⟨rfl, rfl⟩, fun c' h => absurd h (by show ¬ ((2, 0, 0) : Ask) = _; intro z; have := congrArg (fun a : Ask => a.1) z; exact absurd this (by show ¬ (2 : Int) = 0; omega)), fun c' h => absurd h (by show ¬ ((2, 0, 0) : Ask) = _; intro z; have := congrArg (fun a : Ask => a.1) z; exact absurd this (by show ¬ (2 : Int) = 5; omega))⟩
  | d + 1, c, x, hA, hs => by
    obtain ⟨k1, k2, k3⟩ := try_K (τ := τ) (c := c) hA
    rcases res_c (tryS τ (envT P) c x) with e | e | ⟨a, e⟩
    · rw [psT_t e] at hs ⊢
      have hsub : (tryS τ (envT P) c x).2.2.2 <:+ vwP P := by
        by_cases g : fk P c = true
        · rw [if_pos g] at hs; exact (psT_S d (c + 1) _).1.trans hs
        · rw [if_neg g] at hs; exact hs
      obtain ⟨r1, r2⟩ := try_R hR e hsub
      have hpl : plS τ (d + 1) c (wX x) = if grd τ (hdR τ) c (tryS τ (envT P) c x).2 = 1 then plS τ d (c + 1) (wX (tryS τ (envT P) c x).2) else if grd τ (hdR τ) c (tryS τ (envT P) c x).2 = 0 then (0, c, wX (tryS τ (envT P) c x).2) else (1, c, wX (tryS τ (envT P) c x).2) := by
        show (if (tryS τ (envR τ) c (wX x)).1 = .inl true then (if grd τ (hdR τ) c (tryS τ (envR τ) c (wX x)).2 = 1 then plS τ d (c + 1) (tryS τ (envR τ) c (wX x)).2 else if grd τ (hdR τ) c (tryS τ (envR τ) c (wX x)).2 = 0 then (0, c, (tryS τ (envR τ) c (wX x)).2) else (1, c, (tryS τ (envR τ) c (wX x)).2)) else plS τ d (c + 1) (tryS τ (envR τ) c (wX x)).2) = _
        rw [if_pos r1, r2, grd_x (x := wX (tryS τ (envT P) c x).2) (y := (tryS τ (envT P) c x).2) rfl]
      rw [hpl]
      by_cases g : fk P c = true
      · rw [if_pos g] at hs ⊢
        rw [if_pos (hG c g _ k3)]
        exact pl_cmp hR hG d (c + 1) _ k2 hs
      · rw [if_neg g] at hs ⊢
        refine ⟨fun z => ?_, fun c' z => ?_, fun c' z => ?_⟩
        · exfalso
          have z2 := congrArg (fun a : Ask => a.1) z
          by_cases w : τ 22 c = -1
          · rw [if_pos w] at z2; exact absurd z2 (by show ¬ (0 : Int) = 2; omega)
          · rw [if_neg w] at z2; exact absurd z2 (by show ¬ (5 : Int) = 2; omega)
        · by_cases w : τ 22 c = -1
          · rw [if_pos w] at z
            have z3 : (c : Int) = c' := congrArg (fun a : Ask => a.2.1) z
            have z4 : c = c' := by omega
            subst z4
            have hg0 : grd τ (hdR τ) c (tryS τ (envT P) c x).2 = 0 := by unfold grd; rw [if_pos w]
            rw [hg0, if_neg (by omega), if_pos rfl]
            exact ⟨rfl, k3⟩
          · rw [if_neg w] at z
            have z2 : (5 : Int) = 0 := congrArg (fun a : Ask => a.1) z
            omega
        · by_cases w : τ 22 c = -1
          · rw [if_pos w] at z
            have z2 : (0 : Int) = 5 := congrArg (fun a : Ask => a.1) z
            omega
          · rw [if_neg w] at z
            have z3 : (c : Int) = c' := congrArg (fun a : Ask => a.2.1) z
            have z4 : c = c' := by omega
            subst z4
            refine ⟨k3, fun y => ?_, fun y => ?_⟩
            · change grd τ (hdR τ) c (tryS τ (envT P) c x).2 = 0 at y
              rw [y, if_neg (by omega), if_pos rfl]
            · change grd τ (hdR τ) c (tryS τ (envT P) c x).2 = 2 at y
              rw [y, if_neg (by omega), if_neg (by omega)]
    · rw [psT_f e] at hs ⊢
      obtain ⟨r1, r2⟩ := try_R hR e ((psT_S d (c + 1) _).1.trans hs)
      have hpl : plS τ (d + 1) c (wX x) = plS τ d (c + 1) (wX (tryS τ (envT P) c x).2) := by
        show (if (tryS τ (envR τ) c (wX x)).1 = .inl true then _ else plS τ d (c + 1) (tryS τ (envR τ) c (wX x)).2) = _
        rw [if_neg (by rw [r1]; intro z; cases z), r2]
      rw [hpl]
      exact pl_cmp hR hG d (c + 1) _ k2 hs
    · rw [psT_a e] at hs ⊢
      have hcase : ∀ (u : Ask), a = u → (u.1 = 2 ∨ u.1 = 0 ∨ u.1 = 5) → False := fun u hu hk => by
        have e2 : (tryS τ (envT P) c x).1 = .inr u := by rw [e, hu]
        exact absurd hk (fun z => try_ask_k e2 z)
      exact ⟨fun z => (hcase _ z (Or.inl rfl)).elim, fun c' z => (hcase _ z (Or.inr (Or.inl rfl))).elim, fun c' z => (hcase _ z (Or.inr (Or.inr rfl))).elim⟩
