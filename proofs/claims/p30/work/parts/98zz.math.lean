/-! a run by a tree ends: both sides -/
theorem bind_eta {α β : Type} {o : Option (α × β)} : (o.bind fun q => some (q.1, q.2)) = o := by
  cases o with
  | none => rfl
  | some v => rfl
set_option maxHeartbeats 4000000 in
theorem runTree_m {τ : Sg} {m : Bool} {pf : Nat → Pth} {N : Nat} {x : XS} (hT : CtxT τ) (hB : BI τ τ m pf N N) (hx : Xo x τ) (hl : x.2.2 = []) : ∃ s', FrT τ s' ∧ Xo (wk τ m 500 [] x).2.2 s' ∧ F_X11_runTree τ = endM (wk τ m 500 [] x).1 (wk τ m 500 [] x).2.1 s' := by
  obtain ⟨hF, hV, hP, hM, hWW, hG⟩ := id hT
  have h500 := hB.n500
  obtain ⟨n, s1, y, e1, e2, e3, e4, e5, e6⟩ := rtree_l hT hB 500 0 3000 x τ (by rw [hB.p0]; rfl) hB.pos (by omega) (by rw [hB.p0]; exact WI.nil hl) FrT.rfl' hx
  rw [hB.p0] at e6
  rw [e6, wk_s]
  have hap := hB.ap n e2
  obtain ⟨ok1, ok2, ok3, ok4⟩ := qry_ok hP hF hM hWW hap
  obtain ⟨f1, -, -⟩ := hB.fin n e2
  obtain ⟨a, ha⟩ : ∃ a, a = qry τ m (pf n) := ⟨_, rfl⟩
  rw [← ha] at ok1 ok4 f1 e5 ⊢
  obtain ⟨c1, c2, c3, c4, c5, c6, c7, c8, c9, c10⟩ := ask_cells f1 ok1.1
  have hnn : ((n : Int)).toNat = n := by omega
  have r41 : ∀ s', FrT τ s' → rdn 512 s' 41 (n : Int) = some (τ 41 n) := fun s' h' => by rw [rdn_ok (by omega) (by omega), hnn, h'.r (r := 41) (by omega) (by omega)]
  have r42 : ∀ s', FrT τ s' → rdn 512 s' 42 (n : Int) = some (τ 42 n) := fun s' h' => by rw [rdn_ok (by omega) (by omega), hnn, h'.r (r := 42) (by omega) (by omega)]
  have e1' : iter (fun a : (Int × Sg) => L_X11_runTree_2 a.1 a.2) 3000 (0, τ) = some ((n : Int), s1) := e1
  unfold F_X11_runTree
  rw [e1', Option.bind_some]
  dsimp only
  rw [r41 s1 e3, Option.bind_some]
  by_cases g2 : a.1 = 2
  · rw [if_pos (show τ 41 n = 2 by omega), if_neg (show ¬ a.1 = 0 by omega), if_neg (show ¬ a.1 = 1 by omega), if_pos g2, bind_eta]
    refine ⟨s1, e3, e4, ?_⟩
    unfold endM
    rw [if_pos rfl]
  · have g01 : a.1 = 0 ∨ a.1 = 1 := by have := ok1.1; omega
    obtain ⟨b1, b2⟩ := ok4 (by omega)
    obtain ⟨c, hc⟩ : ∃ c : Nat, a.2.1 = c := ⟨a.2.1.toNat, by omega⟩
    have h42 := c10 (by omega)
    rw [hc] at h42
    obtain ⟨s2, u1, u2, u3⟩ := bindBy_m (c := c) hT hB e2 e3 e4 (by omega)
    rw [if_neg (show ¬ τ 41 n = 2 by omega), r42 s1 e3, Option.bind_some, h42, u1, Option.bind_some, r42 s2 u2, Option.bind_some, r41 s2 u2, Option.bind_some, h42]
    unfold B_X11_runTree_174
    rw [bind_eta, bind_eta, hc, Int.toNat_natCast]
    rcases g01 with z | z
    · rw [if_neg (show ¬ τ 41 n = 1 by omega), if_pos z]
      refine ⟨s2, u2, u3, ?_⟩
      unfold endM
      dsimp only
      rw [if_neg (by decide), decide_eq_false (by decide)]
    · rw [if_pos (show τ 41 n = 1 by omega), if_neg (show ¬ a.1 = 0 by omega), if_pos z]
      refine ⟨s2, u2, u3, ?_⟩
      unfold endM
      dsimp only
      rw [if_neg (by decide), decide_eq_true rfl]
/-- a run that missed: the names are no matter -/
theorem miss_x {σ0 σ : Sg} {x y : XS} (hx : CR σ0 x σ) (h : y.2 = x.2) : ∃ σ', CR σ0 y σ' ∧ F_X1_miss σ' = F_X1_miss σ := by
  obtain ⟨c1, c2, c3, c4, c5, c6⟩ := hx
  obtain ⟨s1, h1, h2⟩ : ∃ s1 : Sg, (∀ r i, ¬ (r = 31 ∧ i < 6) → s1 r i = σ r i) ∧ ∀ i, i < 6 → s1 31 i = y.1 i := by
    refine ⟨fun r i => if r = 31 ∧ i < 6 then y.1 i else σ r i, fun r i hr => ?_, fun i hi => ?_⟩
    · show (if r = 31 ∧ i < 6 then y.1 i else σ r i) = σ r i
      rw [if_neg hr]
    · show (if 31 = 31 ∧ i < 6 then y.1 i else σ 31 i) = y.1 i
      rw [if_pos ⟨rfl, hi⟩]
  have hr : ∀ r, ¬ r = 31 → s1 r = σ r := fun r hr => by
    funext i
    exact h1 r i (fun z => hr z.1)
  refine ⟨s1, ⟨c1.same (fun r hr' => hr r (fun z => hr' (by rw [z]; decide))) (fun i hi => by rw [hr 33 (by omega)]), h2, ?_, ?_, ?_, ?_⟩, ?_⟩
  · rw [hr 27 (by omega), h]; exact c3
  · rw [hr 27 (by omega), h]; exact c4
  · rw [h]; exact rnc_congr (hr 30 (by omega)) c5
  · rw [h]; exact c6.congr (hr 29 (by omega))
  · unfold F_X1_miss F_X1_unbind
    rw [bnd_eq, bnd_eq, bnd_eq, bnd_eq]
    congr 1
    funext r i
    unfold fillF
    by_cases g : r = 31 ∧ i < 6
    · rw [if_pos g, if_pos g]
    · rw [if_neg g, if_neg g, h1 r i g]
/-- what ties the two but the course, where only ints of no matter changed -/
def RS5 (σ τ : Sg) : Prop := RK σ τ ∧ RV σ τ ∧ RP σ τ ∧ RW σ τ ∧ RM σ τ
theorem RS5.cong {σ σ' τ τ' : Sg} (h : RS5 σ τ) (hs : ∀ r, r ≤ 26 → σ' r = σ r) (ht : ∀ r, 1 ≤ r → r ≤ 25 → τ' r = τ r) (h4 : τ' 0 4 = τ 0 4) (h9 : τ' 0 9 = τ 0 9) (h21 : τ' 0 21 = τ 0 21) (h23 : τ' 0 23 = τ 0 23) : RS5 σ' τ' := by
  obtain ⟨hK, hV, hP, hW, hM⟩ := h
  refine ⟨?_, ?_, RP.fr hP hK.2.2.2 (fun r r1 r2 => hs r (by omega)) (fun r r1 r2 => ht r r1 (by omega)) h9, ?_, hM.mono hP.2.1 (ExtK.same (fun r r1 r2 => ht r r1 (by omega))) ?_ (fun r r1 r2 => hs r (by omega)) (fun r r1 r2 => ht r (by omega) (by omega)) h21 h23⟩
  · unfold RK at *
    rw [hs 2 (by omega), hs 3 (by omega), hs 4 (by omega), ht 1 (by omega) (by omega), ht 2 (by omega) (by omega), ht 3 (by omega) (by omega)]
    exact hK
  · unfold RV WFV at *
    rw [hs 5 (by omega), hs 6 (by omega), hs 7 (by omega), hs 8 (by omega), hs 9 (by omega), h4, ht 1 (by omega) (by omega), ht 2 (by omega) (by omega), ht 3 (by omega) (by omega), ht 4 (by omega) (by omega), ht 5 (by omega) (by omega), ht 6 (by omega) (by omega), ht 7 (by omega) (by omega)]
    exact hV
  · unfold RW at *
    rw [hs 23 (by omega), ht 18 (by omega) (by omega)]
    exact hW
  · exact ⟨by omega, fun p hp => ⟨fun r hr => by
      simp only [List.mem_cons, List.not_mem_nil, or_false] at hr
      rw [ht r (by omega) (by omega)], fun k hk => by rw [ht 11 (by omega) (by omega)]⟩⟩
/-- what a run by a tree leaves of the reference -/
def FinT (τ s : Sg) : Prop := (∀ r, r ∉ [0, 25, 28, 29, 30, 31, 32, 33, 34, 36, 37, 38, 39] → s r = τ r) ∧ ∀ i, i ∉ [34, 38, 40, 41, 42, 43, 44, 47, 48, 52] → s 0 i = τ 0 i
set_option maxHeartbeats 4000000 in
theorem fin_tree {σ0 σ τ s : Sg} {x y : XS} {kind : Int} {c : Nat} (h5 : RS5 σ0 τ) (hG : GV τ) (hx : CR σ0 x σ) (hJ : JR x.2.2) (hs : FrT τ s) (hy : Xo y s) (hxy : x.2 = y.2) (hxn : kind = 2 ∨ x = y) (hk : kind = 0 ∨ kind = 1 ∨ kind = 2) (hc : kind = 2 ∨ (c : Int) < τ 0 23) (h25 : ∀ i, inR (τ 25 i)) : ∃ v s', endM kind c s = some (v, s') ∧ (endC kind c σ).1 = v ∧ RS (endC kind c σ).2 s' ∧ FinC σ0 (endC kind c σ).2 ∧ FinT τ s' := by
  -- the base: what the reference set for itself in the run
  obtain ⟨τb, hb1, hb2, hb3⟩ : ∃ τb : Sg, (∀ r, ¬ r = 0 → τb r = τ r) ∧ (∀ i, i = 40 ∨ i = 41 → τb 0 i = s 0 i) ∧ (∀ i, ¬ i = 40 → ¬ i = 41 → τb 0 i = τ 0 i) := by
    refine ⟨fun r i => if r = 0 ∧ (i = 40 ∨ i = 41) then s 0 i else τ r i, fun r hr => ?_, fun i hi => ?_, fun i h1 h2 => ?_⟩
    · funext i
      show (if r = 0 ∧ (i = 40 ∨ i = 41) then s 0 i else τ r i) = τ r i
      rw [if_neg (fun z => hr z.1)]
    · show (if 0 = 0 ∧ (i = 40 ∨ i = 41) then s 0 i else τ 0 i) = s 0 i
      rw [if_pos ⟨rfl, hi⟩]
    · show (if 0 = 0 ∧ (i = 40 ∨ i = 41) then s 0 i else τ 0 i) = τ 0 i
      rw [if_neg (by omega)]
  have h5b : RS5 σ0 τb := h5.cong (fun r _ => rfl) (fun r r1 _ => hb1 r (by omega)) (hb3 4 (by omega) (by omega)) (hb3 9 (by omega) (by omega)) (hb3 21 (by omega) (by omega)) (hb3 23 (by omega) (by omega))
  have hGb : GV τb := by
    unfold GV at *
    rw [hb3 21 (by omega) (by omega), hb3 4 (by omega) (by omega), hb1 35 (by omega), hb1 4 (by omega), hb1 19 (by omega)]
    exact hG
  have hCb : CtxC σ0 τb := ⟨h5b.1, h5b.2.1, h5b.2.2.1, h5b.2.2.2.1, h5b.2.2.2.2, hGb⟩
  have hrx : RX τb y s := by
    refine ⟨⟨fun r hr => ?_, fun i hi => ?_⟩, hy⟩
    · have h0 : ¬ r = 0 := fun z => hr (by rw [z]; decide)
      rw [hb1 r h0]
      exact hs.1 r hr
    · by_cases g : i = 40 ∨ i = 41
      · rw [hb2 i g]
      · rw [hb3 i (by omega) (by omega)]
        exact hs.2 i (fun z => hi (by
          simp only [List.mem_cons, List.not_mem_nil, or_false] at z ⊢
          omega))
  have hfin : ∀ σ1, CR σ0 y σ1 → endC kind c σ1 = endC kind c σ → ∃ v s', endM kind c s = some (v, s') ∧ (endC kind c σ).1 = v ∧ RS (endC kind c σ).2 s' ∧ FinC σ0 (endC kind c σ).2 ∧ FinT τ s' := fun σ1 h1 he => by
    obtain ⟨v, s', a1, a2, a3, a4, a5⟩ := fin_RS hCb h1 (by rw [← hxy]; exact hJ) hrx hk (by rw [hb3 23 (by omega) (by omega)]; exact hc) (fun i => by rw [hb1 25 (by omega)]; exact h25 i)
    rw [he] at a2 a3 a4
    refine ⟨v, s', a1, a2, a3, a4, fun r hr => ?_, fun i hi => ?_⟩
    · rw [a5.1 r hr, hb1 r (fun z => hr (by rw [z]; decide))]
    · have h40 : ¬ i = 40 := fun z => hi (by rw [z]; decide)
      have h41 : ¬ i = 41 := fun z => hi (by rw [z]; decide)
      rw [a5.2 i (fun z => hi (by
        simp only [List.mem_cons, List.not_mem_nil, or_false] at z ⊢
        omega)), hb3 i h40 h41]
  rcases hxn with hk2 | hxe
  · obtain ⟨σ1, k1, k2⟩ := miss_x hx hxy.symm
    refine hfin σ1 k1 ?_
    unfold endC
    rw [if_neg (by omega), if_neg (by omega), if_neg (by omega), if_neg (by omega), k2]
  · exact hfin σ (by rw [← hxe]; exact hx) rfl
