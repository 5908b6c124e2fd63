/-! the reference's matching: a case -/
def col1L (τ : Sg) (c k : Nat) : List (Nat × Int) := if (k : Int) < τ 0 21 then [((cpt τ c k).toNat, (k : Int) + 1)] else []
def colsL (τ : Sg) (c : Nat) : List (Nat × Int) := col1L τ c 0 ++ (col1L τ c 1 ++ col1L τ c 2)
def clrX (x : XS) : XS := ((fun _ => -1), x.2)
def tryS (τ : Sg) (E : EnvQ) (c : Nat) (x : XS) : Res := seqM (mt τ E 60) (colsL τ c) (clrX x)
def codeR (r : Bool ⊕ (Int × Int × Int)) : Int := match r with
  | .inl true => 0
  | .inl false => 1
  | .inr _ => 2
theorem col1_mem {τ : Sg} {c k : Nat} {q : Nat × Int} (h : q ∈ col1L τ c k) : (k : Int) < τ 0 21 ∧ q.1 = (cpt τ c k).toNat ∧ q.2 = (k : Int) + 1 := by
  unfold col1L at h
  split at h
  · simp only [List.mem_cons, List.not_mem_nil, or_false] at h
    rw [h]; exact ⟨by assumption, rfl, rfl⟩
  · cases h
theorem colsL_mem {τ : Sg} {c : Nat} {q : Nat × Int} (h : q ∈ colsL τ c) : ∃ k : Nat, k < 3 ∧ (k : Int) < τ 0 21 ∧ q.1 = (cpt τ c k).toNat ∧ q.2 = (k : Int) + 1 := by
  unfold colsL at h
  rw [List.mem_append, List.mem_append] at h
  rcases h with h | h | h
  · exact ⟨0, by omega, col1_mem h⟩
  · exact ⟨1, by omega, col1_mem h⟩
  · exact ⟨2, by omega, col1_mem h⟩
theorem PB_3 {d : Int} : 3 ≤ PB d := by
  unfold PB
  repeat' split
  all_goals omega
theorem cols_ok {τ : Sg} {H : Int → Int} {c : Nat} (hM : WFM τ) (hc : (c : Int) < τ 0 23) : ∀ q ∈ colsL τ c, okP τ H q.1 q.2 := by
  intro q hq
  obtain ⟨k, k3, k1, q1, q2⟩ := colsL_mem hq
  obtain ⟨w1, w2, w3, w4, w5⟩ := hM
  obtain ⟨f1, f2, f3⟩ := ((w5 c hc).1 k k3).1 k1
  have hk := w3 k k1
  have h3 := PB_3 (d := τ 13 q.1)
  have e : kd τ H ((k : Int) + 1) = τ 19 k := by
    rw [kd_col ⟨by omega, by omega⟩ (by omega)]
    exact congrArg (τ 19) (by omega)
  refine ⟨by rw [q1]; omega, Or.inr ⟨by omega, by omega, ?_, ?_⟩⟩
  · rw [q2, e]; exact hk.1
  · rw [q2, e, q1]; exact f3
theorem cols_sz {τ : Sg} {c : Nat} (hW : WFP τ) (hM : WFM τ) (hc : (c : Int) < τ 0 23) : szL τ (colsL τ c) ≤ 120 := by
  have h1 : ∀ k : Nat, k < 3 → szL τ (col1L τ c k) ≤ 40 := fun k k3 => by
    unfold col1L
    by_cases g : (k : Int) < τ 0 21
    · rw [if_pos g, szL_cons, szL_nil]
      have f := ((hM.2.2.2.2 c hc).1 k k3).1 g
      have := hW.ge (p := (cpt τ c k).toNat) (by have := f.1; have := f.2.1; omega)
      dsimp only
      omega
    · rw [if_neg g, szL_nil]; omega
  have a := h1 0 (by omega)
  have b := h1 1 (by omega)
  have d := h1 2 (by omega)
  unfold colsL
  rw [szL_app, szL_app]
  omega
def fbn (s : Sg) (k : Nat) : Sg := fun r i => if r = 33 ∧ i < k then -1 else s r i
theorem fbn_row {s : Sg} {k r : Nat} (h : ¬ r = 33) : fbn s k r = s r := by funext i; unfold fbn; rw [if_neg (fun q => h q.1)]
theorem clr_c {s : Sg} : iter (fun a : (Int × Sg) => L_X11_tryCase_12 a.1 a.2) 7 (0, s) = some (fbn s 6) := by
  have e0 : fbn s 0 = s := by funext r i; unfold fbn; rw [if_neg (by omega)]
  have := iter_up (f := fun q : (Int × Sg) => L_X11_tryCase_12 q.1 q.2) (fun j => fbn s j.toNat) (lo := 0) (n := 6) (e := fbn s 6) (fun j j0 j1 => by
    show L_X11_tryCase_12 j (fbn s j.toNat) = _
    unfold L_X11_tryCase_12
    rw [if_neg (by omega), wrn_ok j0 (by omega), Option.bind_some, wrap_id (by omega) (by omega)]
    congr 3
    funext r i
    unfold up2 fbn
    by_cases c : r = 33 ∧ i = j.toNat
    · rw [if_pos c, if_pos ⟨c.1, by omega⟩]
    · rw [if_neg c]
      by_cases c2 : r = 33 ∧ i < j.toNat
      · rw [if_pos c2, if_pos ⟨c2.1, by omega⟩]
      · rw [if_neg c2, if_neg (by omega)]) (by show L_X11_tryCase_12 6 (fbn s 6) = _; unfold L_X11_tryCase_12; rw [if_pos (by omega)]) 7 0 (by omega) (by omega) (by omega)
  rw [show (0 : Int).toNat = 0 from rfl, e0] at this
  exact this
theorem RX.clr {τ s : Sg} {x : XS} (h : RX τ x s) : RX τ (clrX x) (fbn s 6) := by
  obtain ⟨⟨h0, h1⟩, h2, h3, h4, h5, h6⟩ := h
  refine ⟨⟨fun r hr => ?_, fun i hi => by rw [fbn_row (by omega)]; exact h1 i hi⟩, fun i hi => ?_, by rw [fbn_row (by omega)]; exact h3, h4, by rw [fbn_row (by omega)]; exact h5, rnl_congr (s := s) (fun r r1 r2 => fbn_row (by omega)) h6⟩
  · have hr' := hr
    simp only [List.mem_cons, List.not_mem_nil, or_false, not_or] at hr'
    rw [fbn_row (by omega)]; exact h0 r hr
  · unfold fbn; rw [if_pos ⟨rfl, hi⟩]; rfl
/-- the columns from k on -/
def colsFrom (τ : Sg) (c : Nat) : Nat → List (Nat × Int)
  | 0 => []
  | d + 1 => col1L τ c ((τ 0 21).toNat - (d + 1)) ++ colsFrom τ c d
theorem colsFrom_eq {τ : Sg} {c : Nat} (h : 0 ≤ τ 0 21 ∧ τ 0 21 ≤ 3) : colsFrom τ c (τ 0 21).toNat = colsL τ c := by
  have : τ 0 21 = 0 ∨ τ 0 21 = 1 ∨ τ 0 21 = 2 ∨ τ 0 21 = 3 := by omega
  unfold colsL col1L
  rcases this with e | e | e | e <;> rw [e] <;> simp [colsFrom, col1L, e]
theorem cols_push {τ : Sg} {c : Nat} {x : XS} (hM : WFM τ) (hc : (c : Int) < τ 0 23) : ∀ (d : Nat) (s : Sg), (d : Int) ≤ τ 0 21 → RX τ x s → st s ((colsFrom τ c ((τ 0 21).toNat - d)).map toI) [] → (colsFrom τ c ((τ 0 21).toNat - d)).length = (τ 0 21).toNat - d → ∃ s', iter (fun a : (Int × Sg) => L_X11_tryCase_38 c a.1 a.2) (3000 - (3 - d)) ((d : Int) - 1, s) = some s' ∧ RX τ x s' ∧ st s' ((colsL τ c).map toI) []
  | 0, s, hd, hx, hs, hl => by
    refine ⟨s, ?_, hx, ?_⟩
    · rw [iter_r (f := fun a : (Int × Sg) => L_X11_tryCase_38 c a.1 a.2) (n := 2996) (a := (((0 : Nat) : Int) - 1, s)) (b := s) (by show L_X11_tryCase_38 c (((0 : Nat) : Int) - 1) s = _; unfold L_X11_tryCase_38; rw [if_pos (by omega)])]
    · rw [← colsFrom_eq hM.1]; exact hs
  | d + 1, s, hd, hx, hs, hl => by
    obtain ⟨w1, w2, w3, w4, w5⟩ := id hM
    have hdl : (d : Int) < τ 0 21 := by omega
    obtain ⟨f1, f2, f3⟩ := ((w5 c hc).1 d (by omega)).1 hdl
    have e20 := hx.1.row (r := 20) (by omega) (by omega)
    have e34 := hs.2.1
    rw [List.length_map, hl] at e34
    have hpush : colsFrom τ c ((τ 0 21).toNat - d) = ((cpt τ c d).toNat, (d : Int) + 1) :: colsFrom τ c ((τ 0 21).toNat - (d + 1)) := by
      rw [show (τ 0 21).toNat - d = ((τ 0 21).toNat - (d + 1)) + 1 by omega]
      rw [colsFrom, show (τ 0 21).toNat - (((τ 0 21).toNat - (d + 1)) + 1) = d by omega]
      unfold col1L
      rw [if_pos hdl]; rfl
    have hst := st_pu (a := cpt τ c d) (b := (d : Int) + 1) hs
    have hrx := RX_pu (a := cpt τ c d) (b := (d : Int) + 1) hx
    have hstep : L_X11_tryCase_38 c (((d + 1 : Nat) : Int) - 1) s = some (.inl ((d : Int) - 1, pu s (cpt τ c d) ((d : Int) + 1))) := by
      unfold L_X11_tryCase_38
      rw [if_neg (by omega), wrap_id (z := 3 * (c : Int)) (by omega) (by omega), wrap_id (z := 3 * (c : Int) + _) (by omega) (by omega), rdn_ok (by omega) (by omega), Option.bind_some, e20, show (3 * (c : Int) + (((d + 1 : Nat) : Int) - 1)).toNat = 3 * c + d by omega, wrap_id (z := ((d + 1 : Nat) : Int) - 1 + 1) (by omega) (by omega), wrap_id (z := ((d + 1 : Nat) : Int) - 1 + (-1)) (by omega) (by omega)]
      show (F_X11_push (cpt τ c d) _ s).bind _ = _
      rw [push_c (by omega), Option.bind_some, show ((d + 1 : Nat) : Int) - 1 + 1 = (d : Int) + 1 by omega, show ((d + 1 : Nat) : Int) - 1 + (-1) = (d : Int) - 1 by omega]
    obtain ⟨s', r1, r2, r3⟩ := cols_push hM hc d (pu s (cpt τ c d) ((d : Int) + 1)) (by omega) hrx (by
      rw [hpush, List.map_cons]
      unfold toI
      dsimp only
      rw [show (((cpt τ c d).toNat : Nat) : Int) = cpt τ c d by omega]
      exact hst) (by rw [hpush, List.length_cons, hl]; omega)
    refine ⟨s', ?_, r2, r3⟩
    rw [show 3000 - (3 - (d + 1)) = (3000 - (3 - d)) + 1 by omega]
    rw [iter_l (f := fun a : (Int × Sg) => L_X11_tryCase_38 c a.1 a.2) (a := (((d + 1 : Nat) : Int) - 1, s)) hstep]
    exact r1
set_option maxHeartbeats 4000000 in
theorem try_c {τ s : Sg} {E : EnvQ} {J : List (Int × Int × Int) → Prop} {c : Nat} {x : XS} (hW : WFP τ) (hF : WFK (τ 1) (τ 2) (τ 3)) (hM : WFM τ) (hH : HOK τ E.1) (hE : EnvOK τ E J) (hc : (c : Int) < τ 0 23) (hJ : J x.2.2) (hx : RX τ x s) : ∃ s', F_X11_tryCase c s = some (codeR (tryS τ E c x).1, s') ∧ RX τ (tryS τ E c x).2 s' ∧ J (tryS τ E c x).2.2.2 ∧ ∀ a, (tryS τ E c x).1 = .inr a → askd s' a := by
  obtain ⟨w1, w2, w3, w4, w5⟩ := id hM
  have hx3 : RX τ x (up2 (up2 s 0 34 0) 0 38 0) := (hx.up (Or.inr (Or.inr ⟨rfl, by decide⟩))).up (Or.inr (Or.inr ⟨rfl, by decide⟩))
  have hst3 : st (fbn (up2 (up2 s 0 34 0) 0 38 0) 6) [] [] := by
    refine ⟨trivial, ?_, trivial, ?_⟩
    · rw [fbn_row (by omega), up2_idx (by omega), up2_at rfl rfl]; rfl
    · rw [fbn_row (by omega), up2_at rfl rfl]; rfl
  have hxc := hx3.clr
  have e21 : fbn (up2 (up2 s 0 34 0) 0 38 0) 6 0 21 = τ 0 21 := hxc.1.2 21 (by decide)
  have hz : colsFrom τ c ((τ 0 21).toNat - (τ 0 21).toNat) = [] := by rw [Nat.sub_self]; rfl
  obtain ⟨y, y1, y2, y3⟩ := cols_push (x := clrX x) hM hc (τ 0 21).toNat (fbn (up2 (up2 s 0 34 0) 0 38 0) 6) (by omega) hxc (by rw [hz]; exact hst3) (by rw [hz]; simp)
  have hsz := cols_sz hW hM hc
  have hge := szL_ge hW (L := colsL τ c) (fun q hq => (cols_ok (H := E.1) hM hc q hq).1)
  have o := seq_c hW (match_c hW hF hH hE 60) (colsL τ c) (clrX x) y [] [] (fun q hq => by
    have := hW.ge (cols_ok (H := E.1) hM hc q hq).1
    exact ⟨cols_ok hM hc q hq, by omega, by simp; omega⟩) hJ (by rw [List.append_nil]; exact y3) y2 (by simp; omega)
  obtain ⟨o0, o1, o2, o3⟩ := o
  have hhead : F_X11_tryCase c s = (iter MF 3000 y).bind fun y31 => Sum.elim (fun z33 => some (0, z33)) (fun r34 => some r34) y31 := by
    unfold F_X11_tryCase
    rw [bnd_eq, bnd_eq, clr_c, Option.bind_some, bnd_eq, e21, wrap_id (by omega) (by omega)]
    rw [show (((τ 0 21).toNat : Nat) : Int) = τ 0 21 by omega] at y1
    have : iter (fun a : (Int × Sg) => L_X11_tryCase_38 c a.1 a.2) 3000 (τ 0 21 - 1, fbn (up2 (up2 s 0 34 0) 0 38 0) 6) = some y := by
      exact iter_mono y1 (by omega)
    rw [this, Option.bind_some]
  rw [hhead]
  unfold tryS
  generalize hr : seqM (mt τ E 60) (colsL τ c) (clrX x) = r at *
  obtain ⟨r1, r2⟩ := r
  rcases r1 with b | a
  · cases b with
    | true =>
      obtain ⟨j, s', a1, a2, a3, a4⟩ := o1 rfl
      rw [a2.fin (z := .inl s') (by
        show L_X11_tryCase_65 s' = _
        have := a3.2.1
        unfold L_X11_tryCase_65
        rw [if_pos (by rw [this]; simp)]) (by omega), Option.bind_some]
      exact ⟨s', rfl, a4, o0, fun a q => by cases q⟩
    | false =>
      obtain ⟨j, s1, s', a1, a2, a3, a4, a5, a6, a7⟩ := o2 rfl
      rw [a2.fin (z := .inr (1, s')) (by
        rw [a3]
        unfold B_X11_tryCase_124 F_X11_turns
        rw [if_neg (by omega), if_pos rfl, if_pos (by rw [a6]; rfl), Option.bind_some, if_neg (by simp)]) (by omega), Option.bind_some]
      exact ⟨s', rfl, a7, o0, fun a q => by cases q⟩
  · obtain ⟨j, s1, s', a1, a2, a3, a4, a5⟩ := o3 a rfl
    rw [a2.fin a3 (by omega), Option.bind_some]
    exact ⟨s', rfl, a4, o0, fun b q => by cases q; exact a5⟩
