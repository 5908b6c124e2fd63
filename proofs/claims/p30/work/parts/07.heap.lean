/-! cells: fields, rows, making -/
theorem flk_word {on idx ci sl : Nat} {q : vw_C} (h : (on, idx, ci, sl) ∈ flk) (hq : vwCl[ci]? = some q) : Cond.fieldLink (ownN on) idx (q.2.1 sl).1 (q.2.1 sl).2.1 (q.2.1 sl).2.2.1 ∈ TB ∧ sl < q.2.2 := by
  have h1 := flk_ok _ h
  simp only [flw, hq] at h1
  refine ⟨h1, ?_⟩
  have h2 := List.all_eq_true.mp flk_lt _ h
  have h3 := (cls_ok ci q hq).2.2.2.2.1
  simp only [h3, decide_eq_true_eq] at h2
  exact h2
theorem vwCl_some {ci : Nat} (h : ci < 12) : ∃ q, vwCl[ci]? = some q := by
  have h1 : ci < vwCl.length := h
  exact ⟨vwCl[ci], List.getElem?_eq_getElem h1⟩
theorem getD_of {ads : List Nat} {k a : Nat} (h : ads[k]? = some a) : ads.getD k 0 = a := by
  rw [List.getD_eq_getElem?_getD, h]; rfl
theorem mkW_set {ads : List Nat} {cI cZ : ClassId} {lay lay' : List Lay} {σ σ' : Sg} {k : Nat} {q' : Lay} (hk : k < lay.length) (hl : lay' = lay.set k q') (h : ∀ j, j ≠ k → σ' j = σ j) :
    (mkW ads cI cZ lay σ).set k (ads.getD k 0, cellE ads cI cZ q' (σ' k)) = mkW ads cI cZ lay' σ' := by
  subst hl
  apply List.ext_getElem?
  intro j
  by_cases hj : j = k
  · subst hj
    rw [List.getElem?_set_self (by rw [mkW_len]; exact hk), mkW_get, List.getElem?_set_self hk]
    rfl
  · rw [List.getElem?_set_ne (Ne.symm hj), mkW_get, mkW_get, List.getElem?_set_ne (Ne.symm hj), h j hj]
theorem mkW_set' {ads : List Nat} {cI cZ : ClassId} {lay : List Lay} {σ σ' : Sg} {k : Nat} {q : Lay} (hq : lay[k]? = some q) (h : ∀ j, j ≠ k → σ' j = σ j) :
    (mkW ads cI cZ lay σ).set k (ads.getD k 0, cellE ads cI cZ q (σ' k)) = mkW ads cI cZ lay σ' := by
  refine mkW_set (List.getElem?_eq_some_iff.mp hq).1 ?_ h
  apply List.ext_getElem?
  intro j
  by_cases hj : j = k
  · subst hj; rw [List.getElem?_set_self (List.getElem?_eq_some_iff.mp hq).1, hq]
  · rw [List.getElem?_set_ne (Ne.symm hj)]
theorem mapIdx_set {α β : Type} {l : List α} {g g' : Nat → α → β} {k : Nat} {v : β} (hv : ∀ a, l[k]? = some a → g' k a = v) (h : ∀ j a, j ≠ k → g' j a = g j a) : (l.mapIdx g).set k v = l.mapIdx g' := by
  apply List.ext_getElem?
  intro j
  by_cases hj : j = k
  · subst hj
    by_cases hl : j < l.length
    · rw [List.getElem?_set_self (by rw [List.length_mapIdx]; exact hl), List.getElem?_mapIdx, List.getElem?_eq_getElem hl]
      simp [hv _ (List.getElem?_eq_getElem hl)]
    · rw [List.getElem?_eq_none (by rw [List.length_set, List.length_mapIdx]; omega), List.getElem?_eq_none (by rw [List.length_mapIdx]; omega)]
  · rw [List.getElem?_set_ne (Ne.symm hj), List.getElem?_mapIdx, List.getElem?_mapIdx]
    cases hl : l[j]? with
    | none => rfl
    | some a => simp [h j a hj]
theorem up2_in {σ : Sg} {k i : Nat} {x : Int} (h : ∀ k i : Nat, inR (σ k i)) (hx : inR x) : ∀ a b : Nat, inR (up2 σ k i x a b) := by
  intro a b; unfold up2; split
  · exact hx
  · exact h a b
theorem up2_ne {σ : Sg} {k i : Nat} {x : Int} : ∀ j, j ≠ k → up2 σ k i x j = σ j := by
  intro j hj; funext b; unfold up2; rw [if_neg (fun h => hj h.1)]
theorem nSl_set {lay : List Lay} {k : Nat} {q q' : Lay} (hq : lay[k]? = some q) (h1 : q'.1 = q.1) (h2 : q.1 < 12) (h3 : q'.2.length = q.2.length) : nSl (lay.set k q') = nSl lay := by
  unfold nSl
  congr 1
  apply List.ext_getElem?
  intro j
  rw [List.getElem?_map, List.getElem?_map]
  by_cases hj : j = k
  · subst hj
    rw [List.getElem?_set_self (List.getElem?_eq_some_iff.mp hq).1, hq]
    simp [h1, h2, h3]
  · rw [List.getElem?_set_ne (Ne.symm hj)]
theorem clamp_nat {i : Int} (hi : inR i) : (Int32.ofInt i).toNatClampNeg = i.toNat := by
  show (Int32.ofInt i).toInt.toNat = _
  rw [i32_ofInt_toInt hi]
theorem vp_in_int {i : Int} {n : Nat} (hi : inR i) (h0 : 0 ≤ i) (h : i < n) : vp_in (Int32.ofInt i) n := by
  intro hh
  rw [clamp_nat hi] at hh
  rcases hh with hh | hh
  · rw [← i32_zero, i32_lt hi in0] at hh
    omega
  · omega
section RN
variable {p : Program} {l : Launch} {e : Env} {R : Room} {s : State} {m : MethodId} {args : Array Value} {below : List Frame} {meth : Method} {c : Code} {A : Nat → Prop} {D : va_G} {cI cZ : ClassId} {Q : State → Prop}
variable {on : Nat} {cc : ByteArray} {nL : Nat} {init : Bool} {ads0 : List Nat} {n0 n1 pc : Nat} {L : List (Option AV)} {st : List AV} {S : LSt}
theorem rn_getI {idx ci sl k : Nat} {q : List Nat} (hC : Cx on cc nL init p s m args meth c A D cI cZ) (hd : decode cc pc = .ok (.getfield idx, 3)) (hf : (on, idx, ci, sl) ∈ flk) (hci : ci < 12) (hk : S.1[k]? = some (ci, q)) (hs : q[sl]? = some 0)
    (kk : Rn p l e R s m args below meth c A D cI cZ Q nL ads0 n0 n1 (pc + 3) L (.inl (S.2 k sl) :: st) S) : Rn p l e R s m args below meth c A D cI cZ Q nL ads0 n0 n1 pc L (.inr k :: st) S := by
  intro ads H locs ls cst hW hL hv
  obtain ⟨hx, hb, -, hown, hts, -, -, ⟨hK, hN⟩, -⟩ := hC
  match cst, hv with
  | cv :: cst, hv =>
    obtain ⟨a, ha, rfl⟩ := id hv.1
    obtain ⟨cq, hcq⟩ := vwCl_some hci
    obtain ⟨w1, w2⟩ := flk_word hf hcq
    have he := mkW_get ads cI cZ S.1 S.2 k
    rw [hk, getD_of ha] at he
    refine va_get hx hb hts (cls_ok ci cq hcq).2.1 hown hK hW.1 k (ci := ci) (fs := q.mapIdx (fun i s => if s = 0 then Value.int (Int32.ofInt (S.2 k i)) else if s = 1 then Value.null else Value.ref (ads.getD (s - 2) 0))) (he.trans (by simp [cellE, hci])) hcq sl w2 (hts _ w1) (fun _ h => h) (v := .int (Int32.ofInt (S.2 k sl))) (by rw [List.getElem?_mapIdx, hs]; rfl) hd ?_
    exact kk ads H locs ls _ hW hL ⟨⟨hW.2.2.2.2.1 k sl, rfl⟩, hv.2⟩
theorem rn_getR {idx ci sl k r : Nat} {q : List Nat} (hC : Cx on cc nL init p s m args meth c A D cI cZ) (hd : decode cc pc = .ok (.getfield idx, 3)) (hf : (on, idx, ci, sl) ∈ flk) (hci : ci < 12) (hk : S.1[k]? = some (ci, q)) (hs : q[sl]? = some (r + 2)) (hr : r < S.1.length)
    (kk : Rn p l e R s m args below meth c A D cI cZ Q nL ads0 n0 n1 (pc + 3) L (.inr r :: st) S) : Rn p l e R s m args below meth c A D cI cZ Q nL ads0 n0 n1 pc L (.inr k :: st) S := by
  intro ads H locs ls cst hW hL hv
  obtain ⟨hx, hb, -, hown, hts, -, -, ⟨hK, hN⟩, -⟩ := hC
  match cst, hv with
  | cv :: cst, hv =>
    obtain ⟨a, ha, rfl⟩ := id hv.1
    obtain ⟨cq, hcq⟩ := vwCl_some hci
    obtain ⟨w1, w2⟩ := flk_word hf hcq
    have he := mkW_get ads cI cZ S.1 S.2 k
    rw [hk, getD_of ha] at he
    have hrl : r < ads.length := by rw [hW.2.2.2.1]; exact hr
    refine va_get hx hb hts (cls_ok ci cq hcq).2.1 hown hK hW.1 k (ci := ci) (fs := q.mapIdx (fun i s => if s = 0 then Value.int (Int32.ofInt (S.2 k i)) else if s = 1 then Value.null else Value.ref (ads.getD (s - 2) 0))) (he.trans (by simp [cellE, hci])) hcq sl w2 (hts _ w1) (fun _ h => h) (v := .ref (ads.getD r 0)) (by rw [List.getElem?_mapIdx, hs]; rfl) hd ?_
    exact kk ads H locs ls _ hW hL ⟨⟨ads.getD r 0, by rw [List.getD_eq_getElem?_getD, List.getElem?_eq_getElem hrl]; rfl, rfl⟩, hv.2⟩
theorem ftc_int {ci sl : Nat} (h : ftc ci sl = 0) : tyC ci sl = .int := by
  unfold ftc at h; split at h <;> first | assumption | cases h
theorem ftc_bool {ci sl : Nat} (h : ftc ci sl = 1) : tyC ci sl = .boolean := by
  unfold ftc at h; split at h <;> first | assumption | cases h
theorem ftc_ref {ci sl : Nat} (h : ftc ci sl = 2) : (∃ n, tyC ci sl = .object n) ∨ ∃ t, tyC ci sl = .array t := by
  unfold ftc at h
  split at h <;> first | cases h; done | exact Or.inl ⟨_, by assumption⟩ | exact Or.inr ⟨_, by assumption⟩
theorem narrow_bool01 {x : Int} (h : x = 0 ∨ x = 1) : narrow .boolean (.int (Int32.ofInt x)) = .int (Int32.ofInt x) ∧ fits .boolean (.int (Int32.ofInt x)) = true ∧ vp_nar .boolean (Int32.ofInt x) = Int32.ofInt x := by
  rcases h with rfl | rfl <;> decide
theorem rn_putI {idx ci sl k : Nat} {q : List Nat} {x : Int} (hC : Cx on cc nL init p s m args meth c A D cI cZ) (hd : decode cc pc = .ok (.putfield idx, 3)) (hf : (on, idx, ci, sl) ∈ flk) (hci : ci < 12) (hk : S.1[k]? = some (ci, q)) (hs : q[sl]? = some 0)
    (ht : ftc ci sl = 0 ∨ (ftc ci sl = 1 ∧ (x = 0 ∨ x = 1))) (hfin : fFin ci sl = false ∨ (init = true ∧ on = ci))
    (kk : Rn p l e R s m args below meth c A D cI cZ Q nL ads0 n0 n1 (pc + 3) L st (S.1, up2 S.2 k sl x)) : Rn p l e R s m args below meth c A D cI cZ Q nL ads0 n0 n1 pc L (.inl x :: .inr k :: st) S := by
  intro ads H locs ls cst hW hL hv
  obtain ⟨hx, hb, -, hown, hts, -, hini, ⟨hK, hN⟩, -⟩ := hC
  match cst, hv with
  | cx :: cv :: cst, hv =>
    obtain ⟨hxr, rfl⟩ := vr_int hv.1
    obtain ⟨a, ha, rfl⟩ := id hv.2.1
    obtain ⟨cq, hcq⟩ := vwCl_some hci
    obtain ⟨w1, w2⟩ := flk_word hf hcq
    obtain ⟨o1, o2, o3, o4, o5, o6⟩ := cls_ok ci cq hcq
    have hkl := (List.getElem?_eq_some_iff.mp hk).1
    have he := mkW_get ads cI cZ S.1 S.2 k
    rw [hk, getD_of ha] at he
    have he : (mkW ads cI cZ S.1 S.2)[k]? = some (a, .inr (ci, q.mapIdx (fun i s => if s = 0 then Value.int (Int32.ofInt (S.2 k i)) else if s = 1 then Value.null else Value.ref (ads.getD (s - 2) 0)))) := he.trans (by simp [cellE, hci])
    have hnf : narrow (tyC ci sl) (.int (Int32.ofInt x)) = .int (Int32.ofInt x) ∧ fits (tyC ci sl) (.int (Int32.ofInt x)) = true := by
      rcases ht with h | ⟨h, h2⟩
      · rw [ftc_int h]; exact ⟨rfl, rfl⟩
      · rw [ftc_bool h]; exact ⟨(narrow_bool01 h2).1, (narrow_bool01 h2).2.1⟩
    have hset : (mkW ads cI cZ S.1 S.2).set k (a, .inr (ci, (q.mapIdx (fun i s => if s = 0 then Value.int (Int32.ofInt (S.2 k i)) else if s = 1 then Value.null else Value.ref (ads.getD (s - 2) 0))).set sl (.int (Int32.ofInt x)))) = mkW ads cI cZ S.1 (up2 S.2 k sl x) := by
      rw [← mkW_set' (q := (ci, q)) hk (up2_ne (σ := S.2) (k := k) (i := sl) (x := x)), getD_of ha]
      congr 2
      simp only [cellE, hci, if_true]
      congr 2
      refine mapIdx_set (fun a0 h0 => ?_) (fun j a0 hj => ?_)
      · rw [hs] at h0; cases h0; simp [up2]
      · simp [up2, hj]
    have fin : ∀ (H1 : Heap) (locs1 : List Loc), va_P D vwCl ((mkW ads cI cZ S.1 S.2).set k (a, .inr (ci, (q.mapIdx (fun i s => if s = 0 then Value.int (Int32.ofInt (S.2 k i)) else if s = 1 then Value.null else Value.ref (ads.getD (s - 2) 0))).set sl (.int (Int32.ofInt x))))) H1 → va_D A ((mkW ads cI cZ S.1 S.2).set k (a, .inr (ci, (q.mapIdx (fun i s => if s = 0 then Value.int (Int32.ofInt (S.2 k i)) else if s = 1 then Value.null else Value.ref (ads.getD (s - 2) 0))).set sl (.int (Int32.ofInt x))))) → va_S A s.heap H1 locs1 →
        W p l e R s m args below meth c H1 locs1 (S.1.length - n0) (nSl S.1 - n1) Q (F0 m (pc + 3) ls cst) := by
      intro H1 locs1 h1 h2 h3
      rw [hset] at h1 h2
      exact kk ads H1 locs1 ls cst ⟨h1, h2, h3, hW.2.2.2.1, up2_in hW.2.2.2.2.1 hxr, hW.2.2.2.2.2⟩ hL hv.2.2
    by_cases hfi : (cq.2.1 sl).2.2.2 = false
    · exact va_put hx hb hts o2 (tyC ci) o3 o4 hown hK hW.1 hW.2.1 hW.2.2.1 k he hcq sl w2 (hts _ w1) (fun _ h => h) hfi (o3 sl w2) hnf.1 hnf.2 (by rw [List.length_mapIdx]; exact (List.getElem?_eq_some_iff.mp hs).1) hd fin
    · have hfi2 : (cq.2.1 sl).2.2.2 = true := by cases h9 : (cq.2.1 sl).2.2.2 <;> simp_all
      have hfin2 : init = true ∧ on = ci := by
        rcases hfin with h | h
        · unfold fFin at h; rw [hcq] at h; exact absurd h hfi
        · exact h
      exact va_putF hx hb hts o2 (tyC ci) o3 o4 hown hK hW.1 hW.2.1 hW.2.2.1 k he hcq sl w2 (hts _ w1) (fun _ h => h) hfi2 (hini hfin2.1) (by rw [hfin2.2]; exact o6 sl w2) (o3 sl w2) hnf.1 hnf.2 (by rw [List.length_mapIdx]; exact (List.getElem?_eq_some_iff.mp hs).1) hd fin
  | [cy], hv => exact hv.2.elim
theorem rn_putR {idx ci sl k r : Nat} {q : List Nat} (hC : Cx on cc nL init p s m args meth c A D cI cZ) (hd : decode cc pc = .ok (.putfield idx, 3)) (hf : (on, idx, ci, sl) ∈ flk) (hci : ci < 12) (hk : S.1[k]? = some (ci, q)) (hs : sl < q.length)
    (ht : ftc ci sl = 2) (hfin : fFin ci sl = false ∨ (init = true ∧ on = ci))
    (kk : Rn p l e R s m args below meth c A D cI cZ Q nL ads0 n0 n1 (pc + 3) L st (S.1.set k (ci, q.set sl (r + 2)), S.2)) : Rn p l e R s m args below meth c A D cI cZ Q nL ads0 n0 n1 pc L (.inr r :: .inr k :: st) S := by
  intro ads H locs ls cst hW hL hv
  obtain ⟨hx, hb, -, hown, hts, -, hini, ⟨hK, hN⟩, -⟩ := hC
  match cst, hv with
  | cx :: cv :: cst, hv =>
    obtain ⟨ar, har, rfl⟩ := id hv.1
    obtain ⟨a, ha, rfl⟩ := id hv.2.1
    obtain ⟨cq, hcq⟩ := vwCl_some hci
    obtain ⟨w1, w2⟩ := flk_word hf hcq
    obtain ⟨o1, o2, o3, o4, o5, o6⟩ := cls_ok ci cq hcq
    have hkl := (List.getElem?_eq_some_iff.mp hk).1
    have he := mkW_get ads cI cZ S.1 S.2 k
    rw [hk, getD_of ha] at he
    have he : (mkW ads cI cZ S.1 S.2)[k]? = some (a, .inr (ci, q.mapIdx (fun i s => if s = 0 then Value.int (Int32.ofInt (S.2 k i)) else if s = 1 then Value.null else Value.ref (ads.getD (s - 2) 0)))) := he.trans (by simp [cellE, hci])
    have hnf : narrow (tyC ci sl) (.ref ar) = .ref ar ∧ fits (tyC ci sl) (.ref ar) = true := by
      rcases ftc_ref ht with ⟨n, h⟩ | ⟨t, h⟩ <;> rw [h] <;> exact ⟨rfl, rfl⟩
    have hset : (mkW ads cI cZ S.1 S.2).set k (a, .inr (ci, (q.mapIdx (fun i s => if s = 0 then Value.int (Int32.ofInt (S.2 k i)) else if s = 1 then Value.null else Value.ref (ads.getD (s - 2) 0))).set sl (.ref ar))) = mkW ads cI cZ (S.1.set k (ci, q.set sl (r + 2))) S.2 := by
      rw [← mkW_set (q' := (ci, q.set sl (r + 2))) (lay := S.1) (σ := S.2) hkl rfl (fun _ _ => rfl), getD_of ha]
      congr 2
      simp only [cellE, hci, if_true]
      congr 2
      apply List.ext_getElem?
      intro j
      by_cases hj : j = sl
      · subst hj
        rw [List.getElem?_set_self (by rw [List.length_mapIdx]; exact hs), List.getElem?_mapIdx, List.getElem?_set_self hs]
        simp [har]
      · rw [List.getElem?_set_ne (Ne.symm hj), List.getElem?_mapIdx, List.getElem?_mapIdx, List.getElem?_set_ne (Ne.symm hj)]
    have fin : ∀ (H1 : Heap) (locs1 : List Loc), va_P D vwCl ((mkW ads cI cZ S.1 S.2).set k (a, .inr (ci, (q.mapIdx (fun i s => if s = 0 then Value.int (Int32.ofInt (S.2 k i)) else if s = 1 then Value.null else Value.ref (ads.getD (s - 2) 0))).set sl (.ref ar)))) H1 → va_D A ((mkW ads cI cZ S.1 S.2).set k (a, .inr (ci, (q.mapIdx (fun i s => if s = 0 then Value.int (Int32.ofInt (S.2 k i)) else if s = 1 then Value.null else Value.ref (ads.getD (s - 2) 0))).set sl (.ref ar)))) → va_S A s.heap H1 locs1 →
        W p l e R s m args below meth c H1 locs1 (S.1.length - n0) (nSl S.1 - n1) Q (F0 m (pc + 3) ls cst) := by
      intro H1 locs1 h1 h2 h3
      rw [hset] at h1 h2
      have hw : W p l e R s m args below meth c H1 locs1 ((S.1.set k (ci, q.set sl (r + 2))).length - n0) (nSl (S.1.set k (ci, q.set sl (r + 2))) - n1) Q (F0 m (pc + 3) ls cst) := kk ads H1 locs1 ls cst ⟨h1, h2, h3, by rw [List.length_set]; exact hW.2.2.2.1, hW.2.2.2.2.1, hW.2.2.2.2.2⟩ hL hv.2.2
      have e2 := nSl_set (q' := (ci, q.set sl (r + 2))) hk rfl hci List.length_set
      rw [List.length_set, e2] at hw
      exact hw
    by_cases hfi : (cq.2.1 sl).2.2.2 = false
    · exact va_put hx hb hts o2 (tyC ci) o3 o4 hown hK hW.1 hW.2.1 hW.2.2.1 k he hcq sl w2 (hts _ w1) (fun _ h => h) hfi (o3 sl w2) hnf.1 hnf.2 (by rw [List.length_mapIdx]; exact hs) hd fin
    · have hfi2 : (cq.2.1 sl).2.2.2 = true := by cases h9 : (cq.2.1 sl).2.2.2 <;> simp_all
      have hfin2 : init = true ∧ on = ci := by
        rcases hfin with h | h
        · unfold fFin at h; rw [hcq] at h; exact absurd h hfi
        · exact h
      exact va_putF hx hb hts o2 (tyC ci) o3 o4 hown hK hW.1 hW.2.1 hW.2.2.1 k he hcq sl w2 (hts _ w1) (fun _ h => h) hfi2 (hini hfin2.1) (by rw [hfin2.2]; exact o6 sl w2) (o3 sl w2) hnf.1 hnf.2 (by rw [List.length_mapIdx]; exact hs) hd fin
  | [cy], hv => exact hv.2.elim
/-- rows -/
theorem mkW_row {ads : List Nat} {k a n : Nat} {t : Nat} (hk : S.1[k]? = some (t, [n])) (ht : 12 ≤ t) (ha : ads[k]? = some a) : (mkW ads cI cZ S.1 S.2)[k]? = some (a, .inl (if t = 12 then cI else cZ, n, .inl (fun i => Int32.ofInt (S.2 k i)))) := by
  rw [mkW_get, hk, getD_of ha]
  simp only [Option.map_some, cellE, if_neg (Nat.not_lt.mpr ht)]
  rfl
theorem rn_iald {k n : Nat} {i : Int} (hC : Cx on cc nL init p s m args meth c A D cI cZ) (hd : decode cc pc = .ok (.iaload, 1)) (hk : S.1[k]? = some (12, [n])) (h0 : 0 ≤ i) (h1 : i < n)
    (kk : Rn p l e R s m args below meth c A D cI cZ Q nL ads0 n0 n1 (pc + 1) L (.inl (S.2 k i.toNat) :: st) S) : Rn p l e R s m args below meth c A D cI cZ Q nL ads0 n0 n1 pc L (.inl i :: .inr k :: st) S := by
  intro ads H locs ls cst hW hL hv
  obtain ⟨hx, hb, -, hown, hts, -, -, ⟨hK, hN⟩, -⟩ := hC
  match cst, hv with
  | cx :: cv :: cst, hv =>
    obtain ⟨hxr, rfl⟩ := vr_int hv.1
    obtain ⟨a, ha, rfl⟩ := id hv.2.1
    have he := mkW_row (cI := cI) (cZ := cZ) hk (by omega) ha
    refine va_iald hx hb hK hW.1 k 0 he rfl (vp_in_int hxr h0 h1) hd ?_
    rw [clamp_nat hxr]
    exact kk ads H locs ls _ hW hL ⟨⟨hW.2.2.2.2.1 k _, rfl⟩, hv.2.2⟩
  | [cy], hv => exact hv.2.elim
theorem row_set {ads : List Nat} {k a n t : Nat} {i x : Int} (hk : S.1[k]? = some (t, [n])) (ht : 12 ≤ t) (ha : ads[k]? = some a) :
    (mkW ads cI cZ S.1 S.2).set k (a, .inl (if t = 12 then cI else cZ, n, .inl (upd (fun i => Int32.ofInt (S.2 k i)) i.toNat (Int32.ofInt x)))) = mkW ads cI cZ S.1 (up2 S.2 k i.toNat x) := by
  rw [← mkW_set' (q := (t, [n])) hk (up2_ne (σ := S.2) (k := k) (i := i.toNat) (x := x)), getD_of ha]
  congr 2
  simp only [cellE, if_neg (Nat.not_lt.mpr ht)]
  congr 4
  funext j
  simp only [upd, up2]
  by_cases hj : j = i.toNat <;> simp [hj]
theorem rn_iast {k n : Nat} {i x : Int} (hC : Cx on cc nL init p s m args meth c A D cI cZ) (hd : decode cc pc = .ok (.iastore, 1)) (hk : S.1[k]? = some (12, [n])) (h0 : 0 ≤ i) (h1 : i < n)
    (kk : Rn p l e R s m args below meth c A D cI cZ Q nL ads0 n0 n1 (pc + 1) L st (S.1, up2 S.2 k i.toNat x)) : Rn p l e R s m args below meth c A D cI cZ Q nL ads0 n0 n1 pc L (.inl x :: .inl i :: .inr k :: st) S := by
  intro ads H locs ls cst hW hL hv
  obtain ⟨hx, hb, -, hown, hts, -, -, ⟨hK, hN⟩, -⟩ := hC
  match cst, hv with
  | cw :: cx :: cv :: cst, hv =>
    obtain ⟨hwr, rfl⟩ := vr_int hv.1
    obtain ⟨hxr, rfl⟩ := vr_int hv.2.1
    obtain ⟨a, ha, rfl⟩ := id hv.2.2.1
    have he := mkW_row (cI := cI) (cZ := cZ) hk (by omega) ha
    refine va_iast hx hb hK hW.1 hW.2.1 hW.2.2.1 k 0 he rfl (vp_in_int hxr h0 h1) hd (fun H1 locs1 g1 g2 g3 => ?_)
    rw [clamp_nat hxr, row_set (t := 12) hk (by omega) ha] at g1 g2
    exact kk ads H1 locs1 ls cst ⟨g1, g2, g3, hW.2.2.2.1, up2_in hW.2.2.2.2.1 hwr, hW.2.2.2.2.2⟩ hL hv.2.2.2
  | [cy], hv => exact hv.2.elim
  | [cy, cz], hv => exact hv.2.2.elim
theorem rn_alen {k n t : Nat} (hC : Cx on cc nL init p s m args meth c A D cI cZ) (hd : decode cc pc = .ok (.arraylength, 1)) (hk : S.1[k]? = some (t, [n])) (ht : t = 12 ∨ t = 12) (hn : n < 2147483648)
    (kk : Rn p l e R s m args below meth c A D cI cZ Q nL ads0 n0 n1 (pc + 1) L (.inl (n : Int) :: st) S) : Rn p l e R s m args below meth c A D cI cZ Q nL ads0 n0 n1 pc L (.inr k :: st) S := by
  intro ads H locs ls cst hW hL hv
  obtain ⟨hx, hb, -, hown, hts, -, -, ⟨hK, hN⟩, -⟩ := hC
  match cst, hv with
  | cv :: cst, hv =>
    obtain ⟨a, ha, rfl⟩ := id hv.1
    have he := mkW_row (cI := cI) (cZ := cZ) hk (by omega) ha
    have h9 : Int32.ofNat n = Int32.ofInt (n : Int) := by rw [Int32.ofInt_eq_ofNat]
    have hr : inR (n : Int) := by unfold inR; omega
    rcases ht with rfl | rfl
    · exact va_alen hx hb hK hW.1 k 0 he rfl h9 hd (kk ads H locs ls _ hW hL ⟨⟨hr, rfl⟩, hv.2⟩)
    · exact va_alen hx hb hK hW.1 k 0 he rfl h9 hd (kk ads H locs ls _ hW hL ⟨⟨hr, rfl⟩, hv.2⟩)
end RN
