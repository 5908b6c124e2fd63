/-! making cells, and branches -/
def layOK (lay : List Lay) : Bool := lay.all (fun q => decide (12 ≤ q.1) || q.2.all (fun s => decide (s < lay.length + 2)))
def sl0 (ci : Nat) : List Nat := (List.range (fN.getD ci 0)).map (fun k => if ftc ci k = 2 then 1 else 0)
theorem cellE_mono {ads : List Nat} {a : Nat} {cI cZ : ClassId} {q : Lay} {f : Nat → Int} (h : q.1 < 12 → ∀ s ∈ q.2, s < ads.length + 2) : cellE (ads ++ [a]) cI cZ q f = cellE ads cI cZ q f := by
  unfold cellE
  split
  · rename_i hc
    congr 2
    apply List.ext_getElem?
    intro j
    rw [List.getElem?_mapIdx, List.getElem?_mapIdx]
    cases hj : q.2[j]? with
    | none => rfl
    | some s =>
      have hs := h hc s (List.mem_of_getElem? hj)
      simp only [Option.map_some]
      by_cases h0 : s = 0
      · simp [h0]
      · by_cases h1 : s = 1
        · simp [h1]
        · simp only [h0, h1, if_false]
          rw [List.getD_eq_getElem?_getD, List.getD_eq_getElem?_getD, List.getElem?_append_left (by omega)]
  · rfl
theorem mkW_push {ads : List Nat} {a : Nat} {cI cZ : ClassId} {lay : List Lay} {σ : Sg} {q : Lay} (hl : ads.length = lay.length) (hok : layOK lay = true) :
    mkW (ads ++ [a]) cI cZ (lay ++ [q]) (fresh σ lay.length) = mkW ads cI cZ lay σ ++ [(a, cellE (ads ++ [a]) cI cZ q (fun _ => 0))] := by
  apply List.ext_getElem?
  intro j
  rw [mkW_get]
  by_cases hj : j < lay.length
  · rw [List.getElem?_append_left hj, List.getElem?_append_left (by rw [mkW_len]; exact hj), mkW_get]
    cases hq : lay[j]? with
    | none => rfl
    | some r =>
      simp only [Option.map_some, Option.some.injEq, Prod.mk.injEq]
      refine ⟨by rw [List.getD_eq_getElem?_getD, List.getD_eq_getElem?_getD, List.getElem?_append_left (by omega)], ?_⟩
      rw [show fresh σ lay.length j = σ j from by funext b; unfold fresh; rw [if_neg (by omega)]]
      refine cellE_mono (fun hc s hs => ?_)
      have h1 := List.all_eq_true.mp hok r (List.mem_of_getElem? hq)
      simp only [Bool.or_eq_true, decide_eq_true_eq, List.all_eq_true] at h1
      rcases h1 with h1 | h1
      · omega
      · have := h1 s hs; omega
  · by_cases hj2 : j = lay.length
    · subst hj2
      have e1 : (lay ++ [q])[lay.length]? = some q := List.getElem?_concat_length
      rw [e1]
      have e2 := List.getElem?_append_right (l₁ := mkW ads cI cZ lay σ) (l₂ := [(a, cellE (ads ++ [a]) cI cZ q (fun _ => 0))]) (i := lay.length) (by rw [mkW_len]; omega)
      rw [e2, mkW_len, Nat.sub_self]
      simp only [Option.map_some, List.getElem?_cons_zero, Option.some.injEq, Prod.mk.injEq]
      refine ⟨by rw [List.getD_eq_getElem?_getD, ← hl, List.getElem?_concat_length]; rfl, ?_⟩
      congr 1
      funext b; unfold fresh; rw [if_pos rfl]
    · rw [List.getElem?_eq_none (by rw [List.length_append]; simp; omega), List.getElem?_eq_none (by rw [List.length_append, mkW_len]; simp; omega)]
      rfl
theorem fresh_in {σ : Sg} {k : Nat} (h : ∀ k i : Nat, inR (σ k i)) : ∀ a b : Nat, inR (fresh σ k a b) := by
  intro a b; unfold fresh; split
  · exact in0
  · exact h a b
theorem nSl_push (lay : List Lay) (q : Lay) : nSl (lay ++ [q]) = nSl lay + (if q.1 < 12 then q.2.length else q.2.headD 0) := by
  unfold nSl; rw [List.map_append, List.sum_append]; simp
theorem cls_def : ∀ ci, ci < 12 → ∀ j, j < fN.getD ci 0 → (¬ ftc ci j = 2 ∧ defaultValue (tyC ci j) = .int 0) ∨ (ftc ci j = 2 ∧ defaultValue (tyC ci j) = .null) := by decide +kernel
section RN
variable {p : Program} {l : Launch} {e : Env} {R : Room} {s : State} {m : MethodId} {args : Array Value} {below : List Frame} {meth : Method} {c : Code} {A : Nat → Prop} {D : va_G} {cI cZ : ClassId} {Q : State → Prop}
variable {on : Nat} {cc : ByteArray} {nL : Nat} {init : Bool} {ads0 : List Nat} {n0 n1 pc : Nat} {L : List (Option AV)} {st : List AV} {S : LSt}
theorem vrs_mono1 {ads : List Nat} {a : Nat} {vs : List AV} {cs : List Value} (h : vrs ads vs cs) : vrs (ads ++ [a]) vs cs := vrs_mono h

theorem rn_newaI {n : Int} (hC : Cx on cc nL init p s m args meth c A D cI cZ) (hd : decode cc pc = .ok (.newarray .int, 2)) (h0 : 0 ≤ n) (h1 : n < 100000) (hok : layOK S.1 = true) (hn0 : n0 ≤ S.1.length) (hn1 : n1 ≤ nSl S.1) (hcl : S.1.length + 1 ≤ n0 + R.cells) (hsl : nSl S.1 + n.toNat ≤ n1 + R.slots)
    (kk : Rn p l e R s m args below meth c A D cI cZ Q nL ads0 n0 n1 (pc + 2) L (.inr S.1.length :: st) (S.1 ++ [(12, [n.toNat])], fresh S.2 S.1.length)) : Rn p l e R s m args below meth c A D cI cZ Q nL ads0 n0 n1 pc L (.inl n :: st) S := by
  intro ads H locs ls cst hW hL hv
  obtain ⟨hx, hb, -, hown, hts, -, -, ⟨hK, hN⟩, hA⟩ := hC
  match cst, hv with
  | cv :: cst, hv =>
    obtain ⟨hnr, rfl⟩ := vr_int hv.1
    refine va_newa (atype := .int) (ty := .int) (N' := n.toNat) (a0 := (n.toNat, .inl (fun _ => Int32.ofInt 0))) hx hb (hts _ arr_okI) rfl hK hW.1 hW.2.1 hW.2.2.1 hA (fun cA => rfl) (by rw [← i32_zero, i32_lt hnr in0]; omega) (clamp_nat hnr) (by simp only [componentBytes]; omega) (by omega) (by omega) hd (fun q cA H1 hK1 hP1 hD1 hS1 => ?_)
    have e1 := (hK.2 0 _ rfl).2
    have e2 := (hK1.2 1 _ rfl).2
    simp only [va_RA] at e1 e2
    have e3 : cI = cA := Option.some.inj (e1.symm.trans e2)
    subst e3
    have hp := mkW_push (ads := ads) (a := q) (cI := cI) (cZ := cZ) (σ := S.2) (q := (12, [n.toNat])) hW.2.2.2.1 hok
    have hc9 : cellE (ads ++ [q]) cI cZ (12, [n.toNat]) (fun _ => 0) = .inl (cI, n.toNat, .inl (fun _ => Int32.ofInt 0)) := rfl
    rw [hc9] at hp
    rw [← hp] at hP1 hD1
    have hw := kk (ads ++ [q]) H1 locs ls (.ref q :: cst) ⟨hP1, hD1, hS1, by rw [List.length_append, List.length_append, hW.2.2.2.1]; rfl, fresh_in hW.2.2.2.2.1, hW.2.2.2.2.2.trans (List.prefix_append _ _)⟩ (lrs_mono hL) ⟨⟨q, by rw [← hW.2.2.2.1]; exact List.getElem?_concat_length, rfl⟩, vrs_mono hv.2⟩
    refine W.cs (cells' := (S.1 ++ [(12, [n.toNat])]).length - n0) (slots' := nSl (S.1 ++ [(12, [n.toNat])]) - n1) (by rw [List.length_append]; simp; omega) (by rw [nSl_push]; simp; omega) hw

theorem rn_new {idx ci : Nat} (hC : Cx on cc nL init p s m args meth c A D cI cZ) (hd : decode cc pc = .ok (.new idx, 3)) (hf : (on, idx, ci) ∈ nlk) (hci : ci < 12) (hok : layOK S.1 = true) (hn0 : n0 ≤ S.1.length) (hn1 : n1 ≤ nSl S.1) (hcl : S.1.length + 1 ≤ n0 + R.cells) (hsl : nSl S.1 + fN.getD ci 0 ≤ n1 + R.slots)
    (kk : Rn p l e R s m args below meth c A D cI cZ Q nL ads0 n0 n1 (pc + 3) L (.inr S.1.length :: st) (S.1 ++ [(ci, sl0 ci)], fresh S.2 S.1.length)) : Rn p l e R s m args below meth c A D cI cZ Q nL ads0 n0 n1 pc L st S := by
  intro ads H locs ls cst hW hL hv
  obtain ⟨hx, hb, -, hown, hts, -, -, ⟨hK, hN⟩, hA⟩ := hC
  obtain ⟨cq, hcq⟩ := vwCl_some hci
  obtain ⟨o1, o2, o3, o4, o5, o6⟩ := cls_ok ci cq hcq
  have hN : fN.getD ci 0 = cq.2.2 := by rw [List.getD_eq_getElem?_getD, o5]; rfl
  have k1 := nlk_ok1 _ hf
  have k2 := nlk_ok2 _ hf
  have k3 := nlk_ok3 _ hf
  dsimp only at k1 k2 k3
  rw [← o1] at k1 k2 k3
  rw [hN] at k2
  have hlen : (sl0 ci).length = cq.2.2 := by unfold sl0; rw [List.length_map, List.length_range, hN]
  refine va_new (fs := (sl0 ci).mapIdx (fun i s => if s = 0 then Value.int (Int32.ofInt 0) else if s = 1 then Value.null else Value.ref 0)) hx hb hts o2 (tyC ci) o3 hown (hts _ k1) (hts _ k2) (hts _ k3) hK hW.1 hW.2.1 hW.2.2.1 hA hcq (fun j hj => ?_) (by omega) (by omega) hd (fun q H1 hP1 hD1 hS1 => ?_)
  · have h9 := cls_def ci hci j (by rw [hN]; exact hj)
    unfold vp_V
    rw [List.getD_eq_getElem?_getD, List.getElem?_mapIdx]
    unfold sl0
    rw [List.getElem?_map, List.getElem?_range (by rw [hN]; exact hj)]
    simp only [Option.map_some, Option.getD_some]
    rcases h9 with ⟨h, h2⟩ | ⟨h, h2⟩
    · rw [h2]; simp [h]
    · rw [h2]; simp [h]
  · have hp := mkW_push (ads := ads) (a := q) (cI := cI) (cZ := cZ) (σ := S.2) (q := (ci, sl0 ci)) hW.2.2.2.1 hok
    have hc9 : cellE (ads ++ [q]) cI cZ (ci, sl0 ci) (fun _ => 0) = .inr (ci, (sl0 ci).mapIdx (fun i s => if s = 0 then Value.int (Int32.ofInt 0) else if s = 1 then Value.null else Value.ref 0)) := by
      unfold cellE
      simp only [hci, if_true]
      congr 2
      apply List.ext_getElem?
      intro j
      rw [List.getElem?_mapIdx, List.getElem?_mapIdx]
      unfold sl0
      rw [List.getElem?_map]
      cases (List.range (fN.getD ci 0))[j]? with
      | none => rfl
      | some a => simp only [Option.map_some]; split <;> simp
    rw [hc9] at hp
    rw [← hp] at hP1 hD1
    have hw := kk (ads ++ [q]) H1 locs ls (.ref q :: cst) ⟨hP1, hD1, hS1, by rw [List.length_append, List.length_append, hW.2.2.2.1]; rfl, fresh_in hW.2.2.2.2.1, hW.2.2.2.2.2.trans (List.prefix_append _ _)⟩ (lrs_mono hL) ⟨⟨q, by rw [← hW.2.2.2.1]; exact List.getElem?_concat_length, rfl⟩, vrs_mono hv⟩
    refine W.cs (cells' := (S.1 ++ [(ci, sl0 ci)]).length - n0) (slots' := nSl (S.1 ++ [(ci, sl0 ci)]) - n1) (by rw [List.length_append]; simp; omega) (by rw [nSl_push, if_pos hci, hlen]; omega) hw
theorem rn_obj {idx k d : Nat} (hC : Cx on cc nL init p s m args meth c A D cI cZ) (hd : decode cc pc = .ok (.invokespecial idx, 3)) (hf : (on, idx) ∈ olk) (hRf : 1 ≤ R.frames) (hRl : st.length + 12 ≤ R.locals)
    (kk : Rn p l e R s m args below meth c A D cI cZ Q nL ads0 n0 n1 (pc + 3) L st S) : Rn p l e R s m args below meth c A D cI cZ Q nL ads0 n0 n1 pc L (.inr k :: st) S := by
  intro ads H locs ls cst hW hL hv
  obtain ⟨hx, hb, hml, hown, hts, -, -, ⟨hK, hN⟩, hA⟩ := hC
  match cst, hv with
  | cv :: cst, hv =>
    obtain ⟨a, ha, rfl⟩ := id hv.1
    refine W.objInit hx hb hown (hts _ (olk_ok _ hf)) (hts _ obj_ok.1) (hts _ obj_ok.2) rfl (by rw [hml]; exact hL.1) rfl hd hRf (by rw [vrs_cat hv.2]; show 2 * 0 + _ + 12 ≤ _; omega) ?_
    exact W.eq (g2 := F0 m (pc + 3) ls cst) rfl (kk ads H locs ls cst hW hL hv.2)
/-- branches -/
theorem rn_if_eq {x : Int} {off : Int} {tgt : Nat} (hC : Cx on cc nL init p s m args meth c A D cI cZ) (hd : decode cc pc = .ok (.ifCond .eq off, 3)) (ht : (pc : Int) + off = (tgt : Int))
    (kt : x = 0 → Rn p l e R s m args below meth c A D cI cZ Q nL ads0 n0 n1 tgt L st S) (kf : ¬ (x = 0) → Rn p l e R s m args below meth c A D cI cZ Q nL ads0 n0 n1 (pc + 3) L st S) : Rn p l e R s m args below meth c A D cI cZ Q nL ads0 n0 n1 pc L (.inl x :: st) S := by
  intro ads H locs ls cst hW hL hv
  obtain ⟨hx, hb, -⟩ := hC
  match cst, hv with
  | cv :: cst, hv =>
    obtain ⟨hxr, rfl⟩ := vr_int hv.1
    have hyr := in0
    have hi := i32_eq hxr hyr
    rw [i32_zero] at hi
    exact lv_if_eq hx hb hd ht (fun h => kt (hi.mp h) ads H locs ls _ hW hL hv.2) (fun h => kf (fun h2 => h (hi.mpr h2)) ads H locs ls _ hW hL hv.2)
theorem rn_icmp_eq {x y : Int} {off : Int} {tgt : Nat} (hC : Cx on cc nL init p s m args meth c A D cI cZ) (hd : decode cc pc = .ok (.if_icmp .eq off, 3)) (ht : (pc : Int) + off = (tgt : Int))
    (kt : x = y → Rn p l e R s m args below meth c A D cI cZ Q nL ads0 n0 n1 tgt L st S) (kf : ¬ (x = y) → Rn p l e R s m args below meth c A D cI cZ Q nL ads0 n0 n1 (pc + 3) L st S) : Rn p l e R s m args below meth c A D cI cZ Q nL ads0 n0 n1 pc L (.inl y :: .inl x :: st) S := by
  intro ads H locs ls cst hW hL hv
  obtain ⟨hx, hb, -⟩ := hC
  match cst, hv with
  | cw :: cv :: cst, hv =>
    obtain ⟨hyr, rfl⟩ := vr_int hv.1
    obtain ⟨hxr, rfl⟩ := vr_int hv.2.1
    have hi := i32_eq hxr hyr
    exact lv_icmp_eq hx hb hd ht (fun h => kt (hi.mp h) ads H locs ls _ hW hL hv.2.2) (fun h => kf (fun h2 => h (hi.mpr h2)) ads H locs ls _ hW hL hv.2.2)
  | [cy], hv => exact hv.2.elim
theorem rn_if_ne {x : Int} {off : Int} {tgt : Nat} (hC : Cx on cc nL init p s m args meth c A D cI cZ) (hd : decode cc pc = .ok (.ifCond .ne off, 3)) (ht : (pc : Int) + off = (tgt : Int))
    (kt : ¬ x = 0 → Rn p l e R s m args below meth c A D cI cZ Q nL ads0 n0 n1 tgt L st S) (kf : x = 0 → Rn p l e R s m args below meth c A D cI cZ Q nL ads0 n0 n1 (pc + 3) L st S) : Rn p l e R s m args below meth c A D cI cZ Q nL ads0 n0 n1 pc L (.inl x :: st) S := by
  intro ads H locs ls cst hW hL hv
  obtain ⟨hx, hb, -⟩ := hC
  match cst, hv with
  | cv :: cst, hv =>
    obtain ⟨hxr, rfl⟩ := vr_int hv.1
    have hyr := in0
    have hi := i32_eq hxr hyr
    rw [i32_zero] at hi
    exact lv_if_ne hx hb hd ht (fun h => kt (fun h2 => h (hi.mpr h2)) ads H locs ls _ hW hL hv.2) (fun h => kf (hi.mp h) ads H locs ls _ hW hL hv.2)
theorem rn_icmp_ne {x y : Int} {off : Int} {tgt : Nat} (hC : Cx on cc nL init p s m args meth c A D cI cZ) (hd : decode cc pc = .ok (.if_icmp .ne off, 3)) (ht : (pc : Int) + off = (tgt : Int))
    (kt : ¬ x = y → Rn p l e R s m args below meth c A D cI cZ Q nL ads0 n0 n1 tgt L st S) (kf : x = y → Rn p l e R s m args below meth c A D cI cZ Q nL ads0 n0 n1 (pc + 3) L st S) : Rn p l e R s m args below meth c A D cI cZ Q nL ads0 n0 n1 pc L (.inl y :: .inl x :: st) S := by
  intro ads H locs ls cst hW hL hv
  obtain ⟨hx, hb, -⟩ := hC
  match cst, hv with
  | cw :: cv :: cst, hv =>
    obtain ⟨hyr, rfl⟩ := vr_int hv.1
    obtain ⟨hxr, rfl⟩ := vr_int hv.2.1
    have hi := i32_eq hxr hyr
    exact lv_icmp_ne hx hb hd ht (fun h => kt (fun h2 => h (hi.mpr h2)) ads H locs ls _ hW hL hv.2.2) (fun h => kf (hi.mp h) ads H locs ls _ hW hL hv.2.2)
  | [cy], hv => exact hv.2.elim
theorem rn_if_lt {x : Int} {off : Int} {tgt : Nat} (hC : Cx on cc nL init p s m args meth c A D cI cZ) (hd : decode cc pc = .ok (.ifCond .lt off, 3)) (ht : (pc : Int) + off = (tgt : Int))
    (kt : x < 0 → Rn p l e R s m args below meth c A D cI cZ Q nL ads0 n0 n1 tgt L st S) (kf : ¬ (x < 0) → Rn p l e R s m args below meth c A D cI cZ Q nL ads0 n0 n1 (pc + 3) L st S) : Rn p l e R s m args below meth c A D cI cZ Q nL ads0 n0 n1 pc L (.inl x :: st) S := by
  intro ads H locs ls cst hW hL hv
  obtain ⟨hx, hb, -⟩ := hC
  match cst, hv with
  | cv :: cst, hv =>
    obtain ⟨hxr, rfl⟩ := vr_int hv.1
    have hyr := in0
    have hi := i32_lt hxr hyr
    rw [i32_zero] at hi
    exact lv_if_lt hx hb hd ht (fun h => kt (hi.mp h) ads H locs ls _ hW hL hv.2) (fun h => kf (fun h2 => h (hi.mpr h2)) ads H locs ls _ hW hL hv.2)
theorem rn_icmp_lt {x y : Int} {off : Int} {tgt : Nat} (hC : Cx on cc nL init p s m args meth c A D cI cZ) (hd : decode cc pc = .ok (.if_icmp .lt off, 3)) (ht : (pc : Int) + off = (tgt : Int))
    (kt : x < y → Rn p l e R s m args below meth c A D cI cZ Q nL ads0 n0 n1 tgt L st S) (kf : ¬ (x < y) → Rn p l e R s m args below meth c A D cI cZ Q nL ads0 n0 n1 (pc + 3) L st S) : Rn p l e R s m args below meth c A D cI cZ Q nL ads0 n0 n1 pc L (.inl y :: .inl x :: st) S := by
  intro ads H locs ls cst hW hL hv
  obtain ⟨hx, hb, -⟩ := hC
  match cst, hv with
  | cw :: cv :: cst, hv =>
    obtain ⟨hyr, rfl⟩ := vr_int hv.1
    obtain ⟨hxr, rfl⟩ := vr_int hv.2.1
    have hi := i32_lt hxr hyr
    exact lv_icmp_lt hx hb hd ht (fun h => kt (hi.mp h) ads H locs ls _ hW hL hv.2.2) (fun h => kf (fun h2 => h (hi.mpr h2)) ads H locs ls _ hW hL hv.2.2)
  | [cy], hv => exact hv.2.elim
theorem rn_if_ge {x : Int} {off : Int} {tgt : Nat} (hC : Cx on cc nL init p s m args meth c A D cI cZ) (hd : decode cc pc = .ok (.ifCond .ge off, 3)) (ht : (pc : Int) + off = (tgt : Int))
    (kt : 0 ≤ x → Rn p l e R s m args below meth c A D cI cZ Q nL ads0 n0 n1 tgt L st S) (kf : ¬ (0 ≤ x) → Rn p l e R s m args below meth c A D cI cZ Q nL ads0 n0 n1 (pc + 3) L st S) : Rn p l e R s m args below meth c A D cI cZ Q nL ads0 n0 n1 pc L (.inl x :: st) S := by
  intro ads H locs ls cst hW hL hv
  obtain ⟨hx, hb, -⟩ := hC
  match cst, hv with
  | cv :: cst, hv =>
    obtain ⟨hxr, rfl⟩ := vr_int hv.1
    have hyr := in0
    have hi := i32_le hyr hxr
    rw [i32_zero] at hi
    exact lv_if_ge hx hb hd ht (fun h => kt (hi.mp h) ads H locs ls _ hW hL hv.2) (fun h => kf (fun h2 => h (hi.mpr h2)) ads H locs ls _ hW hL hv.2)
theorem rn_icmp_ge {x y : Int} {off : Int} {tgt : Nat} (hC : Cx on cc nL init p s m args meth c A D cI cZ) (hd : decode cc pc = .ok (.if_icmp .ge off, 3)) (ht : (pc : Int) + off = (tgt : Int))
    (kt : y ≤ x → Rn p l e R s m args below meth c A D cI cZ Q nL ads0 n0 n1 tgt L st S) (kf : ¬ (y ≤ x) → Rn p l e R s m args below meth c A D cI cZ Q nL ads0 n0 n1 (pc + 3) L st S) : Rn p l e R s m args below meth c A D cI cZ Q nL ads0 n0 n1 pc L (.inl y :: .inl x :: st) S := by
  intro ads H locs ls cst hW hL hv
  obtain ⟨hx, hb, -⟩ := hC
  match cst, hv with
  | cw :: cv :: cst, hv =>
    obtain ⟨hyr, rfl⟩ := vr_int hv.1
    obtain ⟨hxr, rfl⟩ := vr_int hv.2.1
    have hi := i32_le hyr hxr
    exact lv_icmp_ge hx hb hd ht (fun h => kt (hi.mp h) ads H locs ls _ hW hL hv.2.2) (fun h => kf (fun h2 => h (hi.mpr h2)) ads H locs ls _ hW hL hv.2.2)
  | [cy], hv => exact hv.2.elim
theorem rn_if_gt {x : Int} {off : Int} {tgt : Nat} (hC : Cx on cc nL init p s m args meth c A D cI cZ) (hd : decode cc pc = .ok (.ifCond .gt off, 3)) (ht : (pc : Int) + off = (tgt : Int))
    (kt : 0 < x → Rn p l e R s m args below meth c A D cI cZ Q nL ads0 n0 n1 tgt L st S) (kf : ¬ (0 < x) → Rn p l e R s m args below meth c A D cI cZ Q nL ads0 n0 n1 (pc + 3) L st S) : Rn p l e R s m args below meth c A D cI cZ Q nL ads0 n0 n1 pc L (.inl x :: st) S := by
  intro ads H locs ls cst hW hL hv
  obtain ⟨hx, hb, -⟩ := hC
  match cst, hv with
  | cv :: cst, hv =>
    obtain ⟨hxr, rfl⟩ := vr_int hv.1
    have hyr := in0
    have hi := i32_lt hyr hxr
    rw [i32_zero] at hi
    exact lv_if_gt hx hb hd ht (fun h => kt (hi.mp h) ads H locs ls _ hW hL hv.2) (fun h => kf (fun h2 => h (hi.mpr h2)) ads H locs ls _ hW hL hv.2)
theorem rn_icmp_gt {x y : Int} {off : Int} {tgt : Nat} (hC : Cx on cc nL init p s m args meth c A D cI cZ) (hd : decode cc pc = .ok (.if_icmp .gt off, 3)) (ht : (pc : Int) + off = (tgt : Int))
    (kt : y < x → Rn p l e R s m args below meth c A D cI cZ Q nL ads0 n0 n1 tgt L st S) (kf : ¬ (y < x) → Rn p l e R s m args below meth c A D cI cZ Q nL ads0 n0 n1 (pc + 3) L st S) : Rn p l e R s m args below meth c A D cI cZ Q nL ads0 n0 n1 pc L (.inl y :: .inl x :: st) S := by
  intro ads H locs ls cst hW hL hv
  obtain ⟨hx, hb, -⟩ := hC
  match cst, hv with
  | cw :: cv :: cst, hv =>
    obtain ⟨hyr, rfl⟩ := vr_int hv.1
    obtain ⟨hxr, rfl⟩ := vr_int hv.2.1
    have hi := i32_lt hyr hxr
    exact lv_icmp_gt hx hb hd ht (fun h => kt (hi.mp h) ads H locs ls _ hW hL hv.2.2) (fun h => kf (fun h2 => h (hi.mpr h2)) ads H locs ls _ hW hL hv.2.2)
  | [cy], hv => exact hv.2.elim
theorem rn_if_le {x : Int} {off : Int} {tgt : Nat} (hC : Cx on cc nL init p s m args meth c A D cI cZ) (hd : decode cc pc = .ok (.ifCond .le off, 3)) (ht : (pc : Int) + off = (tgt : Int))
    (kt : x ≤ 0 → Rn p l e R s m args below meth c A D cI cZ Q nL ads0 n0 n1 tgt L st S) (kf : ¬ (x ≤ 0) → Rn p l e R s m args below meth c A D cI cZ Q nL ads0 n0 n1 (pc + 3) L st S) : Rn p l e R s m args below meth c A D cI cZ Q nL ads0 n0 n1 pc L (.inl x :: st) S := by
  intro ads H locs ls cst hW hL hv
  obtain ⟨hx, hb, -⟩ := hC
  match cst, hv with
  | cv :: cst, hv =>
    obtain ⟨hxr, rfl⟩ := vr_int hv.1
    have hyr := in0
    have hi := i32_le hxr hyr
    rw [i32_zero] at hi
    exact lv_if_le hx hb hd ht (fun h => kt (hi.mp h) ads H locs ls _ hW hL hv.2) (fun h => kf (fun h2 => h (hi.mpr h2)) ads H locs ls _ hW hL hv.2)
theorem rn_icmp_le {x y : Int} {off : Int} {tgt : Nat} (hC : Cx on cc nL init p s m args meth c A D cI cZ) (hd : decode cc pc = .ok (.if_icmp .le off, 3)) (ht : (pc : Int) + off = (tgt : Int))
    (kt : x ≤ y → Rn p l e R s m args below meth c A D cI cZ Q nL ads0 n0 n1 tgt L st S) (kf : ¬ (x ≤ y) → Rn p l e R s m args below meth c A D cI cZ Q nL ads0 n0 n1 (pc + 3) L st S) : Rn p l e R s m args below meth c A D cI cZ Q nL ads0 n0 n1 pc L (.inl y :: .inl x :: st) S := by
  intro ads H locs ls cst hW hL hv
  obtain ⟨hx, hb, -⟩ := hC
  match cst, hv with
  | cw :: cv :: cst, hv =>
    obtain ⟨hyr, rfl⟩ := vr_int hv.1
    obtain ⟨hxr, rfl⟩ := vr_int hv.2.1
    have hi := i32_le hxr hyr
    exact lv_icmp_le hx hb hd ht (fun h => kt (hi.mp h) ads H locs ls _ hW hL hv.2.2) (fun h => kf (fun h2 => h (hi.mpr h2)) ads H locs ls _ hW hL hv.2.2)
  | [cy], hv => exact hv.2.elim
theorem rn_goto {off : Int} {tgt : Nat} (hC : Cx on cc nL init p s m args meth c A D cI cZ) (hd : decode cc pc = .ok (.goto off, 3)) (ht : (pc : Int) + off = (tgt : Int))
    (k : Rn p l e R s m args below meth c A D cI cZ Q nL ads0 n0 n1 tgt L st S) : Rn p l e R s m args below meth c A D cI cZ Q nL ads0 n0 n1 pc L st S := by
  intro ads H locs ls cst hW hL hv
  exact lv_goto hC.1 hC.2.1 hd ht (k ads H locs ls _ hW hL hv)
theorem rn_tswIn {x dflt lo hi : Int} {offs : Array Int} {len : Nat} {off : Int} {tgt : Nat} (hC : Cx on cc nL init p s m args meth c A D cI cZ) (hd : decode cc pc = .ok (.tableswitch dflt lo hi offs, len)) (h1 : lo ≤ x) (h2 : x ≤ hi) (ho : offs[(x - lo).toNat]? = some off) (ht : (pc : Int) + off = (tgt : Int))
    (k : Rn p l e R s m args below meth c A D cI cZ Q nL ads0 n0 n1 tgt L st S) : Rn p l e R s m args below meth c A D cI cZ Q nL ads0 n0 n1 pc L (.inl x :: st) S := by
  intro ads H locs ls cst hW hL hv
  match cst, hv with
  | cv :: cst, hv =>
    obtain ⟨hxr, rfl⟩ := vr_int hv.1
    exact lv_tableIn hC.1 hC.2.1 hd (by rw [i32_ofInt_toInt hxr]; omega) (by rw [i32_ofInt_toInt hxr]; omega) (by rw [i32_ofInt_toInt hxr]; exact ho) ht (k ads H locs ls _ hW hL hv.2)
theorem rn_tswOut {x dflt lo hi : Int} {offs : Array Int} {len : Nat} {tgt : Nat} (hC : Cx on cc nL init p s m args meth c A D cI cZ) (hd : decode cc pc = .ok (.tableswitch dflt lo hi offs, len)) (h : x < lo ∨ hi < x) (ht : (pc : Int) + dflt = (tgt : Int))
    (k : Rn p l e R s m args below meth c A D cI cZ Q nL ads0 n0 n1 tgt L st S) : Rn p l e R s m args below meth c A D cI cZ Q nL ads0 n0 n1 pc L (.inl x :: st) S := by
  intro ads H locs ls cst hW hL hv
  match cst, hv with
  | cv :: cst, hv =>
    obtain ⟨hxr, rfl⟩ := vr_int hv.1
    exact lv_tableOut hC.1 hC.2.1 hd (by rw [i32_ofInt_toInt hxr]; exact h) ht (k ads H locs ls _ hW hL hv.2)
theorem rn_lsw {x dflt : Int} {ps : Array (Int × Int)} {len : Nat} {off : Int} {tgt : Nat} (hC : Cx on cc nL init p s m args meth c A D cI cZ) (hd : decode cc pc = .ok (.lookupswitch dflt ps, len)) (hp : (ps.toList.zip (ps.toList.drop 1)).all (fun (a, next) => a.1 < next.1) = true) (ho : Op.lookupswitch.offset ps.toList dflt x = off) (ht : (pc : Int) + off = (tgt : Int))
    (k : Rn p l e R s m args below meth c A D cI cZ Q nL ads0 n0 n1 tgt L st S) : Rn p l e R s m args below meth c A D cI cZ Q nL ads0 n0 n1 pc L (.inl x :: st) S := by
  intro ads H locs ls cst hW hL hv
  match cst, hv with
  | cv :: cst, hv =>
    obtain ⟨hxr, rfl⟩ := vr_int hv.1
    exact lv_lookup hC.1 hC.2.1 hd hp (by rw [i32_ofInt_toInt hxr]; exact ho) ht (k ads H locs ls _ hW hL hv.2)
end RN
