/-! how a run ends -/
def e39 (s : Sg) (num : Int) (k : Nat) : Sg := fun r i => if r = 39 ∧ i < k then (if num = -1 then -1 else s 33 i) else (up2 s 0 52 num) r i
theorem e39_row {s : Sg} {num : Int} {k r : Nat} (h : ¬ r = 39) (h0 : ¬ r = 0) : e39 s num k r = s r := by
  funext i; unfold e39; rw [if_neg (fun q => h q.1), up2_row h0]
theorem e39_in {s : Sg} {num : Int} {k r i : Nat} (h : r = 39 ∧ i < k) : e39 s num k r i = if num = -1 then -1 else s 33 i := by unfold e39; rw [if_pos h]
theorem e39_out {s : Sg} {num : Int} {k r i : Nat} (h : ¬ (r = 39 ∧ i < k)) : e39 s num k r i = (up2 s 0 52 num) r i := by unfold e39; rw [if_neg h]
def enS (s : Sg) (num inc : Int) : Sg := up2 (e39 s num 6) 25 (if num = -1 then 0 else num.toNat) (wrap (s 25 (if num = -1 then 0 else num.toNat) + inc))
theorem end_c {s : Sg} {num : Int} {rz : Bool} (hn : num = -1 ∨ (0 ≤ num ∧ num < 8)) : F_X11_end num rz s = some (if num = -1 then -1 else if rz = true then -2 else s 21 num.toNat, enS s num (if num = -1 then 0 else if rz = true then 0 else 1)) := by
  have hl : iter (fun a : (Int × Sg) => L_X11_end_7 num a.1 a.2) 7 (0, up2 s 0 52 num) = some (e39 s num 6) := by
    have e0 : e39 s num 0 = up2 s 0 52 num := by funext r i; unfold e39; rw [if_neg (by omega)]
    have h33 : ∀ k i, e39 s num k 33 i = s 33 i := fun k i => by rw [e39_row (by omega) (by omega)]
    have := iter_up (f := fun q : (Int × Sg) => L_X11_end_7 num q.1 q.2) (fun j => e39 s num j.toNat) (lo := 0) (n := 6) (e := e39 s num 6) (fun j j0 j1 => by
      show L_X11_end_7 num j (e39 s num j.toNat) = _
      have key : ∀ v, v = (if num = -1 then -1 else s 33 j.toNat) → B_X11_end_33 j v j (e39 s num j.toNat) = some (.inl (j + 1, e39 s num (j + 1).toNat)) := fun v hv => by
        unfold B_X11_end_33
        rw [wrn_ok j0 (by omega), Option.bind_some, wrap_id (by omega) (by omega)]
        refine congrArg (fun z : Sg => some (Sum.inl (j + 1, z))) ?_
        funext r i
        unfold up2
        by_cases c : r = 39 ∧ i = j.toNat
        · rw [if_pos c, hv, e39_in ⟨c.1, by omega⟩, c.2]
        · rw [if_neg c]
          by_cases c2 : r = 39 ∧ i < j.toNat
          · rw [e39_in c2, e39_in ⟨c2.1, by omega⟩]
          · rw [e39_out c2, e39_out (by omega)]
      unfold L_X11_end_7
      rw [if_neg (by omega)]
      by_cases c : num = -1
      · rw [if_pos c]; exact key _ (by rw [if_pos c])
      · rw [if_neg c, rdn_ok j0 (by omega), Option.bind_some, h33]; exact key _ (by rw [if_neg c])) (by show L_X11_end_7 num 6 (e39 s num 6) = _; unfold L_X11_end_7; rw [if_pos (by omega)]) 7 0 (by omega) (by omega) (by omega)
    rw [show (0 : Int).toNat = 0 from rfl, e0] at this
    exact this
  have r25 : ∀ i, e39 s num 6 25 i = s 25 i := fun i => by rw [e39_row (by omega) (by omega)]
  have r21 : ∀ a b i, (up2 (e39 s num 6) 25 a b) 21 i = s 21 i := fun a b i => by rw [up2_row (by omega), e39_row (by omega) (by omega)]
  unfold F_X11_end
  rw [bnd_eq, hl, Option.bind_some]
  by_cases c : num = -1
  · subst c
    rw [if_pos rfl, if_pos rfl, if_pos rfl]
    unfold B_X11_end_54 B_X11_end_65 B_X11_end_70 enS
    rw [rdn_ok (by omega) (by omega), Option.bind_some, if_pos rfl, wrn_ok (by omega) (by omega), Option.bind_some, if_pos rfl, r25, if_pos rfl]
    rfl
  · have hn2 : 0 ≤ num ∧ num < 8 := by omega
    rw [if_neg c, if_neg c, if_neg c]
    unfold B_X11_end_54 B_X11_end_65 enS
    rw [rdn_ok hn2.1 (by omega), Option.bind_some, if_neg c, if_neg c, r25]
    cases rz with
    | true =>
      rw [if_pos rfl, if_pos rfl, if_pos rfl]
      unfold B_X11_end_70
      rw [wrn_ok hn2.1 (by omega), Option.bind_some, if_neg c, if_pos rfl]
      rfl
    | false =>
      rw [if_neg (by simp), if_neg (by simp), if_neg (by simp)]
      unfold B_X11_end_70
      rw [wrn_ok hn2.1 (by omega), Option.bind_some, if_neg c, if_neg (by simp), rdn_ok hn2.1 (by omega), Option.bind_some, r21]
      rfl
def FinC (σ0 σ : Sg) : Prop := (∀ r, r ∉ [26, 27, 28, 29, 30, 31, 33, 36, 37, 38, 39, 40] → σ r = σ0 r) ∧ (∀ i, ¬ i = 5 → σ 33 i = σ0 33 i) ∧ ∀ c k : Nat, k < 7 → σ 26 (8 * c + k) = σ0 26 (8 * c + k)
def FinM (τ s : Sg) : Prop := (∀ r, r ∉ [0, 25, 28, 29, 30, 31, 32, 33, 34, 36, 37, 38, 39] → s r = τ r) ∧ ∀ i, i ∉ [34, 38, 42, 43, 44, 47, 48, 52] → s 0 i = τ 0 i
theorem rn_i {σ s : Sg} : ∀ {R : List (Int × Int × Int)} {i : Nat}, rnc σ R → rnl s R → (∀ e ∈ R, (0 ≤ e.1 ∧ e.1 ≤ 2) ∧ prP 3 e.2.1 ∧ (0 ≤ e.2.2 ∧ e.2.2 ≤ 9)) → i < R.length → σ 30 i = 100000 * s 36 i + 10 * s 37 i + s 38 i ∧ (0 ≤ s 36 i ∧ s 36 i ≤ 2) ∧ (0 ≤ s 37 i ∧ s 37 i ≤ 468) ∧ (0 ≤ s 38 i ∧ s 38 i ≤ 9)
  | [], i, _, _, _, h => by simp at h
  | e :: R, i, h1, h2, h3, h => by
    rw [List.length_cons] at h
    by_cases c : i = R.length
    · subst c
      have q := h3 e List.mem_cons_self
      have p := prP_468 q.2.1
      rw [h1.1, h2.1, h2.2.1, h2.2.2.1]
      exact ⟨rfl, q.1, ⟨by omega, p.2⟩, q.2.2⟩
    · exact rn_i h1.2 h2.2.2.2 (fun e he => h3 e (List.mem_cons_of_mem _ he)) (by omega)
set_option maxHeartbeats 4000000 in
theorem fin_RS {σ0 σ τ s : Sg} {x : XS} {kind : Int} {c : Nat} (hC : CtxC σ0 τ) (hx : CR σ0 x σ) (hJ : JR x.2.2) (hm : RX τ x s) (hk : kind = 0 ∨ kind = 1 ∨ kind = 2) (hc : kind = 2 ∨ (c : Int) < τ 0 23) (h25 : ∀ i, inR (τ 25 i)) : ∃ v s', endM kind c s = some (v, s') ∧ (endC kind c σ).1 = v ∧ RS (endC kind c σ).2 s' ∧ FinC σ0 (endC kind c σ).2 ∧ FinM τ s' := by
  obtain ⟨hK, hV0, hP0, hW0, hM0, hG⟩ := id hC
  have h8 := hM0.2.2.2.1.2.1
  obtain ⟨num, hn2, hn0, hend⟩ : ∃ num : Int, (kind = 2 → num = -1) ∧ (¬ kind = 2 → num = c) ∧ endM kind c s = some (if kind = 2 then -1 else if kind = 1 then -2 else s 21 c, enS s num (if kind = 0 then 1 else 0)) := by
    have cn : ¬ (c : Int) = -1 := by omega
    rcases hk with k | k | k
    · refine ⟨c, fun z => by omega, fun _ => rfl, ?_⟩
      unfold endM
      rw [if_neg (by omega), end_c (Or.inr ⟨by omega, by omega⟩), if_neg cn, if_neg cn, if_neg (show ¬ kind = 2 by omega), if_neg (show ¬ kind = 1 by omega), if_pos k, decide_eq_false (show ¬ kind = 1 by omega), if_neg (by simp), if_neg (by simp)]
      rfl
    · refine ⟨c, fun z => by omega, fun _ => rfl, ?_⟩
      unfold endM
      rw [if_neg (by omega), end_c (Or.inr ⟨by omega, by omega⟩), if_neg cn, if_neg cn, if_neg (show ¬ kind = 2 by omega), if_pos k, if_neg (show ¬ kind = 0 by omega), decide_eq_true k, if_pos rfl, if_pos rfl]
    · refine ⟨-1, fun z => rfl, fun z => absurd k z, ?_⟩
      unfold endM
      rw [if_pos k, end_c (Or.inl rfl), if_pos rfl, if_pos rfl, if_pos k, if_neg (by omega)]
  rw [hend]
  refine ⟨_, _, rfl, ?_⟩
  obtain ⟨⟨m1, m2⟩, m3, m4, m5, m6, m7⟩ := hm
  obtain ⟨c1, c2, c3, c4, c5, c6⟩ := hx
  have hRM := hC.rm c1
  obtain ⟨q1, q2, q3, q4, q5⟩ := id hRM
  have s25 : s 25 = τ 25 := m1 25 (by decide)
  have s21 : s 21 = τ 21 := m1 21 (by decide)
  have hlen := JR_len hJ
  -- the class's end
  obtain ⟨c', hres, hrow, h31, h26, hcell⟩ : ∃ σ' : Sg, (endC kind c σ) = (if kind = 2 then -1 else if kind = 1 then -2 else τ 21 c, σ') ∧ (∀ r, ¬ r = 26 → ¬ r = 31 → σ' r = σ r) ∧ (∀ i : Nat, i < 6 → σ' 31 i = if num = -1 then -1 else x.1 i) ∧ (∀ d k : Nat, k < 8 → ¬ (kind = 0 ∧ d = c ∧ k = 7) → σ' 26 (8 * d + k) = σ 26 (8 * d + k)) ∧ (kind = 0 → σ' 26 (8 * c + 7) = wrap (τ 25 c + 1)) := by
    rcases hk with k | k | k
    · have hcc : (c : Int) < τ 0 23 := by omega
      obtain ⟨m1', m2', m3', m4', m5'⟩ := q5 c hcc
      have hset : F_X1_take c σ = (τ 21 c, up2 σ 26 (8 * c + 7) (wrap (τ 25 c + 1))) := by
        have hg7 : F_X4_get c 7 σ = τ 25 c := (get4m hRM hcc 7 (by omega)).trans m5'
        have hs : F_X4_set c 7 (wrap (τ 25 c + 1)) σ = up2 σ 26 (8 * c + 7) (wrap (τ 25 c + 1)) := by
          rw [set4 ⟨by omega, by omega⟩ (by omega) (by omega), show ((c : Int) * 8 + 7).toNat = 8 * c + 7 by omega]
        have hg3 : F_X4_get c 3 (up2 σ 26 (8 * c + 7) (wrap (τ 25 c + 1))) = τ 21 c := by
          have := get4n (s := up2 σ 26 (8 * c + 7) (wrap (τ 25 c + 1))) (a := c) (k := 3) (by rw [up2_row (by omega)]; omega) (by omega) (by omega)
          rw [up2_idx (by omega), m2'] at this
          exact this
        unfold F_X1_take
        rw [hg7, hs, bnd_eq, hg3]
      refine ⟨up2 σ 26 (8 * c + 7) (wrap (τ 25 c + 1)), ?_, fun r r1 r2 => by funext i; rw [up2_row r1], fun i hi => ?_, fun d j hj hne => ?_, fun _ => by rw [up2_at rfl rfl]⟩
      · unfold endC
        rw [if_pos k, hset, if_neg (by omega), if_neg (by omega)]
      · rw [up2_row (by omega), if_neg (by omega)]; exact c2 i hi
      · rw [up2_idx (by omega)]
    · refine ⟨σ, ?_, fun r r1 r2 => rfl, fun i hi => ?_, fun d j hj hne => rfl, fun z => by omega⟩
      · unfold endC
        rw [if_neg (by omega), if_pos k, if_neg (by omega), if_pos k]
      · rw [if_neg (by omega)]; exact c2 i hi
    · refine ⟨F_X1_unbind σ, ?_, fun r r1 r2 => ?_, fun i hi => ?_, fun d j hj hne => ?_, fun z => by omega⟩
      · unfold endC F_X1_miss
        rw [if_neg (by omega), if_neg (by omega), if_pos k, bnd_eq]
      · unfold F_X1_unbind; rw [bnd_eq]; funext i; exact fillF_row r2
      · unfold F_X1_unbind; rw [bnd_eq, fillF_at hi, if_pos (by omega)]
      · unfold F_X1_unbind; rw [bnd_eq, fillF_row (by omega)]
  rw [hres, s21]
  refine ⟨rfl, ?_⟩
  clear hend hres
  dsimp only
  refine ⟨?_, ?_, ?_⟩
  · -- the ties
    have er : ∀ r, ¬ r = 25 → ¬ r = 39 → ¬ r = 0 → enS s num (if kind = 0 then 1 else 0) r = s r := fun r a b d => by
      unfold enS; funext i; rw [up2_row a, e39_row b d]
    have e0 : ∀ i, ¬ i = 52 → enS s num (if kind = 0 then 1 else 0) 0 i = s 0 i := fun i hi => by
      unfold enS; rw [up2_row (by omega), e39_out (by omega), up2_idx hi]
    have e52 : enS s num (if kind = 0 then 1 else 0) 0 52 = num := by
      unfold enS; rw [up2_row (by omega), e39_out (by omega), up2_at rfl rfl]
    have e39' : ∀ i : Nat, i < 6 → enS s num (if kind = 0 then 1 else 0) 39 i = if num = -1 then -1 else s 33 i := fun i hi => by
      unfold enS; rw [up2_row (by omega), e39_in ⟨rfl, hi⟩]
    have e25 : ∀ d : Nat, enS s num (if kind = 0 then 1 else 0) 25 d = if kind = 0 ∧ d = c then wrap (τ 25 c + 1) else τ 25 d := fun d => by
      unfold enS
      rw [s25]
      by_cases n1 : num = -1
      · rw [if_pos n1, if_neg (by omega)]
        by_cases d0 : d = 0
        · have := h25 0
          unfold inR at this
          rw [up2_at rfl d0, d0, if_neg (by omega), wrap_id (by omega) (by omega)]; omega
        · rw [up2_idx d0, e39_row (by omega) (by omega), s25, if_neg (by omega)]
      · rw [if_neg n1, show num.toNat = c by omega]
        by_cases dc : d = c
        · rw [up2_at rfl dc, dc]
          by_cases k0 : kind = 0
          · rw [if_pos k0, if_pos ⟨k0, rfl⟩]
          · have := h25 c
            unfold inR at this
            rw [if_neg k0, if_neg (fun z => k0 z.1), wrap_id (by omega) (by omega)]; omega
        · rw [up2_idx dc, e39_row (by omega) (by omega), s25, if_neg (fun z => dc z.2)]
    generalize enS s num (if kind = 0 then 1 else 0) = s' at *
    have t0 : ∀ i, i ∉ [34, 38, 42, 43, 44, 47, 48] → ¬ i = 52 → s' 0 i = τ 0 i := fun i hi h52 => by rw [e0 i h52, m2 i hi]
    have tr : ∀ r, (1 ≤ r ∧ r ≤ 24) → s' r = τ r := fun r hr => by rw [er r (by omega) (by omega) (by omega), m1 r (by simp only [List.mem_cons, List.not_mem_nil, or_false, not_or]; omega)]
    have cr : ∀ r, r ≤ 25 → c' r = σ0 r := fun r hr => by rw [hrow r (by omega) (by omega), c1.row (by omega)]
    refine ⟨?_, ?_, ?_, ?_, ?_, ?_⟩
    · unfold RK at *
      rw [cr 2 (by omega), cr 3 (by omega), cr 4 (by omega), tr 1 (by omega), tr 2 (by omega), tr 3 (by omega)]; exact hK
    · unfold RV WFV at *
      rw [cr 5 (by omega), cr 6 (by omega), cr 7 (by omega), cr 8 (by omega), cr 9 (by omega), t0 4 (by decide) (by omega), tr 1 (by omega), tr 2 (by omega), tr 3 (by omega), tr 4 (by omega), tr 5 (by omega), tr 6 (by omega), tr 7 (by omega)]; exact hV0
    · exact RP.fr hP0 hK.2.2.2 (fun r r1 r2 => cr r (by omega)) (fun r r1 r2 => tr r (by omega)) (t0 9 (by decide) (by omega))
    · unfold RW at *
      rw [cr 23 (by omega), tr 18 (by omega)]; exact hW0
    · have hWm : WFM s' := hM0.2.2.2.1.mono hP0.2.1 (ExtK.same (fun r r1 r2 => tr r (by omega))) (ExtP.same (t0 9 (by decide) (by omega)) (fun r r1 r2 => tr r (by omega))) (fun r r1 r2 => tr r (by omega)) (t0 21 (by decide) (by omega)) (t0 23 (by decide) (by omega))
      refine ⟨by rw [cr 24 (by omega), t0 21 (by decide) (by omega)]; exact hM0.1, by rw [cr 24 (by omega), t0 23 (by decide) (by omega)]; exact hM0.2.1, fun k hk => by rw [cr 25 (by omega), tr 19 (by omega)]; exact hM0.2.2.1 k hk, hWm, fun d hd => ?_⟩
      rw [t0 23 (by decide) (by omega)] at hd
      obtain ⟨z1, z2, z3, z4, z5⟩ := q5 d hd
      unfold RM1 cpt
      rw [tr 20 (by omega), tr 21 (by omega), tr 22 (by omega), tr 23 (by omega), tr 24 (by omega), e25]
      refine ⟨fun k hk => by rw [h26 d k (by omega) (by omega)]; exact z1 k hk, by rw [h26 d 3 (by omega) (by omega)]; exact z2, by rw [h26 d 4 (by omega) (by omega)]; exact z3, fun q => by rw [h26 d 5 (by omega) (by omega), h26 d 6 (by omega) (by omega)]; exact z4 q, ?_⟩
      by_cases g : kind = 0 ∧ d = c
      · rw [if_pos g, g.2]; exact hcell g.1
      · rw [if_neg g, h26 d 7 (by omega) (fun z => g ⟨z.1, z.2.1⟩)]; exact z5
    · refine ⟨?_, ?_, ?_, fun i hi => ?_, fun i hi => ?_⟩
      · rw [hrow 27 (by omega) (by omega), e0 47 (by omega), c3, m4]
      · rw [hrow 27 (by omega) (by omega), e0 48 (by omega), c4, m6]
      · rw [e0 48 (by omega), m6]; omega
      · rw [e0 48 (by omega), m6] at hi
        rw [hrow 30 (by omega) (by omega), er 36 (by omega) (by omega) (by omega), er 37 (by omega) (by omega) (by omega), er 38 (by omega) (by omega) (by omega)]
        exact rn_i c5 m7 hJ.2 (by omega)
      · rw [h31 i hi, e52, e39' i hi, m3 i hi]
        by_cases n1 : num = -1
        · rw [if_pos n1, if_pos n1]
        · rw [if_neg n1, if_neg n1]
  · refine ⟨fun r hr => ?_, fun i hi => ?_, fun d k hk => ?_⟩
    · have hr' := hr
      simp only [List.mem_cons, List.not_mem_nil, or_false, not_or] at hr'
      rw [hrow r (by omega) (by omega), c1.1 r (by simp only [List.mem_cons, List.not_mem_nil, or_false, not_or]; omega)]
    · rw [hrow 33 (by omega) (by omega), c1.2 i hi]
    · rw [h26 d k (by omega) (by omega), c1.row (by omega)]
  · refine ⟨fun r hr => ?_, fun i hi => ?_⟩
    · simp only [List.mem_cons, List.not_mem_nil, or_false, not_or] at hr
      unfold enS
      funext i
      rw [up2_row (by omega), e39_row (by omega) (by omega), m1 r (by simp only [List.mem_cons, List.not_mem_nil, or_false, not_or]; omega)]
    · simp only [List.mem_cons, List.not_mem_nil, or_false, not_or] at hi
      unfold enS
      rw [up2_row (by omega), e39_out (by omega), up2_idx (by omega), m2 i (by simp only [List.mem_cons, List.not_mem_nil, or_false, not_or]; omega)]
