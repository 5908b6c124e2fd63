/-! the reference's search for the first leaf that misses -/
/-- the stack of nodes, its top first -/
def stN (s : Sg) : List Nat → Prop
  | [] => True
  | a :: S => s 46 S.length = a ∧ stN s S
theorem stN_up {s : Sg} {i : Nat} {v : Int} : ∀ {S : List Nat}, stN s S → S.length ≤ i → stN (up2 s 46 i v) S
  | [], _, _ => trivial
  | a :: S, h, hi => by
    rw [List.length_cons] at hi
    exact ⟨by rw [up2_idx (by omega)]; exact h.1, stN_up h.2 (by omega)⟩
def csN (f : Nat) : Nat → Nat → List Nat
  | 0, _ => []
  | d + 1, i => (f + i) :: csN f d (i + 1)
theorem csN_len {f : Nat} : ∀ {d i : Nat}, (csN f d i).length = d
  | 0, _ => rfl
  | d + 1, i => by unfold csN; rw [List.length_cons, csN_len]
theorem csN_mem {f x : Nat} : ∀ {d i : Nat}, x ∈ csN f d i ↔ ∃ j, i ≤ j ∧ j < i + d ∧ x = f + j
  | 0, i => ⟨fun h => (by cases h), fun ⟨j, h1, h2, _⟩ => (by omega)⟩
  | d + 1, i => by
    unfold csN
    rw [List.mem_cons, csN_mem]
    constructor
    · rintro (h | ⟨j, j1, j2, j3⟩)
      · exact ⟨i, Nat.le_refl _, by omega, h⟩
      · exact ⟨j, by omega, by omega, j3⟩
    · rintro ⟨j, j1, j2, j3⟩
      by_cases g : j = i
      · rw [g] at j3; exact Or.inl j3
      · exact Or.inr ⟨j, by omega, by omega, j3⟩
theorem csN_nd {f : Nat} : ∀ {d i : Nat}, (csN f d i).Nodup
  | 0, _ => List.nodup_nil
  | d + 1, i => by
    unfold csN
    rw [List.nodup_cons]
    refine ⟨fun h => ?_, csN_nd⟩
    obtain ⟨j, j1, j2, j3⟩ := csN_mem.mp h
    omega
/-- two ways part -/
def dv (x y : List Nat) : Prop := ∃ c i j u v, x = c ++ i :: u ∧ y = c ++ j :: v ∧ i < j
theorem dv_lx {x y w : List Nat} (h : dv x y) : lx x (y ++ w) := by
  obtain ⟨c, i, j, u, v, h1, h2, h3⟩ := h
  rw [h1, h2, List.append_assoc]
  exact lx_lt c u (v ++ w) h3
theorem dv_app {x y w : List Nat} (h : dv x y) : dv (x ++ w) y := by
  obtain ⟨c, i, j, u, v, h1, h2, h3⟩ := h
  exact ⟨c, i, j, u ++ w, v, by rw [h1, List.append_assoc]; rfl, h2, h3⟩
/-- what goes on from a way begins like it -/
theorem sfx_rp : ∀ {P Q : Pth}, Q ∈ sfx P → ∃ w, rp P = rp Q ++ w
  | [], Q, h => by rw [List.mem_singleton.mp h]; exact ⟨[], rfl⟩
  | q :: P, Q, h => by
    rcases List.mem_cons.mp h with h | h
    · rw [h]; exact ⟨[], (List.append_nil _).symm⟩
    · obtain ⟨w, hw⟩ := sfx_rp h
      exact ⟨w ++ [q.2], by show rp P ++ [q.2] = _; rw [hw, List.append_assoc]⟩
theorem sfx_next {τ : Sg} {m : Bool} : ∀ {P Q : Pth}, AP τ m P → Q ∈ sfx P → ¬ P = Q → ∃ i, i < wid τ (qry τ m Q) ∧ ((qry τ m Q, i) :: Q) ∈ sfx P
  | [], Q, _, h, hne => absurd (List.mem_singleton.mp h).symm hne
  | q :: P, Q, hap, h, hne => by
    obtain ⟨h1, h2, h3⟩ := hap
    rcases List.mem_cons.mp h with h | h
    · exact absurd h.symm hne
    · by_cases g : P = Q
      · rw [g] at h2
        have hq : q = (qry τ m Q, q.2) := Prod.ext h2 rfl
        refine ⟨q.2, by rw [← h2]; exact h3, ?_⟩
        rw [← hq, g]
        exact List.mem_cons_self
      · obtain ⟨i, i1, i2⟩ := sfx_next h1 h g
        exact ⟨i, i1, List.mem_cons_of_mem _ i2⟩
theorem push_l {s0 : Sg} {N a f w : Nat} (hN : N ≤ 500) (r44 : s0 44 a = f) (ha : a < N) (R : List Nat) (hl : w + R.length ≤ 500) : ∀ (i fu : Nat) (s : Sg), i ≤ w → i < fu → (0 < w → f + w ≤ 512) → (∀ r, ¬ r = 46 → s r = s0 r) → stN s (csN f (w - i) i ++ R) → ∃ s', iter (fun z : (Int × Int × Sg) => L_X11_firstMissed_44 a z.1 z.2.1 z.2.2) fu ((((w - i) + R.length : Nat) : Int), (i : Int) - 1, s) = some (((w + R.length : Nat) : Int), s') ∧ (∀ r, ¬ r = 46 → s' r = s0 r) ∧ stN s' (csN f w 0 ++ R)
  | 0, fu, s, hi, hfu, hfw, hs, hst => by
    obtain ⟨fu, rfl⟩ : ∃ z, fu = z + 1 := ⟨fu - 1, by omega⟩
    refine ⟨s, ?_, hs, hst⟩
    rw [iter_r (b := (((w + R.length : Nat) : Int), s)) (by
      show L_X11_firstMissed_44 a (((w - 0) + R.length : Nat) : Int) (((0 : Nat) : Int) - 1) s = _
      unfold L_X11_firstMissed_44
      rw [if_pos (by omega)]
      rfl)]
  | i + 1, fu, s, hi, hfu, hfw, hs, hst => by
    obtain ⟨fu, rfl⟩ : ∃ z, fu = z + 1 := ⟨fu - 1, by omega⟩
    have hfw2 := hfw (by omega)
    have hlen : (csN f (w - (i + 1)) (i + 1) ++ R).length = (w - (i + 1)) + R.length := by rw [List.length_append, csN_len]
    have hst2 : stN (up2 s 46 ((w - (i + 1)) + R.length) ((f + i : Nat) : Int)) (csN f (w - i) i ++ R) := by
      rw [show w - i = (w - (i + 1)) + 1 by omega]
      show stN _ ((f + i) :: (csN f (w - (i + 1)) (i + 1) ++ R))
      exact ⟨by rw [hlen, up2_at rfl rfl], stN_up hst (by rw [hlen]; exact Nat.le_refl _)⟩
    have hs2 : ∀ r, ¬ r = 46 → (up2 s 46 ((w - (i + 1)) + R.length) ((f + i : Nat) : Int)) r = s0 r := fun r hr => by
      rw [← hs r hr]; funext j; rw [up2_row hr]
    obtain ⟨s', e1, e2, e3⟩ := push_l hN r44 ha R hl i fu _ (by omega) (by omega) hfw hs2 hst2
    refine ⟨s', ?_, e2, e3⟩
    have h44 : s 44 a = f := by rw [hs 44 (by omega), r44]
    have hstep : L_X11_firstMissed_44 a ((((w - (i + 1)) + R.length : Nat)) : Int) (((i + 1 : Nat) : Int) - 1) s = some (.inl ((((w - i) + R.length : Nat) : Int), (i : Int) - 1, up2 s 46 ((w - (i + 1)) + R.length) ((f + i : Nat) : Int))) := by
      unfold L_X11_firstMissed_44
      rw [if_neg (by omega), rdn_ok (by omega) (by omega), Option.bind_some, show ((a : Int)).toNat = a by omega, h44, wrap_id (z := (f : Int) + (((i + 1 : Nat) : Int) - 1)) (by omega) (by omega), wrn_ok (by omega) (by omega), Option.bind_some, wrap_id (z := ((((w - (i + 1)) + R.length : Nat)) : Int) + 1) (by omega) (by omega), wrap_id (z := (((i + 1 : Nat) : Int) - 1) + -1) (by omega) (by omega), show (f : Int) + (((i + 1 : Nat) : Int) - 1) = ((f + i : Nat) : Int) by omega, show ((((w - (i + 1)) + R.length : Nat)) : Int) + 1 = (((w - i) + R.length : Nat) : Int) by omega, show (((i + 1 : Nat) : Int) - 1) + -1 = (i : Int) - 1 by omega, Int.toNat_natCast]
    rw [iter_l (f := fun z : (Int × Int × Sg) => L_X11_firstMissed_44 a z.1 z.2.1 z.2.2) hstep]
    exact e1
/-- what is still to be gone through covers all that miss, in its order -/
def SrI (τ s : Sg) (m : Bool) (pf : Nat → Pth) (N : Nat) (D St : List Nat) : Prop :=
  (∀ r, ¬ r = 46 → s r = τ r) ∧
  (stN s St) ∧
  ((D ++ St).Nodup) ∧
  (∀ a ∈ D ++ St, a < N) ∧
  (∀ a ∈ D ++ St, a = 0 ∨ ∃ b i, b ∈ D ∧ i < wid τ (qry τ m (pf b)) ∧ pf a = (qry τ m (pf b), i) :: pf b) ∧
  (∀ P, AP τ m P → (qry τ m P).1 = 2 → ∃ a ∈ St, pf a ∈ sfx P) ∧
  (St.Pairwise (fun a b => dv (rp (pf a)) (rp (pf b))))
theorem SrI.fr {τ s : Sg} {m : Bool} {pf : Nat → Pth} {N : Nat} {D St : List Nat} (h : SrI τ s m pf N D St) : ∀ r, ¬ r = 46 → s r = τ r := h.1
theorem SrI.stk {τ s : Sg} {m : Bool} {pf : Nat → Pth} {N : Nat} {D St : List Nat} (h : SrI τ s m pf N D St) : stN s St := h.2.1
theorem SrI.nd {τ s : Sg} {m : Bool} {pf : Nat → Pth} {N : Nat} {D St : List Nat} (h : SrI τ s m pf N D St) : (D ++ St).Nodup := h.2.2.1
theorem SrI.lt {τ s : Sg} {m : Bool} {pf : Nat → Pth} {N : Nat} {D St : List Nat} (h : SrI τ s m pf N D St) : ∀ a ∈ D ++ St, a < N := h.2.2.2.1
theorem SrI.par {τ s : Sg} {m : Bool} {pf : Nat → Pth} {N : Nat} {D St : List Nat} (h : SrI τ s m pf N D St) : ∀ a ∈ D ++ St, a = 0 ∨ ∃ b i, b ∈ D ∧ i < wid τ (qry τ m (pf b)) ∧ pf a = (qry τ m (pf b), i) :: pf b := h.2.2.2.2.1
theorem SrI.cov {τ s : Sg} {m : Bool} {pf : Nat → Pth} {N : Nat} {D St : List Nat} (h : SrI τ s m pf N D St) : ∀ P, AP τ m P → (qry τ m P).1 = 2 → ∃ a ∈ St, pf a ∈ sfx P := h.2.2.2.2.2.1
theorem SrI.ord {τ s : Sg} {m : Bool} {pf : Nat → Pth} {N : Nat} {D St : List Nat} (h : SrI τ s m pf N D St) : St.Pairwise (fun a b => dv (rp (pf a)) (rp (pf b))) := h.2.2.2.2.2.2
theorem sub_lenN {l k : List Nat} (h1 : l.Nodup) (h2 : ∀ a ∈ l, a ∈ k) : l.length ≤ k.length := sub_len h1 h2
theorem SrI.len {τ s : Sg} {m : Bool} {pf : Nat → Pth} {N : Nat} {D St : List Nat} (h : SrI τ s m pf N D St) : D.length + St.length ≤ N := by
  have := sub_lenN h.nd (k := List.range N) (fun a ha => List.mem_range.mpr (h.lt a ha))
  rw [List.length_append, List.length_range] at this
  exact this
set_option maxHeartbeats 4000000 in
theorem search_s {τ s : Sg} {m : Bool} {pf : Nat → Pth} {N a : Nat} {D R : List Nat} (hB : BI τ τ m pf N N) (hok : ∀ n, n < N → okAs (qry τ m (pf n)) ∧ wid τ (qry τ m (pf n)) ≤ 10) (h : SrI τ s m pf N D (a :: R)) : (L_X11_firstMissed_9 ((R.length + 1 : Nat) : Int) s = some (.inr (.inr ((a : Int), s))) ∧ a < N ∧ FMs τ m (pf a)) ∨ ∃ (s' : Sg) (R' : List Nat), L_X11_firstMissed_9 ((R.length + 1 : Nat) : Int) s = some (.inl ((R'.length : Int), s')) ∧ SrI τ s' m pf N (a :: D) R' := by
  have h500 := hB.n500
  have hlen := h.len
  rw [List.length_cons] at hlen
  have haN : a < N := h.lt a (List.mem_append_right _ List.mem_cons_self)
  obtain ⟨g1, -, -⟩ := hB.fin a haN
  obtain ⟨-, -, -, c4, -, -, -, -, -, -⟩ := ask_cells g1 (hok a haN).1.1
  have r46 : rdn 512 s 46 (wrap (((R.length + 1 : Nat) : Int) + -1)) = some (a : Int) := by
    rw [wrap_id (by omega) (by omega), rdn_ok (by omega) (by omega), show (((R.length + 1 : Nat) : Int) + -1).toNat = R.length by omega, h.stk.1]
  have r41 : rdn 512 s 41 (a : Int) = some (τ 41 a) := by rw [rdn_ok (by omega) (by omega), show ((a : Int)).toNat = a by omega, h.fr 41 (by omega)]
  have hord := List.pairwise_cons.mp h.ord
  by_cases g : τ 41 a = 2
  · refine Or.inl ⟨?_, haN, hB.ap a haN, c4.mp g, fun Q hQ hQ2 => ?_⟩
    · unfold L_X11_firstMissed_9
      rw [if_neg (by omega), r46, Option.bind_some, r41, Option.bind_some, if_pos g]
    · obtain ⟨b, b1, b2⟩ := h.cov Q hQ hQ2
      rcases List.mem_cons.mp b1 with q | q
      · rw [q] at b2
        by_cases e : Q = pf a
        · exact Or.inl e
        · obtain ⟨i, i1, -⟩ := sfx_next hQ b2 e
          rw [wid_leaf (by rw [c4.mp g]; decide)] at i1
          omega
      · obtain ⟨w, hw⟩ := sfx_rp b2
        rw [hw]
        exact Or.inr (dv_lx (hord.1 b q))
  · refine Or.inr ?_
    obtain ⟨f, f1, f2, f3⟩ := hB.ch haN
    obtain ⟨w, hw⟩ : ∃ w, w = wid τ (qry τ m (pf a)) := ⟨_, rfl⟩
    rw [← hw] at f2 f3
    have hw10 := (hok a haN).2
    rw [← hw] at hw10
    have r45 : rdn 512 s 45 (a : Int) = some (w : Int) := by rw [rdn_ok (by omega) (by omega), show ((a : Int)).toNat = a by omega, h.fr 45 (by omega), f2]
    -- what is behind wasn't there
    have hfresh : ∀ i, i < w → ¬ (f + i) ∈ D ++ a :: R := fun i hi hm => by
      obtain ⟨k1, k2, k3⟩ := f3 i hi
      rcases h.par (f + i) hm with q | ⟨b, j, b1, b2, b3⟩
      · omega
      · rw [k3] at b3
        injection b3 with z1 z2
        have hbN : b < N := h.lt b (List.mem_append_left _ b1)
        have hab := hB.inj _ a b (Nat.le_refl _) haN hbN z2
        have hnd := (List.nodup_append.mp h.nd).2.2 b b1 a List.mem_cons_self
        exact hnd hab.symm
    have hnd0 := List.nodup_append.mp h.nd
    have hndR := List.nodup_cons.mp hnd0.2.1
    have hfw : 0 < w → f + w ≤ 512 := fun hw0 => by
      have := (f3 (w - 1) (by omega)).2.1
      omega
    have hC : ∀ x ∈ csN f w 0, ∃ i, i < w ∧ x = f + i := fun x hx => by
      obtain ⟨j, j1, j2, j3⟩ := csN_mem.mp hx
      exact ⟨j, by omega, j3⟩
    have hndN : ((a :: D) ++ (csN f w 0 ++ R)).Nodup := by
      rw [List.nodup_append]
      refine ⟨List.nodup_cons.mpr ⟨fun q => hnd0.2.2 a q a List.mem_cons_self rfl, hnd0.1⟩, List.nodup_append.mpr ⟨csN_nd, hndR.2, fun x hx y hy e => ?_⟩, fun x hx y hy e => ?_⟩
      · obtain ⟨i, i1, i2⟩ := hC x hx
        exact hfresh i i1 (by rw [← i2, e]; exact List.mem_append_right _ (List.mem_cons_of_mem _ hy))
      · rcases List.mem_append.mp hy with hy | hy
        · obtain ⟨i, i1, i2⟩ := hC y hy
          refine hfresh i i1 ?_
          rw [← i2, ← e]
          rcases List.mem_cons.mp hx with q | q
          · rw [q]; exact List.mem_append_right _ List.mem_cons_self
          · exact List.mem_append_left _ q
        · rcases List.mem_cons.mp hx with q | q
          · rw [← e, q] at hy; exact hndR.1 hy
          · exact hnd0.2.2 x q y (List.mem_cons_of_mem _ hy) e
    have hltN : ∀ x ∈ (a :: D) ++ (csN f w 0 ++ R), x < N := fun x hx => by
      rcases List.mem_append.mp hx with q | q
      · rcases List.mem_cons.mp q with q | q
        · rw [q]; exact haN
        · exact h.lt x (List.mem_append_left _ q)
      · rcases List.mem_append.mp q with q | q
        · obtain ⟨i, i1, i2⟩ := hC x q
          rw [i2]; exact (f3 i i1).2.1
        · exact h.lt x (List.mem_append_right _ (List.mem_cons_of_mem _ q))
    have hcap : w + R.length ≤ 500 := by
      have := sub_lenN hndN (k := List.range N) (fun x hx => List.mem_range.mpr (hltN x hx))
      rw [List.length_append, List.length_append, csN_len, List.length_range] at this
      omega
    obtain ⟨s', e1, e2, e3⟩ := push_l (s0 := τ) (f := f) h500 f1 haN R hcap w 3000 s (Nat.le_refl _) (by omega) hfw h.fr (by
      rw [show w - w = 0 by omega]
      exact h.stk.2)
    rw [show w - w = 0 by omega, Nat.zero_add] at e1
    refine ⟨s', csN f w 0 ++ R, ?_, e2, e3, hndN, hltN, fun x hx => ?_, fun P hP hP2 => ?_, ?_⟩
    · unfold L_X11_firstMissed_9
      rw [if_neg (by omega), r46, Option.bind_some, r41, Option.bind_some, if_neg g, r45, Option.bind_some, wrap_id (z := (w : Int) - 1) (by omega) (by omega), bnd_eq, wrap_id (z := ((R.length + 1 : Nat) : Int) + -1) (by omega) (by omega), show ((R.length + 1 : Nat) : Int) + -1 = (R.length : Int) by omega, e1, Option.bind_some, List.length_append, csN_len]
    · rcases List.mem_append.mp hx with q | q
      · rcases List.mem_cons.mp q with q | q
        · rw [q]
          rcases h.par a (List.mem_append_right _ List.mem_cons_self) with z | ⟨b, i, b1, b2, b3⟩
          · exact Or.inl z
          · exact Or.inr ⟨b, i, List.mem_cons_of_mem _ b1, b2, b3⟩
        · rcases h.par x (List.mem_append_left _ q) with z | ⟨b, i, b1, b2, b3⟩
          · exact Or.inl z
          · exact Or.inr ⟨b, i, List.mem_cons_of_mem _ b1, b2, b3⟩
      · rcases List.mem_append.mp q with q | q
        · obtain ⟨i, i1, i2⟩ := hC x q
          exact Or.inr ⟨a, i, List.mem_cons_self, by rw [← hw]; exact i1, by rw [i2]; exact (f3 i i1).2.2⟩
        · rcases h.par x (List.mem_append_right _ (List.mem_cons_of_mem _ q)) with z | ⟨b, i, b1, b2, b3⟩
          · exact Or.inl z
          · exact Or.inr ⟨b, i, List.mem_cons_of_mem _ b1, b2, b3⟩
    · obtain ⟨b, b1, b2⟩ := h.cov P hP hP2
      rcases List.mem_cons.mp b1 with q | q
      · rw [q] at b2
        obtain ⟨i, i1, i2⟩ := sfx_next hP b2 (fun z => g (c4.mpr (by rw [← z]; exact hP2)))
        rw [← hw] at i1
        refine ⟨f + i, List.mem_append_left _ (csN_mem.mpr ⟨i, Nat.zero_le _, by omega, rfl⟩), ?_⟩
        rw [(f3 i i1).2.2]
        exact i2
      · exact ⟨b, List.mem_append_right _ q, b2⟩
    · rw [List.pairwise_append]
      refine ⟨?_, hord.2, fun x hx y hy => ?_⟩
      · have hgen : ∀ (d i : Nat), i + d ≤ w → (csN f d i).Pairwise (fun a b => dv (rp (pf a)) (rp (pf b))) := by
          intro d
          induction d with
          | zero => intro i _; exact List.Pairwise.nil
          | succ d ih =>
            intro i hi
            refine List.pairwise_cons.mpr ⟨fun y hy => ?_, ih (i + 1) (by omega)⟩
            obtain ⟨j, j1, j2, j3⟩ := csN_mem.mp hy
            rw [j3, (f3 i (by omega)).2.2, (f3 j (by omega)).2.2]
            exact ⟨rp (pf a), i, j, [], [], rfl, rfl, by omega⟩
        exact hgen w 0 (by omega)
      · obtain ⟨i, i1, i2⟩ := hC x hx
        rw [i2, (f3 i i1).2.2]
        exact dv_app (hord.1 y hy)
theorem nil_sfx : ∀ P : Pth, [] ∈ sfx P
  | [] => List.mem_singleton.mpr rfl
  | q :: P => List.mem_cons_of_mem _ (nil_sfx P)
theorem search_l {τ : Sg} {m : Bool} {pf : Nat → Pth} {N : Nat} (hB : BI τ τ m pf N N) (hok : ∀ n, n < N → okAs (qry τ m (pf n)) ∧ wid τ (qry τ m (pf n)) ≤ 10) : ∀ (d fu : Nat) (D St : List Nat) (s : Sg), N ≤ D.length + d → d < fu → SrI τ s m pf N D St → ∃ s', (∀ r, ¬ r = 46 → s' r = τ r) ∧ ((∃ n : Nat, iter (fun a : (Int × Sg) => L_X11_firstMissed_9 a.1 a.2) fu ((St.length : Int), s) = some (.inr ((n : Int), s')) ∧ n < N ∧ FMs τ m (pf n)) ∨ (iter (fun a : (Int × Sg) => L_X11_firstMissed_9 a.1 a.2) fu ((St.length : Int), s) = some (.inl s') ∧ ∀ P, AP τ m P → ¬ (qry τ m P).1 = 2))
  | d, fu, D, [], s, hd, hfu, h => by
    obtain ⟨fu, rfl⟩ : ∃ z, fu = z + 1 := ⟨fu - 1, by omega⟩
    refine ⟨s, h.fr, Or.inr ⟨?_, fun P hP hP2 => ?_⟩⟩
    · rw [iter_r (b := .inl s) (by
        show L_X11_firstMissed_9 ((([] : List Nat).length : Nat) : Int) s = _
        unfold L_X11_firstMissed_9
        rw [if_pos (by show ((0 : Nat) : Int) ≤ 0; omega)])]
    · obtain ⟨a, a1, -⟩ := h.cov P hP hP2
      cases a1
  | 0, fu, D, a :: R, s, hd, hfu, h => by
    have := h.len
    rw [List.length_cons] at this
    omega
  | d + 1, fu, D, a :: R, s, hd, hfu, h => by
    obtain ⟨fu, rfl⟩ : ∃ z, fu = z + 1 := ⟨fu - 1, by omega⟩
    rcases search_s hB hok h with ⟨e1, e2, e3⟩ | ⟨s1, R', e1, e2⟩
    · exact ⟨s, h.fr, Or.inl ⟨a, iter_r e1, e2, e3⟩⟩
    · obtain ⟨s', g1, g2⟩ := search_l hB hok d fu (a :: D) R' s1 (by rw [List.length_cons]; omega) (by omega) e2
      refine ⟨s', g1, ?_⟩
      have e3 : iter (fun a : (Int × Sg) => L_X11_firstMissed_9 a.1 a.2) (fu + 1) (((a :: R).length : Int), s) = iter (fun a : (Int × Sg) => L_X11_firstMissed_9 a.1 a.2) fu ((R'.length : Int), s1) := iter_l e1
      rw [e3]
      exact g2
set_option maxHeartbeats 4000000 in
theorem firstMissed_m {τ : Sg} {m : Bool} {pf : Nat → Pth} {N : Nat} (hB : BI τ τ m pf N N) (hok : ∀ n, n < N → okAs (qry τ m (pf n)) ∧ wid τ (qry τ m (pf n)) ≤ 10) : ∃ s', (∀ r, ¬ r = 46 → s' r = τ r) ∧ ((∃ n : Nat, F_X11_firstMissed τ = some ((n : Int), s') ∧ n < N ∧ FMs τ m (pf n)) ∨ (F_X11_firstMissed τ = some (-1, s') ∧ ∀ P, AP τ m P → ¬ (qry τ m P).1 = 2)) := by
  have h500 := hB.n500
  have hpos := hB.pos
  have hI : SrI τ (up2 τ 46 0 0) m pf N [] [0] := by
    refine ⟨fun r hr => by funext i; rw [up2_row hr], ⟨up2_at rfl rfl, trivial⟩, by simp, fun a ha => ?_, fun a ha => ?_, fun P _ _ => ⟨0, List.mem_cons_self, by rw [hB.p0]; exact nil_sfx P⟩, List.pairwise_singleton _ _⟩
    · have : a = 0 := List.mem_singleton.mp ha
      omega
    · exact Or.inl (List.mem_singleton.mp ha)
  obtain ⟨s', g1, g2⟩ := search_l hB hok N 3000 [] [0] (up2 τ 46 0 0) (by show N ≤ 0 + N; omega) (by omega) hI
  refine ⟨s', g1, ?_⟩
  unfold F_X11_firstMissed
  rw [wrn_ok (by omega) (by omega), Option.bind_some]
  rcases g2 with ⟨n, n1, n2, n3⟩ | ⟨n1, n2⟩
  · have n1' : iter (fun a : (Int × Sg) => L_X11_firstMissed_9 a.1 a.2) 3000 (1, up2 τ 46 0 0) = some (.inr ((n : Int), s')) := n1
    refine Or.inl ⟨n, ?_, n2, n3⟩
    show (iter (fun a : (Int × Sg) => L_X11_firstMissed_9 a.1 a.2) 3000 (1, up2 τ 46 0 0)).bind _ = _
    rw [n1', Option.bind_some, Sum.elim_inr]
  · have n1' : iter (fun a : (Int × Sg) => L_X11_firstMissed_9 a.1 a.2) 3000 (1, up2 τ 46 0 0) = some (.inl s') := n1
    refine Or.inr ⟨?_, n2⟩
    show (iter (fun a : (Int × Sg) => L_X11_firstMissed_9 a.1 a.2) 3000 (1, up2 τ 46 0 0)).bind _ = _
    rw [n1', Option.bind_some, Sum.elim_inl]
