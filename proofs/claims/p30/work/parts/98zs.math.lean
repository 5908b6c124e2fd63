/-! the given program's tree: the root; grown whole -/
def s11 (σ : Sg) (t : Nat) : Sg := up2 (up2 (up2 (up2 (up2 (fillF (fillF (up2 σ 37 4 0) 38 469 (-1)) 39 469 0) t 5 0) t 6 (-1)) t 7 0) t 9 0) t 3 0
def b00 (σ : Sg) (t : Nat) : Sg := up2 (up2 (up2 (s11 σ t) t 4 1) (t + 4) 0 (-1)) (t + 5) 0 0
theorem b00_fr {σ : Sg} {t : Nat} (ht : 43 ≤ t) : FrG t σ (b00 σ t) := fun r r1 r2 => by
  funext i
  unfold b00 s11
  rw [up2_row (by omega), up2_row (by omega), up2_row (by omega), up2_row (by omega), up2_row (by omega), up2_row (by omega), up2_row (by omega), up2_row (by omega), fillF_row (by omega), fillF_row (by omega), up2_row (by omega)]
theorem b00_t {σ : Sg} {t i : Nat} (h : i = 2 ∨ i = 8) : b00 σ t t i = if t = 37 ∨ t = 38 ∨ t = 39 then b00 σ t t i else σ t i := by
  by_cases q : t = 37 ∨ t = 38 ∨ t = 39
  · rw [if_pos q]
  · rw [if_neg q]
    unfold b00 s11
    rw [up2_row (by omega), up2_row (by omega), up2_idx (by omega), up2_idx (by omega), up2_idx (by omega), up2_idx (by omega), up2_idx (by omega), up2_idx (by omega), fillF_row (by omega), fillF_row (by omega), up2_row (by omega)]
theorem b00_kn {σ : Sg} {t : Nat} (ht : 43 ≤ t) : KNo (b00 σ t) [] := by
  have hr : ∀ r i, r = 37 ∨ r = 38 ∨ r = 39 → b00 σ t r i = fillF (fillF (up2 σ 37 4 0) 38 469 (-1)) 39 469 0 r i := fun r i hr => by
    unfold b00 s11
    rw [up2_row (by omega), up2_row (by omega), up2_row (by omega), up2_row (by omega), up2_row (by omega), up2_row (by omega), up2_row (by omega), up2_row (by omega)]
  refine ⟨fun pl p1 p2 => ?_, fun pl p1 p2 => ?_, ?_, fun c hc => ?_⟩
  · rw [hr 38 _ (by omega), fillF_row (by omega), fillF_at (by omega)]; rfl
  · rw [hr 39 _ (by omega), fillF_at (by omega)]
    refine ⟨by omega, fun v v1 v2 => ?_⟩
    show nib 0 v = un9 (-9) + 1
    unfold nib un9
    simp
  · rw [hr 37 _ (by omega), fillF_row (by omega), fillF_row (by omega), up2_at rfl rfl]; omega
  · rw [hr 37 _ (by omega), fillF_row (by omega), fillF_row (by omega), up2_at rfl rfl]
    show (0 : Int).toNat.testBit c = false
    simp
set_option maxHeartbeats 4000000 in
theorem root_c {σ τ : Sg} {t : Nat} {m : Bool} (hG : CtxG σ τ) (ht : 43 ≤ t) (hZ : Z42 σ) (h2 : σ t 2 = mI m) (h4 : σ t 4 = 0) : ∃ σ' w S M, F_X7_plant t (-1) 0 (s11 σ t) = some (0, σ') ∧ FrG t σ σ' ∧ Z42 σ' ∧ σ' t 2 = mI m ∧ σ' t 6 = -1 ∧ σ' t 3 = 0 ∧ w ≤ 10 ∧ GC τ σ' t m (fun _ => []) S 1 w 0 M := by
  have hW := hG.2.1.2.1
  have hF := hG.1.2.2.2
  have hMm := hG.2.2.2.2.2.2.1
  have hWW := WFW_of hG.2.2.1
  have hap : AP τ m [] := trivial
  have hGb := (b00_fr (σ := σ) ht).ctx ht hG
  have hZb : Z42 (b00 σ t) := fun y y1 y2 => by
    unfold b00 s11
    rw [up2_row (by omega), up2_row (by omega), up2_row (by omega), up2_row (by omega), up2_row (by omega), up2_row (by omega), up2_row (by omega), up2_row (by omega), fillF_row (by omega), fillF_row (by omega), up2_row (by omega)]
    exact hZ y y1 y2
  have h2b : b00 σ t t 2 = mI m := by rw [b00_t (by omega), if_neg (by omega)]; exact h2
  obtain ⟨σ2, f1, f2, f3, f4⟩ := seek1 (x3 := (0 : Int)) (P := []) hGb trivial (b00_kn ht) hZb h2b ht
  have f4' : Nx σ2 (qry τ m []) := f4
  obtain ⟨A, hA⟩ : ∃ A, A = qry τ m [] := ⟨_, rfl⟩
  obtain ⟨qa1, qa2, qa3, qa4⟩ := qry_ok hW hF hMm hWW hap
  rw [← hA] at f4' qa1 qa2 qa3 qa4
  obtain ⟨w, hw⟩ : ∃ w, w = wid τ A := ⟨_, rfl⟩
  have h23 := hMm.2.1
  have hb : ∀ r i, ¬ (37 ≤ r ∧ r ≤ 42) → σ2 r i = b00 σ t r i := fun r i hr => by rw [f2.1 r (by omega) (by omega) (by omega) (by omega)]
  have hG2 : CtxG σ2 τ := hGb.fr (fun r hr => by funext i; exact hb r i (by omega))
  have b5 : b00 σ t t 5 = 0 := by
    unfold b00 s11
    rw [up2_row (by omega), up2_row (by omega), up2_idx (by omega), up2_idx (by omega), up2_idx (by omega), up2_idx (by omega), up2_idx (by omega), up2_at rfl rfl]
  have b7 : b00 σ t t 7 = 0 := by
    unfold b00 s11
    rw [up2_row (by omega), up2_row (by omega), up2_idx (by omega), up2_idx (by omega), up2_idx (by omega), up2_at rfl rfl]
  have b9 : b00 σ t t 9 = 0 := by
    unfold b00 s11
    rw [up2_row (by omega), up2_row (by omega), up2_idx (by omega), up2_idx (by omega), up2_at rfl rfl]
  have b6 : b00 σ t t 6 = -1 := by
    unfold b00 s11
    rw [up2_row (by omega), up2_row (by omega), up2_idx (by omega), up2_idx (by omega), up2_idx (by omega), up2_idx (by omega), up2_at rfl rfl]
  have b4 : b00 σ t t 4 = 1 := by
    unfold b00
    rw [up2_row (by omega), up2_row (by omega), up2_at rfl rfl]
  have bp : b00 σ t (t + 4) 0 = -1 := by
    unfold b00
    rw [up2_row (by omega), up2_at rfl rfl]
  have bm : b00 σ t (t + 5) 0 = 0 := by
    unfold b00
    rw [up2_at rfl rfl]
  have hk := keepN_c (t := t) (N := 0) (B := 0) (w := w) ht (by omega) f4' qa1 (by rw [hb t 5 (by omega), b5]; rfl) (by omega) (by rw [hw]; exact width_c hG2.1 hG2.2.2.1 f4' qa1 qa3) (by rw [hw]; exact qa2) (by rw [hb t 7 (by omega), b7]; omega)
  obtain ⟨σ', hσ'⟩ : ∃ σ', σ' = F_X7_keepNext t (0 : Nat) σ2 := ⟨_, rfl⟩
  rw [← hσ'] at hk
  obtain ⟨c1, c2, c3, c4, c5, c6, c7, c8⟩ := hk
  rw [hb t 7 (by omega), b7] at c5 c6
  rw [hb t 9 (by omega), b9] at c7
  have hgt : GT τ σ' t m (fun _ => []) (fun n => if n = 0 then 0 else w) 1 w := by
    refine ⟨?_, ?_, by omega, by omega, rfl, fun n _ => trivial, fun n hn => ?_, rfl, fun n hn => ?_, rfl, fun n hn => ?_, ?_, fun n n0 hn => by omega, ?_, fun n hn _ _ => ?_, ?_, fun c hc => ?_, fun a b hab hb => by omega⟩
    · rw [c8 t 4 (by omega) (by omega), hb t 4 (by omega), b4]; rfl
    · rw [c3, Nat.zero_add]
    · rw [show n = 0 by omega, ← hA]; exact c1
    · rw [show n = 0 by omega, ← hA]
      show w = 0 + wid τ A
      omega
    · rw [show n = 0 by omega]; exact c2
    · rw [c8 (t + 4) 0 (by omega) (by omega), hb (t + 4) 0 (by omega), bp]
    · rw [c5, cl_s, ← hA]
      by_cases g : A.1 = 2
      · rw [if_pos g, if_pos (by rw [decide_eq_true g])]; rfl
      · rw [if_neg g, if_neg (by rw [decide_eq_false g]; decide)]; rfl
    · rename_i q1 q2
      rw [← hA] at q1
      rw [c6, if_pos ⟨q1, rfl⟩, show n = 0 by omega]
    · rw [c7]
      by_cases g : A.1 = 0 ∨ A.1 = 1
      · obtain ⟨d1, d2⟩ := qa4 (Or.inr g)
        have e := bit_s ⟨A.2.1.toNat, by omega⟩ ⟨0, by omega⟩
        obtain ⟨e1, e2⟩ := bit_m2 ⟨A.2.1.toNat, by omega⟩ ⟨0, by omega⟩
        simp only at e e1
        rw [show ((A.2.1.toNat : Nat) : Int) = A.2.1 by omega] at e
        have e' : jor 0 (jshl 1 A.2.1) = ((0 ||| 2 ^ A.2.1.toNat : Nat) : Int) := e
        rw [if_pos g, e']
        omega
      · rw [if_neg g]; omega
    · have hiff : (∃ n : Nat, n < 1 ∧ ((qry τ m []).1 = 0 ∨ (qry τ m []).1 = 1) ∧ (qry τ m []).2.1 = (c : Int)) ↔ (A.1 = 0 ∨ A.1 = 1) ∧ A.2.1 = (c : Int) := by
        rw [← hA]
        constructor
        · rintro ⟨n, -, n2, n3⟩
          exact ⟨n2, n3⟩
        · rintro ⟨n2, n3⟩
          exact ⟨0, by omega, n2, n3⟩
      show (σ' t 9).toNat.testBit c = true ↔ ∃ n : Nat, n < 1 ∧ ((qry τ m []).1 = 0 ∨ (qry τ m []).1 = 1) ∧ (qry τ m []).2.1 = (c : Int)
      rw [hiff, c7]
      by_cases g : A.1 = 0 ∨ A.1 = 1
      · obtain ⟨d1, d2⟩ := qa4 (Or.inr g)
        have e := bit_s ⟨A.2.1.toNat, by omega⟩ ⟨0, by omega⟩
        obtain ⟨e1, e2⟩ := bit_m2 ⟨A.2.1.toNat, by omega⟩ ⟨0, by omega⟩
        simp only at e e1 e2
        rw [show ((A.2.1.toNat : Nat) : Int) = A.2.1 by omega] at e
        have e' : jor 0 (jshl 1 A.2.1) = ((0 ||| 2 ^ A.2.1.toNat : Nat) : Int) := e
        have e3 := e2 ⟨c, hc⟩
        simp only [Fin.mk.injEq] at e3
        rw [if_pos g, e', Int.toNat_natCast, e3, Nat.zero_testBit, Bool.false_or, decide_eq_true_eq]
        exact ⟨fun z => ⟨g, by omega⟩, fun z => by have := z.2; omega⟩
      · rw [if_neg g]
        constructor
        · intro z; simp at z
        · rintro ⟨z, -⟩; exact absurd z g
  refine ⟨σ', w, _, fun _ => 0, ?_, ?_, ?_, ?_, ?_, ?_, by rw [hw]; exact qa2, hgt, by omega, fun n hn => ⟨?_, Nat.zero_le _⟩, fun n i hn hi => absurd hi (Nat.not_lt_zero i), fun n hn hoff => absurd (sfx_self _) hoff, fun n i hn hin => ?_, fun n hn => ?_, ?_⟩
  · have e1 : wrD (wrD (up2 (s11 σ t) t 4 1) (t + 4) 500 0 (-1)) (t + 5) 500 0 0 = b00 σ t := by
      rw [wrD_ok (by omega) (by omega), wrD_ok (by omega) (by omega)]; rfl
    have e2 : s11 σ t t 4 = 0 := by
      unfold s11
      rw [up2_idx (by omega), up2_idx (by omega), up2_idx (by omega), up2_idx (by omega), up2_idx (by omega), fillF_row (by omega), fillF_row (by omega), up2_row (by omega), h4]
    unfold F_X7_plant B_X7_plant_53
    rw [e2, wrap_id (z := (0 : Int) + 1) (by omega) (by omega), show (0 : Int) + 1 = 1 by omega, bnd_eq, bnd_eq, bnd_eq, bnd_eq, if_pos rfl, if_pos rfl, e1, f1]
    unfold B_X7_plant_115
    rw [bnd_eq, hσ']; rfl
  · intro r r1 r2
    rw [← b00_fr (σ := σ) ht r r1 r2]; funext i
    rw [c8 r i (by omega) (by omega), hb r i r1]
  · intro y y1 y2
    rw [c8 42 _ (by omega) (by omega)]; exact f3 y y1 y2
  · rw [c8 t 2 (by omega) (by omega), hb t 2 (by omega)]; exact h2b
  · rw [c8 t 6 (by omega) (by omega), hb t 6 (by omega)]; exact b6
  · rw [c4, if_pos (by rw [hw]; omega)]
  · rw [c8 (t + 5) n (by omega) (by omega), hb (t + 5) n (by omega), show n = 0 by omega, bm]; rfl
  · exact absurd (List.mem_singleton.mp hin) (by intro q; cases q)
  · exact lx_app [] 0 []
  · rw [if_pos rfl]
    obtain ⟨a, b, c, d⟩ := b00_kn (σ := σ) ht
    refine ⟨fun pl q1 q2 => ?_, b.congr ?_, ?_, ?_⟩
    · rw [c8 38 _ (by omega) (by omega), f2.1 38 (by omega) (by omega) (by omega) (by omega)]; exact a pl q1 q2
    · funext i; rw [c8 39 _ (by omega) (by omega), f2.1 39 (by omega) (by omega) (by omega) (by omega)]
    · rw [c8 37 _ (by omega) (by omega), f2.2 4 (by omega) (by omega) (by omega) (by omega)]; exact c
    · rw [c8 37 _ (by omega) (by omega), f2.2 4 (by omega) (by omega) (by omega) (by omega)]; exact d
/-- the tree stands, or is too large -/
def CTree (τ σ : Sg) (t : Nat) (m : Bool) : Prop := (σ t 3 = 0 ∧ ∃ pf S N B, B + 1 ≤ 500 ∧ GD τ σ t m pf S N B) ∨ (σ t 3 = 1 ∧ Large τ m)
set_option maxHeartbeats 4000000 in
theorem grow_c {σ τ : Sg} {t : Nat} {m : Bool} (hG : CtxG σ τ) (ht : 43 ≤ t) (hZ : Z42 σ) (h2 : σ t 2 = mI m) (h4 : σ t 4 = 0 ∨ (0 < σ t 4 ∧ CTree τ σ t m)) : ∃ σ', F_X7_grow t σ = some (decide (σ' t 3 = 0), σ') ∧ FrG t σ σ' ∧ Z42 σ' ∧ σ' t 2 = mI m ∧ 0 < σ' t 4 ∧ CTree τ σ' t m ∧ (σ' = σ ∨ σ' t 6 = -1) := by
  rcases h4 with h4 | ⟨h4, hT⟩
  · obtain ⟨σ1, w, S, M, r1, r2, r3, r4, r5, r6, r7, r8⟩ := root_c hG ht hZ h2 h4
    obtain ⟨σ', g1, g2, g3, g4, g5, g6, g7⟩ := grow_l hG ht 999 0 1001 σ1 (fun _ => []) S 1 w 0 M (by omega) (by show 0 + 2 + 0 = 2 * 1; omega) (by omega) r2 r3 r4 r5 r6 (by omega) r8
    have g1' : iter (fun a : (Int × Int × Sg) => L_X7_grow_61 t a.1 a.2.1 a.2.2) 1001 (0, 0, σ1) = some σ' := g1
    refine ⟨σ', ?_, g2, g3, g4, g6, g7, Or.inr g5⟩
    have e : s11 σ t = up2 (up2 (up2 (up2 (up2 (F_X3_clear σ) t 5 0) t 6 (-1)) t 7 0) t 9 0) t 3 0 := by
      unfold F_X3_clear
      rw [bnd_eq, bnd_eq, bnd_eq]; rfl
    unfold F_X7_grow
    rw [if_pos (by omega), bnd_eq, bnd_eq, bnd_eq, bnd_eq, bnd_eq, bnd_eq, ← e, r1, Option.bind_some]
    dsimp only
    rw [g1', Option.bind_some]
    by_cases z : σ' t 3 = 0
    · rw [if_pos z, decide_eq_true z]
    · rw [if_neg z, decide_eq_false z]
  · refine ⟨σ, ?_, FrG.rfl', hZ, h2, h4, hT, Or.inl rfl⟩
    unfold F_X7_grow
    rw [if_neg (by omega)]
    by_cases z : σ t 3 = 0
    · rw [if_pos z, decide_eq_true z]
    · rw [if_neg z, decide_eq_false z]
/-- the branch of a node leads to a node -/
theorem GD.ch {τ σ : Sg} {t : Nat} {m : Bool} {pf : Nat → Pth} {S : Nat → Nat} {N B n i : Nat} (h : GD τ σ t m pf S N B) (hn : n < N) (hi : i < wid τ (qry τ m (pf n))) : ∃ c : Nat, n < c ∧ c < N ∧ σ (t + 3) (S n + i) = c ∧ pf c = (qry τ m (pf n), i) :: pf n := by
  obtain ⟨c, c1, c2, c3⟩ := h.2 n i hn hi
  obtain ⟨a, j, a1, a2, a3, a4, a5⟩ := h.1.par c c1 c2
  rw [c3] at a4
  injection a4 with e1 e2
  have := h.1.inj hn (by omega) e2
  subst this
  injection e1 with e3 e4
  subst e4
  exact ⟨c, a1, c2, a5, c3⟩
theorem GD.tree {τ σ : Sg} {t : Nat} {m : Bool} {pf : Nat → Pth} {S : Nat → Nat} {N B : Nat} (h : GD τ σ t m pf S N B) : TreeOK τ m N (fun n => qry τ m (pf n)) (fun n i => (σ (t + 3) (S n + i)).toNat) pf := by
  refine ⟨h.1.pos, h.1.p0, h.1.ap, fun n _ => rfl, fun n i hn hi => ?_, fun k k0 hk => ?_⟩
  · obtain ⟨c, c1, c2, c3, c4⟩ := h.ch hn hi
    dsimp only
    rw [c3, Int.toNat_natCast]
    exact ⟨by omega, c2, c4⟩
  · obtain ⟨a, j, a1, a2, a3, a4, a5⟩ := h.1.par k k0 hk
    exact ⟨a, j, by omega, a2, by dsimp only; rw [a5, Int.toNat_natCast]⟩
