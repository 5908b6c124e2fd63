/-! the automaton's steps: patterns -/
theorem isIn_R {σ τ : Sg} {p : Nat} {f : Int} (h : RP σ τ) (hp : (p : Int) < τ 0 9) (hf : 0 ≤ f) (h3 : τ 8 p = 6 → f ≤ 3) (hd : τ 8 p = 2 ∨ τ 8 p = 3 ∨ τ 8 p = 6) : F_X10_isIn f (lowOf τ p) (highOf τ p) = isR τ p f := by
  have h1 := accepts_c h hp hf h3 hd
  obtain ⟨r1, hW, r3, r4⟩ := id h
  have w2 := hW.2.1
  obtain ⟨q1, q2, q3, q4, -⟩ := r3 p hp
  unfold F_X5_accepts at h1
  rw [rdD_ok (by omega) (by omega), rdD_ok (by omega) (by omega), show ((p : Int)).toNat = p by omega, q3, q4] at h1
  unfold F_X10_isIn
  exact h1
theorem pc_list {τ : Sg} {p M : Nat} (hW : WFP τ) (hF : WFK (τ 1) (τ 2) (τ 3)) (hp : (p : Int) < τ 0 9) (hM : pcOf τ p = M) (c : τ 8 p = 6) : τ 9 p = M := by
  obtain ⟨h0, h3, h⟩ := pc_spec hW hF hp
  obtain ⟨a1, a2, a3, a4, a5, a6⟩ := hW.g6 hp c
  have b0 := h 0 (by omega)
  have b1 := h 1 (by omega)
  have b2 := (h 2 (by omega)).mp a5
  have d0 := a6 0 (by omega)
  have d1 := a6 1 (by omega)
  have e0 : τ 9 p ≤ ((0 : Nat) : Int) ↔ (M : Int) ≤ ((0 : Nat) : Int) := by
    rw [← hM, ← b0]
    constructor
    · exact d0.2
    · intro q; exact Classical.byContradiction fun z => by have := (d0.1 (by omega)).1; omega
  have e1 : τ 9 p ≤ ((1 : Nat) : Int) ↔ (M : Int) ≤ ((1 : Nat) : Int) := by
    rw [← hM, ← b1]
    constructor
    · exact d1.2
    · intro q; exact Classical.byContradiction fun z => by have := (d1.1 (by omega)).1; omega
  omega
def ExP (τ σ0 : Sg) (N n : Nat) : Prop := ∀ (p dp : Nat) (pl : Int) (a b k : Nat) (L : List Nat) (f : Nat) (x : XS) (σ : Sg), sgP τ σ0 n p dp a b L → (∀ y ∈ L, σ0 35 y = (f : Int)) → b ≤ f → f < N → okP τ (hdR τ) p pl → 1 ≤ pl → τ 14 p ≤ n → (dp : Int) + τ 13 p ≤ 4 → σ 36 dp = pl → PX τ σ0 x σ → Fk τ σ pl → k ≤ a → ∃ (r : Bool) (j : Nat) (σ' : Sg), Rch AF j ((a : Int), (k : Int), σ) (((if r = true then b else f : Nat) : Int), ((k + j : Nat) : Int), σ') ∧ k + j ≤ (if r = true then b else f) ∧ (mt τ (envR τ) n p pl x).1 = .inl r ∧ PX τ σ0 (mt τ (envR τ) n p pl x).2 σ' ∧ Fmono τ σ σ' ∧ ∀ i, i ≤ dp → σ' 36 i = σ 36 i
set_option maxHeartbeats 4000000 in
theorem exL {σ0 τ : Sg} (hC : CtxC σ0 τ) {N n : Nat} (hN : σ0 33 4 = N) (h19 : N ≤ 1969) (ih : ExP τ σ0 N n) {p dp M : Nat} {pl : Int} (ho : okP τ (hdR τ) p pl) (hpl : 1 ≤ pl) (hn : τ 14 p ≤ n + 1) (hdp : (dp : Int) + τ 13 p ≤ 4) (hM : pcOf τ p = M) (c0 : ¬ τ 8 p = 0) (c1 : ¬ τ 8 p = 1) (c4 : ¬ τ 8 p = 4) (c5 : ¬ τ 8 p = 5) (hok : ¬ hdR τ pl = -9) (h36 : τ 8 p = 6 → hdR τ pl ≤ 3) (cr : isR τ p (hdR τ pl) = true) {σ2 : Sg} (hop : ∀ i : Int, 0 ≤ i → i ≤ 2 → vR τ (5 * pl + i + 1) → Fk τ σ2 (5 * pl + i + 1)) (hf2 : Fk τ σ2 pl) {f : Nat} (hfN : f < N) : ∀ (d k a b kk : Nat) (L : List Nat) (x : XS) (σ : Sg), sgL (fun k => sgP τ σ0 n (prt τ p k).toNat (dp + 1)) σ0 (cPart τ p dp) d k a b L → k + d = M → (∀ y ∈ L, σ0 35 y = (f : Int)) → b ≤ f → PX τ σ0 x σ → Fmono τ σ2 σ → σ 36 dp = pl → kk ≤ a → ∃ (r : Bool) (j : Nat) (σ' : Sg), Rch AF j ((a : Int), (kk : Int), σ) (((if r = true then b else f : Nat) : Int), ((kk + j : Nat) : Int), σ') ∧ kk + j ≤ (if r = true then b else f) ∧ (seqM (mt τ (envR τ) n) (runL (itm τ p pl (hdR τ pl)) d k) x).1 = .inl r ∧ PX τ σ0 (seqM (mt τ (envR τ) n) (runL (itm τ p pl (hdR τ pl)) d k) x).2 σ' ∧ Fmono τ σ σ' ∧ ∀ i, i ≤ dp → σ' 36 i = σ 36 i
  | 0, k, a, b, kk, L, x, σ, h, hk, hL, hbf, hx, hm, hw, hkk => by
    refine ⟨true, 0, σ, ?_, ?_, rfl, hx, Fmono.rfl', fun _ _ => rfl⟩
    · rw [if_pos rfl, h.1]; exact Rch.nil
    · rw [if_pos rfl, h.1]; omega
  | d + 1, k, a, b, kk, L, x, σ, h, hk, hL, hbf, hx, hm, hw, hkk => by
    obtain ⟨hK, hV0, hP0, hW0, hM0, hG⟩ := id hC
    have hF := hK.2.2.2
    have hW := hP0.2.1
    have hMM := hM0.2.2.2.1
    have hH := hC.hok
    have hp := ho.1
    have hvr := ho.vR hpl
    have hform := hW.form hp
    obtain ⟨h0, h3, hpc⟩ := pc_spec hW hF hp
    have k3 : k < 3 := by omega
    have kn : ¬ prt τ p k = -1 := fun q => by have := (hpc k k3).mp q; omega
    have hb := hW.pb hp k3
    obtain ⟨-, -, hsz⟩ := sz_part hW hp k3 kn
    have hd := dp_part hW hp k3 kn
    rw [if_neg (show ¬ (τ 8 p = 1 ∨ τ 8 p = 4 ∨ τ 8 p = 5) by omega)] at hd
    have hd13 := dp_pos hW (prt τ p k).toNat (by omega)
    have hsk := skip_b hW hp h36 cr k3 kn
    obtain ⟨s1, m, L1, L2, s2, s3, s4⟩ := h
    have i2 := sgP_ok s2
    have i3 := sgL_ok (fun k a b L q => sgP_ok q) s3
    have l2 := i2.1
    have l3 := i3.1
    have hvr2 := hvr.2.1
    have hmem : itm τ p pl (hdR τ pl) k ∈ partsL τ p pl (hdR τ pl) := by
      rw [partsL_run hW hF hp hM]
      exact runL_mem (by omega) (by omega)
    have hok2 := ho.parts hW hF hH c0 c1 c4 c5 hpl hok cr _ hmem
    have e2i : (itm τ p pl (hdR τ pl) k).2 = 5 * pl + (skipE τ p (hdR τ pl) + k) + 1 := by unfold itm; dsimp only; omega
    have hvc := hok2.vR (by rw [e2i]; omega)
    have hfk := hm _ hvc (by rw [e2i]; exact hop _ (by omega) (by omega) (by rw [← e2i]; exact hvc))
    -- the way to the part
    have hpl36 : rdD (-1) σ 36 5 dp = pl := by rw [rdD_ok (by omega) (by omega), show ((dp : Int)).toNat = dp by omega]; exact hw
    have hfol : ∃ op : Nat, F_X0_operationIn a σ = (op : Int) ∧ (¬ op = 9 ∧ ¬ op = 10 ∧ ¬ op = 11) ∧ F_X0_follow a σ = some (true, up2 σ 36 (dp + 1) (itm τ p pl (hdR τ pl) k).2) := by
      unfold cPart at s1
      by_cases c7 : sortOf τ p = 7
      · rw [if_pos c7] at s1
        have c67 : τ 8 p = 6 ∧ τ 10 p = 2 := by unfold sortOf at c7; split at c7 <;> omega
        have h9M := pc_list hW hF hp hM c67.1
        obtain ⟨o1, o2, o3, o4⟩ := code_c hx.1.1 s1 (by omega) (by omega) (by omega) (by omega) (by omega)
        refine ⟨3, o1, by omega, ?_⟩
        have hh := headAt_k hF (hC.rv hx.1.1) hMM hG hvr (hm pl hvr hf2)
        unfold F_X0_follow
        rw [bnd_eq, bnd_eq, bnd_eq, o1, o2, o4, if_neg (by decide), if_neg (by decide), if_neg (by decide), if_pos (by decide), hpl36, hh]
        clear o1 o2 o3 o4 hh hpl36
        have hske : skipE τ p (hdR τ pl) = hdR τ pl - τ 9 p := by unfold skipE; rw [if_pos c67]
        have hH := (hH pl hpl hvr2 hvr.2.2 hok).1
        have h33 := h36 c67.1
        rw [wrap_id (z := (dp : Int) + 1) (by omega) (by omega), wrap_id (by omega) (by omega), inner_c ⟨by omega, hvr2⟩ ⟨by omega, by omega⟩, wrD_ok (by omega) (by omega), bnd_eq, e2i, show ((dp : Int) + 1).toNat = dp + 1 by omega, show 5 * pl + (hdR τ pl - (((pcOf τ p).toNat - k : Nat) : Int)) + 1 = 5 * pl + (skipE τ p (hdR τ pl) + k) + 1 by omega]
      · rw [if_neg c7] at s1
        obtain ⟨o1, o2, o3, o4⟩ := code_c hx.1.1 s1 (by omega) (by omega) (by omega) (by omega) (by omega)
        refine ⟨2, o1, by omega, ?_⟩
        unfold F_X0_follow
        rw [bnd_eq, bnd_eq, bnd_eq, o1, o2, o4, if_neg (by decide), if_neg (by decide), if_pos (by decide), hpl36]
        clear o1 o2 o3 o4 hpl36
        have hske : skipE τ p (hdR τ pl) = 0 := by unfold skipE; rw [if_neg (fun q => c7 (by unfold sortOf; rw [if_pos q]))]
        rw [wrap_id (z := (dp : Int) + 1) (by omega) (by omega), inner_c ⟨by omega, hvr2⟩ ⟨by omega, by omega⟩, wrD_ok (by omega) (by omega), bnd_eq, e2i, hske, show ((dp : Int) + 1).toNat = dp + 1 by omega, show 5 * pl + (0 + (k : Int)) + 1 = 5 * pl + k + 1 by omega]
    obtain ⟨op, o1, o2, o3⟩ := hfol
    obtain ⟨x1, x2⟩ := hx.up2w (r := 36) (i := dp + 1) (v := (itm τ p pl (hdR τ pl) k).2) (Or.inl rfl)
    have hst := af_step (k := kk) (op := op) hx.1.1 x1.1.1 hN (by omega) (by omega) h19 o1 o2 o3
    clear o1 o3 hpl36
    rw [if_pos rfl] at hst
    have w1 : up2 σ 36 (dp + 1) (itm τ p pl (hdR τ pl) k).2 36 (dp + 1) = (itm τ p pl (hdR τ pl) k).2 := up2_at rfl rfl
    have w2 : ∀ i, i ≤ dp → up2 σ 36 (dp + 1) (itm τ p pl (hdR τ pl) k).2 36 i = σ 36 i := fun i hi => up2_idx (by omega)
    generalize up2 σ 36 (dp + 1) (itm τ p pl (hdR τ pl) k).2 = σ1 at *
    obtain ⟨r, j, σ3, t1, t2, t3, t4, t5, t6⟩ := ih (prt τ p k).toNat (dp + 1) (itm τ p pl (hdR τ pl) k).2 (a + 1) m (kk + 1) L1 f x σ1 s2 (fun y hy => hL y (by rw [s4]; exact List.mem_append.mpr (Or.inr hy))) (by omega) hfN hok2 (by rw [e2i]; omega) (by omega) (by omega) w1 x1 (x2 _ hvc hfk) (by omega)
    have t3' : (mt τ (envR τ) n (itm τ p pl (hdR τ pl) k).1 (itm τ p pl (hdR τ pl) k).2 x).1 = .inl r := t3
    have t4' : PX τ σ0 (mt τ (envR τ) n (itm τ p pl (hdR τ pl) k).1 (itm τ p pl (hdR τ pl) k).2 x).2 σ3 := t4
    unfold runL seqM
    cases r with
    | true =>
      rw [if_pos rfl] at t1 t2
      rw [if_pos t3']
      obtain ⟨r', j', σ4, u1, u2, u3, u4, u5, u6⟩ := exL hC hN h19 ih ho hpl hn hdp hM c0 c1 c4 c5 hok h36 cr hop hf2 hfN d (k + 1) m b (kk + 1 + j) L2 _ σ3 s3 (by omega) (fun y hy => hL y (by rw [s4]; exact List.mem_append.mpr (Or.inl hy))) hbf t4' ((hm.trans x2).trans t5) (by rw [t6 dp (by omega), w2 dp (Nat.le_refl _)]; exact hw) t2
      refine ⟨r', 1 + (j + j'), σ4, ?_, ?_, u3, u4, (x2.trans t5).trans u5, fun i hi => by rw [u6 i hi, t6 i (by omega), w2 i hi]⟩
      · have := (Rch.one hst).trans (t1.trans u1)
        rw [show kk + (1 + (j + j')) = kk + 1 + j + j' by omega]
        exact this
      · rw [show kk + (1 + (j + j')) = kk + 1 + j + j' by omega]; exact u2
    | false =>
      rw [if_neg (by simp)] at t1 t2
      rw [if_neg (by rw [t3']; simp)]
      refine ⟨false, 1 + j, σ3, ?_, ?_, t3', t4', x2.trans t5, fun i hi => by rw [t6 i (by omega), w2 i hi]⟩
      · have := (Rch.one hst).trans t1
        rw [if_neg (by simp), show kk + (1 + j) = kk + 1 + j by omega]
        exact this
      · rw [if_neg (by simp)]; omega
set_option maxHeartbeats 4000000 in
theorem exP {σ0 τ : Sg} (hC : CtxC σ0 τ) {N : Nat} (hN : σ0 33 4 = N) (h19 : N ≤ 1969) : ∀ n, ExP τ σ0 N n
  | 0 => fun p dp pl a b k L f x σ h _ _ _ _ _ _ _ _ _ _ _ => h.elim
  | n + 1 => fun p dp pl a b k L f x σ h hL hbf hfN ho hpl hn hdp hw hx hf hk => by
    have ih := exP hC hN h19 n
    obtain ⟨hK, hV0, hP0, hW0, hM0, hG⟩ := id hC
    have hF := hK.2.2.2
    have hW := hP0.2.1
    have hMM := hM0.2.2.2.1
    have hH := hC.hok
    have hp := ho.1
    have hge := hW.ge hp
    have hform := hW.form hp
    have hvr := ho.vR hpl
    have hd13 := dp_pos hW p hp
    have hokS := sgP_ok h
    have hpl36 : rdD (-1) σ 36 5 dp = pl := by rw [rdD_ok (by omega) (by omega), show ((dp : Int)).toNat = dp by omega]; exact hw
    unfold sgP at h
    show ∃ (r : Bool) (j : Nat) (σ' : Sg), _ ∧ _ ∧ (mtG τ (envR τ) (mt τ (envR τ) n) p pl x).1 = .inl r ∧ PX τ σ0 (mtG τ (envR τ) (mt τ (envR τ) n) p pl x).2 σ' ∧ Fmono τ σ σ' ∧ ∀ i, i ≤ dp → σ' 36 i = σ 36 i
    unfold mtG
    by_cases c0 : τ 8 p = 0
    · rw [if_pos c0] at h ⊢
      refine ⟨true, 0, σ, ?_, ?_, rfl, hx, Fmono.rfl', fun _ _ => rfl⟩
      · rw [if_pos rfl, h.1]; exact Rch.nil
      · rw [if_pos rfl]; omega
    rw [if_neg c0] at h ⊢
    by_cases c1 : τ 8 p = 1
    · rw [if_pos c1] at h ⊢
      obtain ⟨g1, g2, -⟩ := hW.g1 hp c1
      have hb := hW.pb hp (k := 0) (by omega)
      obtain ⟨-, -, hsz⟩ := sz_part hW hp (k := 0) (by omega) (by omega)
      have hd := dp_part hW hp (k := 0) (by omega) (by omega)
      rw [if_pos (Or.inl c1)] at hd
      obtain ⟨s1, s2⟩ := h
      have i2 := sgP_ok s2
      have l2 := i2.1
      obtain ⟨y1, y2⟩ := bind_cl (pl := pl) hx g1 hvr hf
      have hfm : Fmono τ σ (F_X1_bind (τ 9 p) pl σ) := Fmono.row (by rw [y2]; funext j; rw [up2_row (by omega)])
      have hw2 : ∀ i, F_X1_bind (τ 9 p) pl σ 36 i = σ 36 i := fun i => by rw [y2, up2_row (by omega)]
      obtain ⟨o1, o2, o3, o4⟩ := code_c (op := 4) hx.1.1 s1 (by omega) (by omega) (by omega) (by omega) (by omega)
      have hfl : F_X0_follow a σ = some (true, F_X1_bind (τ 9 p) pl σ) := by
        unfold F_X0_follow
        rw [bnd_eq, bnd_eq, bnd_eq, o1, o2, o4, if_neg (by decide), if_neg (by decide), if_neg (by decide), if_neg (by decide), if_pos (by decide), hpl36, show (((τ 9 p).toNat : Nat) : Int) = τ 9 p by omega, bnd_eq]
      have hst := af_step (k := k) (op := 4) hx.1.1 y1.1.1 hN (by omega) (by omega) h19 o1 (by omega) hfl
      clear o1 o2 o3 o4 hfl hpl36 y2
      rw [if_pos rfl] at hst
      generalize F_X1_bind (τ 9 p) pl σ = σ1 at *
      obtain ⟨r, j, σ2, t1, t2, t3, t4, t5, t6⟩ := ih (prt τ p 0).toNat dp pl (a + 1) b (k + 1) L f _ σ1 s2 hL hbf hfN (ho.name hW c1) hpl (by omega) (by omega) (by rw [hw2]; exact hw) y1 (hfm pl hvr hf) (by omega)
      refine ⟨r, 1 + j, σ2, ?_, ?_, t3, t4, hfm.trans t5, fun i hi => by rw [t6 i hi, hw2]⟩
      · have := (Rch.one hst).trans t1
        rw [show k + (1 + j) = k + 1 + j by omega]
        exact this
      · rw [show k + (1 + j) = k + 1 + j by omega]; exact t2
    rw [if_neg c1] at h ⊢
    by_cases c4 : τ 8 p = 4
    · rw [if_pos c4] at h ⊢
      obtain ⟨g0, g1, -⟩ := hW.g4 hp c4
      have b0 := hW.pb hp (k := 0) (by omega)
      have b1 := hW.pb hp (k := 1) (by omega)
      obtain ⟨-, -, z0⟩ := sz_part hW hp (k := 0) (by omega) (by omega)
      obtain ⟨-, -, z1⟩ := sz_part hW hp (k := 1) (by omega) (by omega)
      have hd0 := dp_part hW hp (k := 0) (by omega) (by omega)
      have hd1 := dp_part hW hp (k := 1) (by omega) (by omega)
      rw [if_pos (Or.inr (Or.inl c4))] at hd0 hd1
      obtain ⟨q, L0, s1, s2, s3, s4, s5⟩ := h
      have i1 := sgP_ok s1
      have i5 := sgP_ok s5
      have l1 := i1.1
      have l5 := i5.1
      clear hpl36
      obtain ⟨r, j, σ1, e1, e2, e3, e4, e5, e6⟩ := ih (prt τ p 0).toNat dp pl a q k L0 (q + 1) x σ s1 (fun y hy => by rw [s2 y hy]; omega) (by omega) (by omega) (ho.alt hW c4 (k := 0) (by omega)) hpl (by omega) (by omega) hw hx hf hk
      cases r with
      | true =>
        rw [if_pos rfl] at e1 e2
        obtain ⟨o1, o2, o3, o4⟩ := code_c (op := 8) (d := 0) (u := 0) (v := 0) e4.1.1 s3 (by omega) (by omega) (by omega) (by omega) (by omega)
        have hfl : F_X0_follow q σ1 = some (false, σ1) := by
          unfold F_X0_follow
          rw [bnd_eq, bnd_eq, bnd_eq, o1]
          rfl
        have hst := af_step (k := k + j) (op := 8) e4.1.1 e4.1.1 hN (by omega) (by omega) h19 o1 (by omega) hfl
        rw [if_neg (by simp), s4] at hst
        rw [if_neg (by rw [e3]; simp)]
        refine ⟨true, j + 1, σ1, ?_, ?_, e3, e4, e5, e6⟩
        · rw [if_pos rfl]
          have := e1.snoc hst
          exact this
        · rw [if_pos rfl]; omega
      | false =>
        rw [if_neg (by simp)] at e1 e2
        rw [if_pos e3]
        obtain ⟨r', j', σ2, t1, t2, t3, t4, t5, t6⟩ := ih (prt τ p 1).toNat dp pl (q + 1) b (k + j) L f _ σ1 s5 hL hbf hfN (ho.alt hW c4 (k := 1) (by omega)) hpl (by omega) (by omega) (by rw [e6 dp (Nat.le_refl _)]; exact hw) e4 (e5 pl hvr hf) e2
        refine ⟨r', j + j', σ2, ?_, by rw [← Nat.add_assoc]; exact t2, t3, t4, e5.trans t5, fun i hi => by rw [t6 i hi, e6 i hi]⟩
        rw [← Nat.add_assoc]
        exact e1.trans t1
    rw [if_neg c4] at h ⊢
    by_cases c5 : τ 8 p = 5
    · rw [if_pos c5] at h ⊢
      obtain ⟨g1, g2, g3, g4, g5, g6, g7⟩ := hW.g5 hp c5
      have b0 := hW.pb hp (k := 0) (by omega)
      obtain ⟨-, -, z0⟩ := sz_part hW hp (k := 0) (by omega) (by omega)
      obtain ⟨s1, s2⟩ := h
      have i2 := sgN_ok s2
      have l2 := i2.1
      obtain ⟨σ1, y1, y2, y3, y4, y5, y6⟩ := look_cl (v := τ 9 p) hF (hC.rv hx.1.1) hMM hG (hC.rw hx.1.1) hH hx.1 hx.2.1 g1 hvr hf
      have hgx : (gvR τ (τ 9 p) pl x).2.1 = x.1 := by unfold gvR; split <;> rfl
      obtain ⟨o1, o2, o3, o4⟩ := code_c (op := 6) hx.1.1 s1 (by omega) (by omega) (by omega) (by omega) (by omega)
      have hfl : F_X0_follow a σ = some (true, up2 σ1 33 5 (gvR τ (τ 9 p) pl x).1) := by
        unfold F_X0_follow
        rw [bnd_eq, bnd_eq, bnd_eq, o1, o2, o4, if_neg (by decide), if_neg (by decide), if_neg (by decide), if_neg (by decide), if_neg (by decide), if_neg (by decide), if_pos (by decide), hpl36, show (((τ 9 p).toNat : Nat) : Int) = τ 9 p by omega, y1, Option.bind_some, bnd_eq]
      have hcr2 := y2.up2w (r := 33) (i := 5) (v := (gvR τ (τ 9 p) pl x).1) (Or.inr ⟨rfl, rfl⟩)
      have hst := af_step (k := k) (op := 6) hx.1.1 hcr2.1 hN (by omega) (by omega) h19 o1 (by omega) hfl
      clear o1 o2 o3 o4 hfl hpl36 y1
      rw [if_pos rfl] at hst
      have h28 : Fmono τ σ (up2 σ1 33 5 (gvR τ (τ 9 p) pl x).1) := Fmono.row (by funext j; rw [up2_row (by omega), y4 28 (by decide)])
      have hg5 : up2 σ1 33 5 (gvR τ (τ 9 p) pl x).1 33 5 = (gvR τ (τ 9 p) pl x).1 := up2_at rfl rfl
      have hw36 : ∀ i, up2 σ1 33 5 (gvR τ (τ 9 p) pl x).1 36 i = σ 36 i := fun i => by rw [up2_row (by omega), y4 36 (by decide)]
      have hB1 : BK τ (gvR τ (τ 9 p) pl x).2 (up2 σ1 33 5 (gvR τ (τ 9 p) pl x).1) := hx.2.2.mono hgx h28
      generalize up2 σ1 33 5 (gvR τ (τ 9 p) pl x).1 = σ2 at *
      obtain ⟨r, j, σ3, t1, t2, t3, t4, t5, t6, t7⟩ := exNn hC hN h19 n n (prt τ p 0).toNat (a + 1) b (k + 1) L f (gvR τ (τ 9 p) pl x).1 _ σ2 s2 hL hbf hfN (by omega) g7 (by omega) ⟨y5, y6⟩ hg5 hcr2 (by omega)
      have hm3 : Fmono τ σ2 σ3 := Fmono.row (t7 28 (by omega))
      have hne : ¬ (gvR τ (τ 9 p) pl x).1 = -9 := by omega
      show ∃ (r : Bool) (j : Nat) (σ' : Sg), _ ∧ _ ∧ (if (gvR τ (τ 9 p) pl x).1 = -9 then _ else mt τ (envR τ) n (prt τ p 0).toNat (-1 - (gvR τ (τ 9 p) pl x).1) (gvR τ (τ 9 p) pl x).2).1 = _ ∧ PX τ σ0 (if (gvR τ (τ 9 p) pl x).1 = -9 then _ else mt τ (envR τ) n (prt τ p 0).toNat (-1 - (gvR τ (τ 9 p) pl x).1) (gvR τ (τ 9 p) pl x).2).2 σ' ∧ _
      rw [if_neg hne]
      refine ⟨r, 1 + j, σ3, ?_, ?_, t3, ⟨t4, by rw [t5]; exact y3, hB1.mono t6 hm3⟩, h28.trans hm3, fun i hi => by rw [t7 36 (by omega), hw36]⟩
      · have := (Rch.one hst).trans t1
        rw [show k + (1 + j) = k + 1 + j by omega]
        exact this
      · rw [show k + (1 + j) = k + 1 + j by omega]; exact t2
    · rw [if_neg c5] at h ⊢
      obtain ⟨lh1, lh2⟩ := lowhigh hW hp c0 c1 c4 c5
      obtain ⟨hcr, hJ, hB⟩ := hx
      obtain ⟨x1, x2⟩ := count_cl (τ := τ) hcr
      have hok : ¬ hdR τ pl = -9 := by
        obtain ⟨b1, b2⟩ := va_ok hF hV0.2.1 hMM hG pl.toNat pl (Nat.le_refl _) hpl hvr.2.2
        unfold hdR
        by_cases c : va τ pl < 0
        · have := (b1 c).2; rw [if_pos c]; omega
        · have := (hV0.2.1.2.2 (va τ pl).toNat (by have := (b2 (by omega)).1; omega)).2.2.2.2.1
          rw [if_neg c]; omega
      obtain ⟨o1, o2, o3, o4⟩ := hH pl hpl hvr.2.1 hvr.2.2 hok
      have h36 : τ 8 p = 6 → hdR τ pl ≤ 3 := fun q => o3 (by
        have := (hW.g6 hp q).2.2.1
        rcases ho.2 with g | g
        · omega
        · have := g.2.2.2; omega)
      have hfe : factE (envR τ) pl = hdR τ pl := by unfold factE; rw [if_neg (by omega)]; rfl
      have m27 : Fmono τ σ (F_X1_countTest σ) := Fmono.row (x2 28 (by omega))
      have hB1 : BK τ ((envR τ).2.2 x) (F_X1_countTest σ) := hB.mono rfl m27
      have hf1 : Fk τ (F_X1_countTest σ) pl := m27 pl hvr hf
      obtain ⟨σ2, e1, e2, e3, e4⟩ := open_cl hF (hC.rv x1.1) hMM hG hvr hf1
      have hcr2 : CR σ0 ((envR τ).2.2 x) σ2 := by
        obtain ⟨h1, h2, h3, h4, h5, h6⟩ := x1
        refine ⟨h1.same (fun r hr => e2 r (fun z => hr (by rw [z]; decide))) (fun i _ => by rw [e2 33 (by omega)]), fun i hi => by rw [e2 31 (by omega)]; exact h2 i hi, by rw [e2 27 (by omega)]; exact h3, by rw [e2 27 (by omega)]; exact h4, rnc_congr (e2 30 (by omega)) h5, h6.congr (e2 29 (by omega))⟩
      have hB2 : BK τ ((envR τ).2.2 x) σ2 := hB1.mono rfl e3
      have hf2 : Fk τ σ2 pl := e3 pl hvr hf1
      have hhead2 := headAt_k hF (hC.rv hcr2.1) hMM hG hvr hf2
      have hw2 : ∀ i, σ2 36 i = σ 36 i := fun i => by rw [e2 36 (by omega), x2 36 (by omega)]
      obtain ⟨s1, L1, s2, s3⟩ := h
      have i2 := sgL_ok (fun k a b L q => sgP_ok q) s2
      have l2 := i2.1
      have haL : a ∈ L := by rw [s3]; simp
      have hab := hokS.2.1 a haL
      have hisR := isIn_R (hC.rp hcr2.1) hp o1 h36 (by omega)
      obtain ⟨u1, u2, u3, u4⟩ := code_c (op := 5) hcr.1 s1 (by omega) (by omega) (by omega) (by omega) (by omega)
      obtain ⟨-, -, u3', -⟩ := code_c (op := 5) hcr2.1 s1 (by omega) (by omega) (by omega) (by omega) (by omega)
      have hfl : F_X0_follow a σ = some (isR τ p (hdR τ pl), σ2) := by
        unfold F_X0_follow
        rw [bnd_eq, bnd_eq, bnd_eq, u1, u2, u4, if_neg (by decide), if_neg (by decide), if_neg (by decide), if_neg (by decide), if_neg (by decide), if_pos (by decide), hpl36, bnd_eq, e1, Option.bind_some, hhead2, u3', show (((lowOf τ p).toNat : Nat) : Int) = lowOf τ p by omega, show (((highOf τ p).toNat : Nat) : Int) = highOf τ p by omega, hisR]
      have hst := af_step (k := k) (op := 5) hcr.1 hcr2.1 hN (by omega) (by omega) h19 u1 (by omega) hfl
      clear u1 u2 u3 u3' u4 hfl hisR hhead2 e1 hpl36
      rw [hL a haL] at hst
      rw [hfe, if_neg hok]
      by_cases cr : isR τ p (hdR τ pl) = true
      · rw [cr, if_pos rfl] at hst
        rw [if_pos cr]
        obtain ⟨M, hM⟩ : ∃ M : Nat, pcOf τ p = M := ⟨(pcOf τ p).toNat, by have := (pc_spec hW hF hp).1; omega⟩
        rw [partsL_run hW hF hp hM]
        rw [show (pcOf τ p).toNat = M by omega] at s2
        obtain ⟨r, j, σ3, t1, t2, t3, t4, t5, t6⟩ := exL hC hN h19 ih ho hpl hn hdp hM c0 c1 c4 c5 hok h36 cr e4 hf2 hfN M 0 (a + 1) b (k + 1) L1 _ σ2 s2 (by omega) (fun y hy => hL y (by rw [s3]; exact List.mem_append.mpr (Or.inl hy))) hbf ⟨hcr2, hJ, hB2⟩ Fmono.rfl' (by rw [hw2]; exact hw) (by omega)
        refine ⟨r, 1 + j, σ3, ?_, ?_, t3, t4, (m27.trans e3).trans t5, fun i hi => by rw [t6 i hi, hw2]⟩
        · have := (Rch.one hst).trans t1
          rw [show k + (1 + j) = k + 1 + j by omega]
          exact this
        · rw [show k + (1 + j) = k + 1 + j by omega]; exact t2
      · have cf : isR τ p (hdR τ pl) = false := by simpa using cr
        rw [cf, if_neg (by simp)] at hst
        rw [if_neg cr]
        refine ⟨false, 1, σ2, ?_, ?_, rfl, ⟨hcr2, hJ, hB2⟩, m27.trans e3, fun i hi => hw2 i⟩
        · rw [if_neg (by simp)]; exact Rch.one hst
        · rw [if_neg (by simp)]; omega
