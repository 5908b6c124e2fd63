/-! the automaton's run -/
set_option maxHeartbeats 4000000 in
theorem exC {σ0 τ : Sg} (hC : CtxC σ0 τ) {N : Nat} (hN : σ0 33 4 = N) (h19 : N ≤ 1969) {c M : Nat} (hc : (c : Int) < τ 0 23) (hM : τ 0 21 = M) {f : Nat} (hfN : f < N) : ∀ (d k a b kk : Nat) (L : List Nat) (x : XS) (σ : Sg), sgCols τ σ0 c d k a b L → k + d = M → (∀ y ∈ L, σ0 35 y = (f : Int)) → b ≤ f → PX τ σ0 x σ → FC τ σ → kk ≤ a → ∃ (r : Bool) (j : Nat) (σ' : Sg), Rch AF j ((a : Int), (kk : Int), σ) (((if r = true then b else f : Nat) : Int), ((kk + j : Nat) : Int), σ') ∧ kk + j ≤ (if r = true then b else f) ∧ (seqM (mt τ (envR τ) 60) (runL (citm τ c) d k) x).1 = .inl r ∧ PX τ σ0 (seqM (mt τ (envR τ) 60) (runL (citm τ c) d k) x).2 σ' ∧ Fmono τ σ σ'
  | 0, k, a, b, kk, L, x, σ, h, hk, hL, hbf, hx, hfc, hkk => by
    refine ⟨true, 0, σ, ?_, ?_, rfl, hx, Fmono.rfl'⟩
    · rw [if_pos rfl, h.1]; exact Rch.nil
    · rw [if_pos rfl, h.1]; omega
  | d + 1, k, a, b, kk, L, x, σ, h, hk, hL, hbf, hx, hfc, hkk => by
    have hW := hC.2.2.1.2.1
    have hMM := hC.2.2.2.2.1.2.2.2.1
    have hm3 := hMM.1
    obtain ⟨s1, m, L1, L2, s2, s3, s4⟩ := h
    have i2 := sgP_ok s2
    have i3 := sgL_ok (fun k a b L q => sgP_ok q) s3
    have l2 := i2.1
    have l3 := i3.1
    have hmem : citm τ c k ∈ colsL τ c := by rw [colsL_run hMM hM]; exact runL_mem (by omega) (by omega)
    have hok := cols_ok (H := hdR τ) hMM hc _ hmem
    have hge := hW.ge hok.1
    have hd13 := dpo_b hW (citm τ c k).1 hok.1
    obtain ⟨f1, f2⟩ := hfc k (by omega)
    have hfol : F_X0_follow a σ = some (true, up2 σ 36 0 ((k : Int) + 1)) ∧ F_X0_operationIn a σ = ((1 : Nat) : Int) := by
      obtain ⟨o1, o2, o3, o4⟩ := code_c (op := 1) (d := 0) (u := k + 1) (v := 0) hx.1.1 s1 (by omega) (by omega) (by omega) (by omega) (by omega)
      refine ⟨?_, o1⟩
      unfold F_X0_follow
      rw [bnd_eq, bnd_eq, bnd_eq, o1, o2, if_neg (by decide), if_pos (by decide)]
      clear o1 o2 o3 o4
      rw [wrD_ok (by omega) (by omega), bnd_eq, show ((k + 1 : Nat) : Int) = (k : Int) + 1 by omega]
      rfl
    obtain ⟨o3, o1⟩ := hfol
    obtain ⟨x1, x2⟩ := hx.up2w (r := 36) (i := 0) (v := (k : Int) + 1) (Or.inl rfl)
    have hst := af_step (k := kk) (op := 1) hx.1.1 x1.1.1 hN (by omega) (by omega) h19 o1 (by omega) o3
    clear o1 o3
    rw [if_pos rfl] at hst
    have w1 : up2 σ 36 0 ((k : Int) + 1) 36 0 = (citm τ c k).2 := up2_at rfl rfl
    generalize up2 σ 36 0 ((k : Int) + 1) = σ1 at *
    obtain ⟨r, j, σ3, t1, t2, t3, t4, t5, t6⟩ := exP hC hN h19 50 (citm τ c k).1 0 (citm τ c k).2 (a + 1) m (kk + 1) L1 f x σ1 s2 (fun y hy => hL y (by rw [s4]; exact List.mem_append.mpr (Or.inr hy))) (by omega) hfN hok (by show 1 ≤ (k : Int) + 1; omega) (by omega) (by omega) w1 x1 (x2 _ f1 f2) (by omega)
    rw [mt_fuel hW 50 60 _ _ _ hok.1 (by omega) (by omega)] at t3 t4
    unfold runL seqM
    cases r with
    | true =>
      rw [if_pos rfl] at t1 t2
      rw [if_pos t3]
      obtain ⟨r', j', σ4, u1, u2, u3, u4, u5⟩ := exC hC hN h19 hc hM hfN d (k + 1) m b (kk + 1 + j) L2 _ σ3 s3 (by omega) (fun y hy => hL y (by rw [s4]; exact List.mem_append.mpr (Or.inl hy))) hbf t4 ((hfc.mono x2).mono t5) t2
      refine ⟨r', 1 + (j + j'), σ4, ?_, ?_, u3, u4, (x2.trans t5).trans u5⟩
      · have := (Rch.one hst).trans (t1.trans u1)
        rw [show kk + (1 + (j + j')) = kk + 1 + j + j' by omega]
        exact this
      · rw [show kk + (1 + (j + j')) = kk + 1 + j + j' by omega]; exact u2
    | false =>
      rw [if_neg (by simp)] at t1 t2
      rw [if_neg (by rw [t3]; simp)]
      refine ⟨false, 1 + j, σ3, ?_, ?_, t3, t4, x2.trans t5⟩
      · have := (Rch.one hst).trans t1
        rw [if_neg (by simp), show kk + (1 + j) = kk + 1 + j by omega]
        exact this
      · rw [if_neg (by simp)]; omega
/-- what a taken case's code does -/
theorem af_take {σ0 σ : Sg} {a k N c : Nat} (hs : FrC σ0 σ) (hN : σ0 33 4 = N) (hkN : k < N) (haN : a < N) (h19 : N ≤ 1969) (h : σ0 34 a = (pk 10 0 c 0 : Nat)) (hc : c < 256) : AF ((a : Int), (k : Int), σ) = some (.inr (.inr (F_X1_take c σ))) := by
  obtain ⟨o1, o2, o3, o4⟩ := code_c (op := 10) (d := 0) hs h (by omega) (by omega) (by omega) (by omega) (by omega)
  have h33 : σ 33 4 = N := by rw [hs.2 4 (by omega), hN]
  show L_X0_decide_20 a k σ = _
  unfold L_X0_decide_20
  rw [h33, if_neg (by omega), bnd_eq, o1, o2, if_neg (by decide), if_pos (by decide), bnd_eq]
theorem af_miss {σ0 σ : Sg} {a k N : Nat} (hs : FrC σ0 σ) (hN : σ0 33 4 = N) (hkN : k < N) (haN : a < N) (h19 : N ≤ 1969) (h : σ0 34 a = (pk 11 0 0 0 : Nat)) : AF ((a : Int), (k : Int), σ) = some (.inr (.inr (F_X1_miss σ))) := by
  obtain ⟨o1, o2, o3, o4⟩ := code_c (op := 11) (d := 0) (u := 0) (v := 0) hs h (by omega) (by omega) (by omega) (by omega) (by omega)
  have h33 : σ 33 4 = N := by rw [hs.2 4 (by omega), hN]
  show L_X0_decide_20 a k σ = _
  unfold L_X0_decide_20
  rw [h33, if_neg (by omega), bnd_eq, o1, o2, if_neg (by decide), if_neg (by decide), if_pos (by decide), bnd_eq]
theorem af_ask {σ0 σ : Sg} {a k N c : Nat} {g : Int} (hs : FrC σ0 σ) (hN : σ0 33 4 = N) (hkN : k < N) (haN : a < N) (h19 : N ≤ 1969) (h : σ0 34 a = (pk 9 0 c 0 : Nat)) (hc : c < 256) (hg : F_X1_guardOf c σ = g) : AF ((a : Int), (k : Int), σ) = if g = 2 then some (.inr (.inr (-2, σ))) else some (.inl (if g = 0 then ((a + 1 : Nat) : Int) else σ0 35 a, ((k + 1 : Nat) : Int), σ)) := by
  obtain ⟨o1, o2, o3, o4⟩ := code_c (op := 9) (d := 0) hs h (by omega) (by omega) (by omega) (by omega) (by omega)
  have h33 : σ 33 4 = N := by rw [hs.2 4 (by omega), hN]
  have e35 : rdD (-1) σ 35 1969 a = σ0 35 a := by rw [rdD_ok (by omega) (by omega), show ((a : Int)).toNat = a by omega, hs.row (by omega)]
  show L_X0_decide_20 a k σ = _
  unfold L_X0_decide_20 B_X0_decide_123 B_X0_decide_150
  rw [h33, if_neg (by omega), bnd_eq, o1, o2, if_pos (by decide), hg, bnd_eq, e35, wrap_id (by omega) (by omega), wrap_id (by omega) (by omega)]
  clear o1 o2 o3 o4 e35 hg
  by_cases g2 : g = 2
  · rw [if_pos g2, if_pos g2]
  · rw [if_neg g2, if_neg g2]
    by_cases g0 : g = 0
    · rw [if_pos g0, if_pos g0]; congr 3
    · rw [if_neg g0, if_neg g0]; congr 3
set_option maxHeartbeats 4000000 in
theorem exK {σ0 τ : Sg} (hC : CtxC σ0 τ) {N m : Nat} (hN : σ0 33 4 = N) (h19 : N ≤ 1969) (hm : τ 0 23 = m) : ∀ (d c a b kk : Nat) (x : XS) (σ : Sg), sgCs τ σ0 d c a b → c + d = m → σ0 34 b = (pk 11 0 0 0 : Nat) → b < N → CR σ0 x σ → JR x.2.2 → FC τ σ → kk ≤ a → ∃ (j : Nat) (y : Int × Int × Sg) (σ' : Sg), kk + j ≤ N ∧ Rch AF j ((a : Int), (kk : Int), σ) y ∧ AF y = some (.inr (.inr (endC (plS τ d c x).1 (plS τ d c x).2.1 σ'))) ∧ CR σ0 (plS τ d c x).2.2 σ' ∧ JR (plS τ d c x).2.2.2.2
  | 0, c, a, b, kk, x, σ, h, hcd, hb, hbN, hx, hJ, hfc, hkk => by
    have e : b = a := h
    subst e
    refine ⟨0, ((b : Int), (kk : Int), σ), σ, by omega, Rch.nil, ?_, hx, hJ⟩
    exact af_miss hx.1 hN (by omega) hbN h19 hb
  | d + 1, c, a, b, kk, x, σ, h, hcd, hb, hbN, hx, hJ, hfc, hkk => by
    have hMM := hC.2.2.2.2.1.2.2.2.1
    have h8 := hMM.2.1
    have hm3 := hMM.1
    have hc : (c : Int) < τ 0 23 := by omega
    have hc256 : c < 256 := by omega
    obtain ⟨q, hcase, hrest⟩ := h
    have lcase := sgCase_le hcase
    have lrest := sgCs_le hrest
    obtain ⟨s0, mm, L, s1, s2, s3⟩ := hcase
    have i1 := sgCols_ok s1
    have l1 := i1.1
    -- the case's code
    obtain ⟨u1, u2, u3⟩ := unbind_cl (τ := τ) hx
    have hm1 : Fmono τ σ (F_X1_unbind σ) := Fmono.row (u2 28 (by omega))
    have hst : AF ((a : Int), (kk : Int), σ) = some (.inl (((a + 1 : Nat) : Int), ((kk + 1 : Nat) : Int), F_X1_unbind σ)) := by
      obtain ⟨o1, o2, o3, o4⟩ := code_c (op := 0) (d := 0) hx.1 s0 (by omega) (by omega) (by omega) (by omega) (by omega)
      have hfl : F_X0_follow a σ = some (true, F_X1_unbind σ) := by
        unfold F_X0_follow
        rw [bnd_eq, bnd_eq, bnd_eq, o1, if_pos (by decide), bnd_eq]
      have := af_step (k := kk) (op := 0) hx.1 u1.1 hN (by omega) (by omega) h19 o1 (by omega) hfl
      rw [if_pos rfl] at this
      exact this
    generalize F_X1_unbind σ = σ1 at *
    obtain ⟨r, j, σ2, t1, t2, t3, t4, t5⟩ := exC hC hN h19 hc (M := (τ 0 21).toNat) (by omega) (f := q) (by omega) (τ 0 21).toNat 0 (a + 1) mm (kk + 1) L (clrX x) σ1 s1 (by omega) s2 (by omega) ⟨u1, hJ, u3⟩ (hfc.mono hm1) (by omega)
    rw [← colsL_run (m := (τ 0 21).toNat) hMM (by omega)] at t3 t4
    have t3' : (tryS τ (envR τ) c x).1 = .inl r := t3
    have t4' : PX τ σ0 (tryS τ (envR τ) c x).2 σ2 := t4
    have hr1 := (Rch.one hst).trans t1
    have hfc2 := (hfc.mono hm1).mono t5
    have next : ∀ (kk' : Nat) (σ' : Sg), CR σ0 (tryS τ (envR τ) c x).2 σ' → FC τ σ' → kk' ≤ q → ∃ (j : Nat) (y : Int × Int × Sg) (σ'' : Sg), kk' + j ≤ N ∧ Rch AF j ((q : Int), (kk' : Int), σ') y ∧ AF y = some (.inr (.inr (endC (plS τ d (c + 1) (tryS τ (envR τ) c x).2).1 (plS τ d (c + 1) (tryS τ (envR τ) c x).2).2.1 σ''))) ∧ CR σ0 (plS τ d (c + 1) (tryS τ (envR τ) c x).2).2.2 σ'' ∧ JR (plS τ d (c + 1) (tryS τ (envR τ) c x).2).2.2.2.2 := fun kk' σ' h1 h2 h3 =>
      exK hC hN h19 hm d (c + 1) q b kk' _ σ' hrest (by omega) hb hbN h1 t4'.2.1 h2 h3
    unfold plS
    cases r with
    | false =>
      rw [if_neg (by simp)] at hr1 t2
      rw [if_neg (show ¬ (tryS τ (envR τ) c x).1 = .inl true by rw [t3']; simp)]
      obtain ⟨j', y, σ3, v1, v2, v3, v4, v5⟩ := next (kk + 1 + j) σ2 t4'.1 hfc2 t2
      exact ⟨1 + j + j', y, σ3, by omega, hr1.trans v2, v3, v4, v5⟩
    | true =>
      rw [if_pos rfl] at hr1 t2
      rw [if_pos t3']
      have hg := guard_k hC hc t4'.1 t4'.2.2 t3'
      rcases s3 with ⟨z1, z2, z3⟩ | ⟨z1, z2, z3, z4, z5⟩
      · have hg0 : grd τ (hdR τ) c (tryS τ (envR τ) c x).2 = 0 := by unfold grd; rw [if_pos z1]
        rw [hg0, if_neg (by decide), if_pos rfl]
        exact ⟨1 + j, _, σ2, by omega, hr1, af_take (c := c) t4'.1.1 hN (by omega) (by omega) h19 z2 hc256, t4'.1, t4'.2.1⟩
      · have hask := af_ask (k := kk + 1 + j) t4'.1.1 hN (by omega) (by omega) h19 z2 (by omega) hg
        clear hg
        by_cases g1 : grd τ (hdR τ) c (tryS τ (envR τ) c x).2 = 1
        · rw [if_pos g1]
          rw [if_neg (by omega), if_neg (by omega), z3] at hask
          obtain ⟨j', y, σ3, v1, v2, v3, v4, v5⟩ := next (kk + 1 + j + 1) σ2 t4'.1 hfc2 (by omega)
          exact ⟨1 + j + 1 + j', y, σ3, by omega, (hr1.snoc hask).trans v2, v3, v4, v5⟩
        · rw [if_neg g1]
          by_cases g0 : grd τ (hdR τ) c (tryS τ (envR τ) c x).2 = 0
          · rw [if_pos g0]
            rw [if_neg (by omega), if_pos g0] at hask
            exact ⟨1 + j + 1, _, σ2, by omega, hr1.snoc hask, af_take (c := c) (a := mm + 1) (k := kk + 1 + j + 1) t4'.1.1 hN (by omega) (by omega) h19 z4 hc256, t4'.1, t4'.2.1⟩
          · rw [if_neg g0]
            have g2 : grd τ (hdR τ) c (tryS τ (envR τ) c x).2 = 2 := by
              unfold grd at g1 g0 ⊢
              repeat' split
              all_goals (first | rfl | skip)
              all_goals (exfalso)
              all_goals simp_all
            rw [if_pos g2] at hask
            exact ⟨1 + j, _, σ2, by omega, hr1, hask, t4'.1, t4'.2.1⟩
theorem auto_cl {σ0 τ σ : Sg} {x : XS} (hC : CtxC σ0 τ) (hA : AUT τ σ0) (hx : CR σ0 x σ) (hJ : JR x.2.2) (hfc : FC τ σ) : ∃ σ', B_X0_decide_16 σ = some (endC (plS τ (τ 0 23).toNat 0 x).1 (plS τ (τ 0 23).toNat 0 x).2.1 σ') ∧ CR σ0 (plS τ (τ 0 23).toNat 0 x).2.2 σ' ∧ JR (plS τ (τ 0 23).toNat 0 x).2.2.2.2 := by
  have h8 := hC.2.2.2.2.1.2.2.2.1.2.1
  obtain ⟨b, a1, a2, a3, a4⟩ := hA
  obtain ⟨j, y, σ', e1, e2, e3, e4, e5⟩ := exK hC (N := b + 1) (m := (τ 0 23).toNat) (by omega) (by omega) (by omega) (τ 0 23).toNat 0 0 b 0 x σ a1 (by omega) a2 (by omega) hx hJ hfc (by omega)
  refine ⟨σ', ?_, e4, e5⟩
  have hf : iter AF 3000 (0, 0, σ) = some (.inr (endC (plS τ (τ 0 23).toNat 0 x).1 (plS τ (τ 0 23).toNat 0 x).2.1 σ')) := e2.fin e3 (by omega)
  unfold B_X0_decide_16
  show ((iter AF 3000 (0, 0, σ)).bind _) = _
  rw [hf, Option.bind_some, Sum.elim_inr]
