/-! a run, case by case: both sides -/
/-- the cases from c on: 0 taken, 1 raised, 2 missed; the case; the state -/
def plS (τ : Sg) : Nat → Nat → XS → Int × Nat × XS
  | 0, c, x => (2, c, x)
  | d + 1, c, x => if (tryS τ (envR τ) c x).1 = .inl true then (if grd τ (hdR τ) c (tryS τ (envR τ) c x).2 = 1 then plS τ d (c + 1) (tryS τ (envR τ) c x).2 else if grd τ (hdR τ) c (tryS τ (envR τ) c x).2 = 0 then (0, c, (tryS τ (envR τ) c x).2) else (1, c, (tryS τ (envR τ) c x).2)) else plS τ d (c + 1) (tryS τ (envR τ) c x).2
theorem envB_R {τ : Sg} : EnvB (envR τ) := by
  refine ⟨fun v pl x => ?_, fun x => rfl⟩
  show (gvR τ v pl x).2.1 = x.1
  unfold gvR; split <;> rfl
def endC (kind : Int) (c : Nat) (σ : Sg) : Int × Sg := if kind = 0 then F_X1_take c σ else if kind = 1 then (-2, σ) else F_X1_miss σ
/-- the place of a guard's name is found -/
theorem guard_k {σ0 σ τ : Sg} {x : XS} {c : Nat} (hC : CtxC σ0 τ) (hc : (c : Int) < τ 0 23) (hx : CR σ0 (tryS τ (envR τ) c x).2 σ) (hB : BK τ (tryS τ (envR τ) c x).2 σ) (hf : (tryS τ (envR τ) c x).1 = .inl true) : F_X1_guardOf c σ = grd τ (hdR τ) c (tryS τ (envR τ) c x).2 := by
  obtain ⟨hK, hV0, hP0, hW0, hM0, hG⟩ := id hC
  refine guardOf_cl (hC.rm hx.1) hc hx.2.1 (fun hg => ?_)
  have hn := tryB hP0.2.1 hK.2.2.2 hM0.2.2.2.1 hC.hok envB_R hc hg hf
  have hnm := (hM0.2.2.2.1.2.2.2.2 c hc).2.2.2 hg
  rcases hB (τ 23 c).toNat (by omega) with z | ⟨z1, z2⟩
  · have := hn.1; omega
  · exact headAt_k hK.2.2.2 (hC.rv hx.1) hM0.2.2.2.1 hG z1 z2
set_option maxHeartbeats 4000000 in
theorem decide_cl {σ0 τ : Sg} (hC : CtxC σ0 τ) {m : Nat} (hm : τ 0 23 = m) : ∀ (d c n : Nat) (x : XS) (σ : Sg), c + d = m → d < n → CR σ0 x σ → JR x.2.2 → FC τ σ → ∃ σ', iter (fun a : (Int × Sg) => L_X6_decide_2 a.1 a.2) n ((c : Int), σ) = some (if (plS τ d c x).1 = 2 then .inl σ' else .inr (endC (plS τ d c x).1 (plS τ d c x).2.1 σ')) ∧ CR σ0 (plS τ d c x).2.2 σ' ∧ JR (plS τ d c x).2.2.2.2 ∧ ((plS τ d c x).1 = 0 ∨ (plS τ d c x).1 = 1 ∨ (plS τ d c x).1 = 2) ∧ ((plS τ d c x).1 = 2 ∨ (plS τ d c x).2.1 < m)
  | 0, c, n, x, σ, hcd, hn, hx, hJ, hfc => by
    obtain ⟨n, rfl⟩ : ∃ z, n = z + 1 := ⟨n - 1, by omega⟩
    refine ⟨σ, ?_, hx, hJ, Or.inr (Or.inr rfl), Or.inl rfl⟩
    rw [iter_r (b := .inl σ) (by
      show L_X6_decide_2 c σ = _
      unfold L_X6_decide_2 F_X4_count
      rw [(hC.rm hx.1).2.1, if_pos (by omega)])]
    rfl
  | d + 1, c, n, x, σ, hcd, hn, hx, hJ, hfc => by
    obtain ⟨n, rfl⟩ : ∃ z, n = z + 1 := ⟨n - 1, by omega⟩
    have h8 := hC.2.2.2.2.1.2.2.2.1.2.1
    have hc : (c : Int) < τ 0 23 := by omega
    obtain ⟨b, σ1, e1, e2, e3, e4⟩ := fitsCase_cl hC hc hx hJ hfc
    have hnext : iter (fun a : (Int × Sg) => L_X6_decide_2 a.1 a.2) n (((c + 1 : Nat) : Int), σ1) = iter (fun a : (Int × Sg) => L_X6_decide_2 a.1 a.2) n (wrap ((c : Int) + 1), σ1) := by
      rw [wrap_id (by omega) (by omega), show (c : Int) + 1 = ((c + 1 : Nat) : Int) by omega]
    have ih := decide_cl hC hm d (c + 1) n (tryS τ (envR τ) c x).2 σ1 (by omega) (by omega) e3.1 e3.2.1 (hfc.mono e4)
    have hunf : L_X6_decide_2 c σ = (if b = true then bnd (F_X1_guardOf c σ1) fun v3 => if v3 = 1 then B_X6_decide_53 c σ1 else if v3 = 0 then bnd (F_X1_take c σ1) fun q5 => some (.inr (.inr (q5.1, q5.2))) else some (.inr (.inr ((-2), σ1))) else B_X6_decide_53 c σ1) := by
      unfold L_X6_decide_2 F_X4_count
      rw [(hC.rm hx.1).2.1, if_neg (by omega), e1, Option.bind_some]
    clear e1
    unfold plS
    cases b with
    | false =>
      rw [if_neg (show ¬ (tryS τ (envR τ) c x).1 = .inl true by rw [e2]; simp)]
      rw [iter_l (f := fun a : (Int × Sg) => L_X6_decide_2 a.1 a.2) (a := ((c : Int), σ)) (by
        show L_X6_decide_2 c σ = _
        rw [hunf, if_neg (by simp)]; rfl), ← hnext]
      exact ih
    | true =>
      rw [if_pos e2]
      have hg := guard_k hC hc e3.1 e3.2.2 e2
      rw [if_pos rfl, hg, bnd_eq] at hunf
      clear hg
      by_cases g1 : grd τ (hdR τ) c (tryS τ (envR τ) c x).2 = 1
      · rw [if_pos g1] at hunf ⊢
        rw [iter_l (f := fun a : (Int × Sg) => L_X6_decide_2 a.1 a.2) (a := ((c : Int), σ)) hunf, ← hnext]
        exact ih
      · rw [if_neg g1] at hunf ⊢
        by_cases g0 : grd τ (hdR τ) c (tryS τ (envR τ) c x).2 = 0
        · rw [if_pos g0] at hunf ⊢
          refine ⟨σ1, ?_, e3.1, e3.2.1, Or.inl rfl, Or.inr (by show c < m; omega)⟩
          rw [iter_r (f := fun a : (Int × Sg) => L_X6_decide_2 a.1 a.2) (a := ((c : Int), σ)) hunf]
          rfl
        · rw [if_neg g0] at hunf ⊢
          refine ⟨σ1, ?_, e3.1, e3.2.1, Or.inr (Or.inl rfl), Or.inr (by show c < m; omega)⟩
          rw [iter_r (f := fun a : (Int × Sg) => L_X6_decide_2 a.1 a.2) (a := ((c : Int), σ)) hunf]
          rfl
theorem plain_cl {σ0 τ σ : Sg} {x : XS} (hC : CtxC σ0 τ) (hx : CR σ0 x σ) (hJ : JR x.2.2) (hfc : FC τ σ) : ∃ σ', F_X6_decide σ = some (endC (plS τ (τ 0 23).toNat 0 x).1 (plS τ (τ 0 23).toNat 0 x).2.1 σ') ∧ CR σ0 (plS τ (τ 0 23).toNat 0 x).2.2 σ' ∧ JR (plS τ (τ 0 23).toNat 0 x).2.2.2.2 ∧ ((plS τ (τ 0 23).toNat 0 x).1 = 0 ∨ (plS τ (τ 0 23).toNat 0 x).1 = 1 ∨ (plS τ (τ 0 23).toNat 0 x).1 = 2) ∧ ((plS τ (τ 0 23).toNat 0 x).1 = 2 ∨ ((plS τ (τ 0 23).toNat 0 x).2.1 : Int) < τ 0 23) := by
  have h8 := hC.2.2.2.2.1.2.2.2.1.2.1
  obtain ⟨σ', e1, e2, e3, e4, e5⟩ := decide_cl hC (m := (τ 0 23).toNat) (by omega) (τ 0 23).toNat 0 3000 x σ (by omega) (by omega) hx hJ hfc
  refine ⟨σ', ?_, e2, e3, e4, by omega⟩
  unfold F_X6_decide
  have e1' : iter (fun a : (Int × Sg) => L_X6_decide_2 a.1 a.2) 3000 (0, σ) = some (if (plS τ (τ 0 23).toNat 0 x).1 = 2 then .inl σ' else .inr (endC (plS τ (τ 0 23).toNat 0 x).1 (plS τ (τ 0 23).toNat 0 x).2.1 σ')) := e1
  rw [e1', Option.bind_some]
  by_cases c : (plS τ (τ 0 23).toNat 0 x).1 = 2
  · rw [if_pos c, Sum.elim_inl, bnd_eq, c]; rfl
  · rw [if_neg c, Sum.elim_inr]
/-! the reference's run, case by case -/
theorem guarded_m {τ s : Sg} {x : XS} {c : Nat} (hF : WFK (τ 1) (τ 2) (τ 3)) (hV : WFV τ) (hM : WFM τ) (hG : GV τ) (hH : HOK τ (hdR τ)) (hc : (c : Int) < τ 0 23) (hx : RX τ x s) (hg : ¬ τ 22 c = -1) (hn : numP τ (hdR τ) (x.1 (τ 23 c).toNat)) : ∃ s', F_X11_guarded c s = some (grd τ (hdR τ) c x, s') ∧ RX τ x s' := by
  obtain ⟨w1, w2, w3, w4, w5⟩ := id hM
  obtain ⟨f1, f2, f3, f4⟩ := w5 c hc
  obtain ⟨g1, g2, -⟩ := f4 hg
  have r22 := hx.1.row (r := 22) (by omega) (by omega)
  have r23 := hx.1.row (r := 23) (by omega) (by omega)
  have r24 := hx.1.row (r := 24) (by omega) (by omega)
  have hpr := kd_pr hF hH 3 _ hn.1 hn.2.1 hn.2.1 (by have := hn.2.2; omega)
  obtain ⟨q, h1, hq1, h2⟩ : ∃ q : Int × Sg, F_X11_headAt (x.1 (τ 23 c).toNat) s = some q ∧ q.1 = hdR τ (x.1 (τ 23 c).toNat) ∧ ∀ r, ¬ r = 34 → q.2 r = s r := by
    obtain ⟨s', h1, h2⟩ := headAt_c (s := s) hF hV hM hG (hx.1.row (by omega) (by omega)) (hx.1.row (by omega) (by omega)) (hx.1.row (by omega) (by omega)) (hx.1.row (by omega) (by omega)) hn.1 hpr (by have := hn.2.2; omega)
    exact ⟨_, h1, rfl, h2⟩
  have hcc : ((c : Int)).toNat = c := by omega
  refine ⟨q.2, ?_, hx.way h2⟩
  unfold F_X11_guarded B_X11_guarded_97
  rw [rdn_ok (by omega) (by omega), Option.bind_some, hcc, r23, rdn_ok g1.1 (by omega), Option.bind_some, hx.2.1 _ (by omega), h1, Option.bind_some, rdn_ok (by omega) (by omega), Option.bind_some, rdn_ok (by omega) (by omega), Option.bind_some, hcc, h2 24 (by omega), h2 22 (by omega), r22, r24, hq1]
  clear h1
  unfold grd
  rw [if_neg hg]
  by_cases c0 : τ 22 c = 0
  · rw [if_pos c0, if_pos c0]
    by_cases q : hdR τ (x.1 (τ 23 c).toNat) < τ 24 c
    · rw [if_neg (by omega), if_pos q, if_pos rfl]
    · rw [if_pos (by omega), if_neg q, if_neg (by simp), if_neg (by omega)]
  · rw [if_neg c0, if_neg c0]
    by_cases c1 : τ 22 c = 1
    · rw [if_pos c1, if_pos c1]
      by_cases q : hdR τ (x.1 (τ 23 c).toNat) = τ 24 c
      · rw [if_pos q, if_pos q, if_pos rfl]
      · rw [if_neg q, if_neg q, if_neg (by simp), if_neg (by omega)]
    · rw [if_neg c1, if_neg c1]
      by_cases c2 : τ 22 c = 2
      · rw [if_pos c2, if_pos c2]
        by_cases q : τ 24 c < hdR τ (x.1 (τ 23 c).toNat)
        · rw [if_neg (by omega), if_pos q, if_pos rfl]
        · rw [if_pos (by omega), if_neg q, if_neg (by simp), if_neg (by omega)]
      · rw [if_neg c2, if_neg c2]
        by_cases q : hdR τ (x.1 (τ 23 c).toNat) = τ 24 c
        · rw [if_pos q, if_pos q, if_neg (by simp), if_pos (by omega)]
        · rw [if_neg q, if_neg q, if_pos rfl]
def endM (kind : Int) (c : Nat) (s : Sg) : Option (Int × Sg) := if kind = 2 then F_X11_end (-1) false s else F_X11_end c (decide (kind = 1)) s
set_option maxHeartbeats 4000000 in
theorem runPlain_m1 {τ : Sg} (hF : WFK (τ 1) (τ 2) (τ 3)) (hV : WFV τ) (hM : WFM τ) (hW : WFW τ) (hP : WFP τ) (hG : GV τ) (hr : ¬ τ 0 40 = 0) {m : Nat} (hm : τ 0 23 = m) : ∀ (d c n : Nat) (x : XS) (s : Sg), c + d = m → d < n → RX τ x s → JR x.2.2 → ∃ s', RX τ (plS τ d c x).2.2 s' ∧ iter (fun a : (Int × Sg) => L_X11_runPlain_7 a.1 a.2) n ((c : Int), s) = (if (plS τ d c x).1 = 2 then some (.inl s') else (endM (plS τ d c x).1 (plS τ d c x).2.1 s').bind fun q => some (.inr q))
  | 0, c, n, x, s, hcd, hn, hx, hJ => by
    obtain ⟨n, rfl⟩ : ∃ z, n = z + 1 := ⟨n - 1, by omega⟩
    refine ⟨s, hx, ?_⟩
    rw [iter_r (b := .inl s) (by
      show L_X11_runPlain_7 c s = _
      unfold L_X11_runPlain_7
      rw [hx.1.2 23 (by decide), if_pos (by omega)])]
    rfl
  | d + 1, c, n, x, s, hcd, hn, hx, hJ => by
    obtain ⟨n, rfl⟩ : ∃ z, n = z + 1 := ⟨n - 1, by omega⟩
    have h8 := hM.2.1
    have hc : (c : Int) < τ 0 23 := by omega
    have hH := HOK_R hF hV hM hG
    have hE := envR_ok hF hV hM hW hG hr
    obtain ⟨s1, e1, e2, e3, -⟩ := try_c hP hF hM hH hE hc hJ hx
    have r22 := e2.1.row (r := 22) (by omega) (by omega)
    have hcc : ((c : Int)).toNat = c := by omega
    have hw1 : wrap ((c : Int) + 1) = ((c + 1 : Nat) : Int) := by rw [wrap_id (by omega) (by omega)]; omega
    have hunf : L_X11_runPlain_7 c s = (if codeR (tryS τ (envR τ) c x).1 = 0 then (rdn 8 s1 22 c).bind fun v5 => if v5 = (-1) then B_X11_runPlain_42 c 0 s1 else (F_X11_guarded c s1).bind fun q7 => B_X11_runPlain_42 c q7.1 q7.2 else B_X11_runPlain_64 c s1) := by
      unfold L_X11_runPlain_7
      rw [hx.1.2 23 (by decide), if_neg (by omega), e1, Option.bind_some]
    clear e1
    unfold plS
    by_cases ct : (tryS τ (envR τ) c x).1 = .inl true
    · rw [if_pos ct]
      rw [ct, if_pos (show codeR (Sum.inl true) = 0 from rfl), rdn_ok (by omega) (by omega), Option.bind_some, hcc, r22] at hunf
      -- the guard
      obtain ⟨s2, hx2, hu2⟩ : ∃ s2, RX τ (tryS τ (envR τ) c x).2 s2 ∧ L_X11_runPlain_7 c s = B_X11_runPlain_42 c (grd τ (hdR τ) c (tryS τ (envR τ) c x).2) s2 := by
        by_cases hg : τ 22 c = -1
        · refine ⟨s1, e2, ?_⟩
          rw [hunf, if_pos hg]
          unfold grd
          rw [if_pos hg]
        · have hnp := tryB hP hF hM hH envB_R hc hg ct
          obtain ⟨s2, z1, z2⟩ := guarded_m hF hV hM hG hH hc e2 hg hnp
          refine ⟨s2, z2, ?_⟩
          rw [hunf, if_neg hg, z1, Option.bind_some]
      clear hunf
      unfold B_X11_runPlain_42 B_X11_runPlain_60 B_X11_runPlain_64 at hu2
      rw [hw1] at hu2
      by_cases g1 : grd τ (hdR τ) c (tryS τ (envR τ) c x).2 = 1
      · rw [if_pos g1] at hu2 ⊢
        rw [iter_l (f := fun a : (Int × Sg) => L_X11_runPlain_7 a.1 a.2) (a := ((c : Int), s)) hu2]
        exact runPlain_m1 hF hV hM hW hP hG hr hm d (c + 1) n _ s2 (by omega) (by omega) hx2 e3
      · rw [if_neg g1] at hu2 ⊢
        have g02 : grd τ (hdR τ) c (tryS τ (envR τ) c x).2 = 0 ∨ grd τ (hdR τ) c (tryS τ (envR τ) c x).2 = 2 := by
          unfold grd at g1 ⊢
          repeat' split
          all_goals (first | exact Or.inl rfl | exact Or.inr rfl | skip)
          all_goals (exfalso; apply g1)
          all_goals simp_all
        by_cases g0 : grd τ (hdR τ) c (tryS τ (envR τ) c x).2 = 0
        · rw [if_neg (by omega)] at hu2
          rw [if_pos g0]
          refine ⟨s2, hx2, ?_⟩
          rw [if_neg (by show ¬ (0 : Int) = 2; decide)]
          unfold endM
          rw [if_neg (by show ¬ (0 : Int) = 2; decide)]
          show _ = (F_X11_end c false s2).bind _
          have hu3 : L_X11_runPlain_7 ((c : Int), s).1 ((c : Int), s).2 = _ := hu2
          rw [iter_s, hu3]
          cases F_X11_end c false s2 <;> rfl
        · rw [if_pos (by omega)] at hu2
          rw [if_neg g0]
          refine ⟨s2, hx2, ?_⟩
          rw [if_neg (by show ¬ (1 : Int) = 2; decide)]
          unfold endM
          rw [if_neg (by show ¬ (1 : Int) = 2; decide)]
          show _ = (F_X11_end c true s2).bind _
          have hu3 : L_X11_runPlain_7 ((c : Int), s).1 ((c : Int), s).2 = _ := hu2
          rw [iter_s, hu3]
          cases F_X11_end c true s2 <;> rfl
    · have hcode : ¬ codeR (tryS τ (envR τ) c x).1 = 0 := by
        cases h : (tryS τ (envR τ) c x).1 with
        | inl b => cases b with
          | true => exact absurd h ct
          | false => decide
        | inr a => show ¬ (2 : Int) = 0; decide
      rw [if_neg hcode] at hunf
      unfold B_X11_runPlain_64 at hunf
      rw [hw1] at hunf
      rw [if_neg ct, iter_l (f := fun a : (Int × Sg) => L_X11_runPlain_7 a.1 a.2) (a := ((c : Int), s)) hunf]
      exact runPlain_m1 hF hV hM hW hP hG hr hm d (c + 1) n _ s1 (by omega) (by omega) e2 e3
