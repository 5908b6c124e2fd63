/-! the given program decides by a tree -/
theorem GT.len {τ σ : Sg} {t : Nat} {m : Bool} {pf : Nat → Pth} {S : Nat → Nat} {N B : Nat} (h : GT τ σ t m pf S N B) : ∀ (b n : Nat), n ≤ b → n < N → (pf n).length ≤ n
  | 0, n, hb, hn => by rw [show n = 0 by omega, h.p0]; exact Nat.le_refl _
  | b + 1, n, hb, hn => by
    by_cases g : n = 0
    · rw [g, h.p0]; exact Nat.le_refl _
    · obtain ⟨a, i, a1, a2, a3, a4, a5⟩ := h.par n (by omega) hn
      have := h.len b a (by omega) (by omega)
      rw [a4, List.length_cons]; omega
theorem CR.o28 {σ0 σ σ' : Sg} {x : XS} (h : CR σ0 x σ) (hs : ∀ r, ¬ r = 28 → σ' r = σ r) : CR σ0 x σ' := by
  obtain ⟨c1, c2, c3, c4, c5, c6⟩ := h
  refine ⟨c1.same (fun r hr => hs r (fun z => hr (by rw [z]; decide))) (fun i hi => by rw [hs 33 (by omega)]), fun i hi => ?_, ?_, ?_, rnc_congr (hs 30 (by omega)) c5, c6.congr (hs 29 (by omega))⟩
  · rw [hs 31 (by omega)]; exact c2 i hi
  · rw [hs 27 (by omega)]; exact c3
  · rw [hs 27 (by omega)]; exact c4
theorem KNo.o {σ σ' : Sg} {P : Pth} (h : KNo σ P) (hs : ∀ r, 37 ≤ r → r ≤ 39 → σ' r = σ r) : KNo σ' P := by
  obtain ⟨a, b, c, d⟩ := h
  refine ⟨fun pl p1 p2 => by rw [hs 38 (by omega) (by omega)]; exact a pl p1 p2, b.congr (hs 39 (by omega) (by omega)), ?_, ?_⟩
  · rw [hs 37 (by omega) (by omega)]; exact c
  · rw [hs 37 (by omega) (by omega)]; exact d
theorem hk_n3 {a : Ask} {i : Nat} {P : Pth} (h : ¬ a.1 = 3) : hk ((a, i) :: P) = hk P := by
  funext pl
  show (if a.1 = 3 ∧ a.2.1 = pl then (i : Int) else hk P pl) = hk P pl
  rw [if_neg (fun z => h z.1)]
theorem PF.n3 {τ σ σ' : Sg} {P : Pth} {a : Ask} {i : Nat} (h : PF τ P σ) (ha : ¬ a.1 = 3) (hs : σ' 28 = σ 28) : PF τ ((a, i) :: P) σ' := fun q q1 q2 hk0 => by
  rw [hk_n3 ha] at hk0
  unfold Fk
  rw [hs]
  exact h q q1 q2 hk0
theorem CtxC.t {σ0 τ : Sg} (hC : CtxC σ0 τ) : CtxT τ := ⟨hC.1.2.2.2, hC.2.1.2.1, hC.2.2.1.2.1, hC.2.2.2.2.1.2.2.2.1, WFW_of hC.2.2.2.1, hC.2.2.2.2.2⟩
def TDec (τ σ0 : Sg) (t : Nat) (m : Bool) (d : Nat) (P : Pth) (x : XS) (r : Option (Sg ⊕ (Int × Sg))) : Prop := ∃ σ', r = some (.inr (endC (wk τ m d P x).1 (wk τ m d P x).2.1 σ')) ∧ CR σ0 (wk τ m d P x).2.2 σ' ∧ JR (wk τ m d P x).2.2.2.2 ∧ ((wk τ m d P x).1 = 0 ∨ (wk τ m d P x).1 = 1 ∨ (wk τ m d P x).1 = 2) ∧ ((wk τ m d P x).1 = 2 ∨ ((wk τ m d P x).2.1 : Int) < τ 0 23)
set_option maxHeartbeats 4000000 in
theorem tdec_l {σ0 τ : Sg} {t : Nat} {m : Bool} {pf : Nat → Pth} {S : Nat → Nat} {N B : Nat} (hC : CtxC σ0 τ) (ht : 43 ≤ t) (hD : GD τ σ0 t m pf S N B) (hB : B + 1 ≤ 500) : ∀ (d n k fu : Nat) (x : XS) (σ : Sg), k + d = 500 → (pf n).length = k → n < N → d < fu → WI τ m (pf n) x → CR σ0 x σ → KNo σ (pf n) → PF τ (pf n) σ → TDec τ σ0 t m d (pf n) x (iter (fun a : (Int × Int × Sg) => L_X7_decide_11 t a.1 a.2.1 a.2.2) fu ((n : Int), (k : Int), σ))
  | 0, n, k, fu, x, σ, hk, hl, hn, hfu, hw, hx, hK, hP => by
    have := hD.1.len n n (Nat.le_refl _) hn
    have := hD.1.n500
    omega
  | d + 1, n, k, fu, x, σ, hkd, hl, hn, hfu, hw, hx, hK, hP => by
    obtain ⟨fu, rfl⟩ : ∃ z, fu = z + 1 := ⟨fu - 1, by omega⟩
    have hT := hC.t
    obtain ⟨hF, hV, hW, hM, hWW, hG⟩ := id hT
    have gt := hD.1
    have h500 := gt.n500
    have hap := gt.ap n hn
    have hKP := AP.kp hW hF hM hWW hap
    obtain ⟨ok1, ok2, ok3, ok4⟩ := qry_ok hW hF hM hWW hap
    obtain ⟨u1, u2, u3⟩ := qry_unk hW hF hM hWW hap
    obtain ⟨a, ha⟩ : ∃ a, a = qry τ m (pf n) := ⟨_, rfl⟩
    have hrow : ∀ s, FrC σ0 s → ∀ r, t ≤ r → s r = σ0 r := fun s hs r hr => hs.row (by omega)
    have hask : ∀ s, FrC σ0 s → F_X7_sortOf t n s = a.1 ∧ F_X7_whatOf t n s = a.2.1 ∧ F_X7_whichOf t n s = a.2.2 := fun s hs => by
      refine sortOf_t ?_ (by rw [ha]; exact ok1) (by omega)
      rw [hrow s hs _ (by omega), ha]
      exact gt.asks n hn
    have hbeh : ∀ s, FrC σ0 s → ∀ br : Nat, br < wid τ a → ∃ c : Nat, n < c ∧ c < N ∧ F_X7_nodeBehind t n br s = c ∧ pf c = (a, br) :: pf n := fun s hs br hbr => by
      rw [ha] at hbr ⊢
      obtain ⟨c, c1, c2, c3, c4⟩ := hD.ch hn hbr
      have gts : GT τ s t m pf S N B := gt.fr (fun r r1 r2 => hrow s hs r r1)
      have htop := gt.top hn
      have hB6 : B ≤ 600 := by omega
      refine ⟨c, c1, c2, ?_, c4⟩
      unfold F_X7_nodeBehind
      rw [widthOf_t gts hn hB6, wrap_id (by omega) (by omega), if_pos (isIn_iff.mpr (by omega)), rdD_ok (k := t + 2) (by omega) (by omega), show ((n : Int)).toNat = n by omega, gts.st n hn, wrap_id (by omega) (by omega), rdD_ok (by omega) (by omega), show ((S n : Int) + br).toNat = S n + br by omega, hrow s hs _ (by omega)]
      exact c3
    have hlearn : ∀ s, FrC σ0 s → KNo s (pf n) → ∀ br : Nat, br < wid τ a → KNo (F_X7_learn t n br s) ((a, br) :: pf n) ∧ FrJ s (F_X7_learn t n br s) := fun s hs hKs br hbr => by
      rw [ha] at hbr ⊢
      exact learn_to hW hF hM hWW hap (by rw [hrow s hs _ (by omega)]; exact gt.asks n hn) (by omega) hbr hKs Ex.rfl'
    have hwk : True → wrap ((k : Int) + 1) = ((k + 1 : Nat) : Int) := fun _ => by rw [wrap_id (by omega) (by omega)]; omega
    -- going on behind a branch
    have hgo : ∀ (s : Sg) (br : Nat) (y : XS), L_X7_decide_11 t n k σ = (bnd (F_X7_learn t n (br : Int) s) fun q18 => bnd (F_X7_nodeBehind t n (br : Int) q18) fun v20 => some (.inl (v20, wrap ((k : Int) + 1), q18))) → br < wid τ a → CR σ0 y s → KNo s (pf n) → WI τ m ((a, br) :: pf n) y → (∀ s', FrJ s s' → PF τ ((a, br) :: pf n) s') → TDec τ σ0 t m d ((a, br) :: pf n) y (iter (fun a : (Int × Int × Sg) => L_X7_decide_11 t a.1 a.2.1 a.2.2) (fu + 1) ((n : Int), (k : Int), σ)) := fun s br y hstep hbr hy hKs hwi hpf => by
      obtain ⟨l1, l2⟩ := hlearn s hy.1 hKs br hbr
      have hy' := hy.j l2
      obtain ⟨c, c1, c2, c3, c4⟩ := hbeh _ hy'.1 br hbr
      rw [bnd_eq, bnd_eq, c3, hwk trivial] at hstep
      rw [iter_l (f := fun a : (Int × Int × Sg) => L_X7_decide_11 t a.1 a.2.1 a.2.2) (a := ((n : Int), (k : Int), σ)) hstep, ← c4]
      exact tdec_l hC ht hD hB d c (k + 1) fu y _ (by omega) (by rw [c4, List.length_cons, hl]) c2 (by omega) (by rw [c4]; exact hwi) hy' (by rw [c4]; exact l1) (by rw [c4]; exact hpf _ l2)
    have h999 : ¬ (500 : Int) ≤ (k : Int) := by
      have := gt.len n n (Nat.le_refl _) hn
      omega
    rw [← ha] at ok1 ok2 ok3 ok4 u1 u2 u3
    have hunf : L_X7_decide_11 t n k σ = (if a.1 = 0 then (F_X7_bindNames t a.2.1 σ).bind fun q5 => bnd (F_X1_take a.2.1 q5) fun q7 => some (.inr (.inr (q7.1, q7.2))) else if a.1 = 1 then (F_X7_bindNames t a.2.1 σ).bind fun q10 => some (.inr (.inr ((-2), q10))) else if a.1 = 2 then bnd (F_X1_miss σ) fun q13 => some (.inr (.inr (q13.1, q13.2))) else (F_X7_branchTaken t n σ).bind fun q16 => bnd (F_X7_learn t n q16.1 q16.2) fun q18 => bnd (F_X7_nodeBehind t n q16.1 q18) fun v20 => some (.inl (v20, wrap ((k : Int) + 1), q18))) := by
      unfold L_X7_decide_11
      rw [if_neg h999, if_neg (by omega), (hask σ hx.1).1, (hask σ hx.1).2.1, bnd_eq]
    unfold TDec
    rw [wk_s, ← ha]
    by_cases c0 : a.1 = 0
    · obtain ⟨b1, b2⟩ := ok4 (Or.inr (Or.inl c0))
      obtain ⟨c, hc⟩ : ∃ c : Nat, a.2.1 = c := ⟨a.2.1.toNat, by omega⟩
      obtain ⟨σ1, e1, e2, e3, e4⟩ := bindNames_c (t := t) (c := c) hC hx hK hKP (by omega)
      rw [if_pos c0, hc, e1, Option.bind_some, bnd_eq] at hunf
      rw [if_pos c0, hc, Int.toNat_natCast]
      refine ⟨σ1, ?_, e2, hw.2.2.2, Or.inl rfl, Or.inr (by show (c : Int) < _; omega)⟩
      rw [iter_r (f := fun a : (Int × Int × Sg) => L_X7_decide_11 t a.1 a.2.1 a.2.2) (a := ((n : Int), (k : Int), σ)) hunf]
      unfold endC
      rw [if_pos rfl]
    rw [if_neg c0] at hunf ⊢
    by_cases c1 : a.1 = 1
    · obtain ⟨b1, b2⟩ := ok4 (Or.inr (Or.inr c1))
      obtain ⟨c, hc⟩ : ∃ c : Nat, a.2.1 = c := ⟨a.2.1.toNat, by omega⟩
      obtain ⟨σ1, e1, e2, e3, e4⟩ := bindNames_c (t := t) (c := c) hC hx hK hKP (by omega)
      rw [if_pos c1, hc, e1, Option.bind_some] at hunf
      rw [if_pos c1, hc, Int.toNat_natCast]
      refine ⟨σ1, ?_, e2, hw.2.2.2, Or.inr (Or.inl rfl), Or.inr (by show (c : Int) < _; omega)⟩
      rw [iter_r (f := fun a : (Int × Int × Sg) => L_X7_decide_11 t a.1 a.2.1 a.2.2) (a := ((n : Int), (k : Int), σ)) hunf]
      unfold endC
      dsimp only
      rw [if_neg (by decide), if_pos rfl]
    rw [if_neg c1] at hunf ⊢
    by_cases c2 : a.1 = 2
    · rw [if_pos c2, bnd_eq] at hunf
      rw [if_pos c2]
      refine ⟨σ, ?_, hx, hw.2.2.2, Or.inr (Or.inr rfl), Or.inl rfl⟩
      rw [iter_r (f := fun a : (Int × Int × Sg) => L_X7_decide_11 t a.1 a.2.1 a.2.2) (a := ((n : Int), (k : Int), σ)) hunf]
      unfold endC
      dsimp only
      rw [if_neg (by decide), if_neg (by decide)]
    rw [if_neg c2] at hunf ⊢
    by_cases c5 : a.1 = 5
    · obtain ⟨b1, b2⟩ := ok4 (Or.inl c5)
      obtain ⟨c, hc⟩ : ∃ c : Nat, a.2.1 = c := ⟨a.2.1.toNat, by omega⟩
      obtain ⟨w1, w2, w3⟩ := u3 c5
      rw [hc, Int.toNat_natCast] at w1 w2 w3
      obtain ⟨σ1, e1, e2, e3, e4⟩ := bindNames_c (t := t) (c := c) hC hx hK hKP (by omega)
      have hnum := tryB (E := envK (pf n)) (c := c) (x := x00) hW hF hM (hKP.hok hF hM) envB_K (by omega) w3 w2
      have hgd : True → F_X1_guardOf c σ1 = grd τ (hdR τ) c ((tryK τ (pf n) c).2.1, x.2) := fun _ => by
        refine guardOf_cl (hC.rm e2.1) (by omega) e2.2.1 (fun _ => ?_)
        obtain ⟨n1, n2, n3⟩ := hnum
        have hfk : Fk τ σ1 ((tryK τ (pf n) c).2.1 (τ 23 c).toNat) := by
          unfold Fk
          rw [e4]
          exact hP _ n1 n2 (by
            have : kd τ (hk (pf n)) ((tryK τ (pf n) c).2.1 (τ 23 c).toNat) = 4 := n3
            omega)
        exact headAt_k hF (hC.rv e2.1) hM hG ⟨n1, n2, by
          have h4 : kd τ (hk (pf n)) ((tryK τ (pf n) c).2.1 (τ 23 c).toNat) = 4 := n3
          have := hw.kd (pl := (tryK τ (pf n) c).2.1 (τ 23 c).toNat) (by omega)
          show 0 ≤ kd τ (hdR τ) ((tryK τ (pf n) c).2.1 (τ 23 c).toNat)
          omega⟩ hfk
      obtain ⟨br, hbr⟩ : ∃ br : Nat, br = if grd τ (hdR τ) c ((tryK τ (pf n) c).2.1, x.2) = 0 then 0 else 1 := ⟨_, rfl⟩
      have hbr2 : br < 2 := by rw [hbr]; split <;> omega
      have hbt : F_X7_branchTaken t n σ = some ((br : Int), σ1) := by
        unfold F_X7_branchTaken
        rw [(hask σ hx.1).1, (hask σ hx.1).2.1, bnd_eq, if_pos c5, hc, e1, Option.bind_some, hgd trivial, hbr]
        by_cases g : grd τ (hdR τ) c ((tryK τ (pf n) c).2.1, x.2) = 0
        · rw [if_pos g, if_pos g]; rfl
        · rw [if_neg g, if_neg g]; rfl
      rw [if_pos c5, hc, Int.toNat_natCast, ← hbr]
      rw [hbt, Option.bind_some] at hunf
      have hwi : WI τ m ((a, br) :: pf n) ((tryK τ (pf n) c).2.1, x.2) := by
        have := hw.guard (y := ((tryK τ (pf n) c).2.1, x.2)) (br := br) (by rw [← ha]; exact c5) hbr2 rfl
        rw [← ha] at this
        exact this
      exact hgo σ1 br _ hunf (by rw [wid_g c5]; exact hbr2) e2 e3 hwi (fun s' hj => hP.n3 (by omega) (by rw [hj 28 (by omega) (by omega) (by omega), e4]))
    rw [if_neg c5]
    obtain ⟨ct1, ct2⟩ := count_cl (τ := τ) hx
    have ct1' : CR σ0 (cntX x) (F_X1_countTest σ) := ct1
    have hK1 : KNo (F_X1_countTest σ) (pf n) := hK.o (fun r h1 h2 => ct2 r (by omega))
    by_cases c4 : a.1 = 4
    · obtain ⟨g1, g2, g3, g4, g5, g6⟩ := hw.given hT (by rw [← ha]; exact c4)
      rw [← ha] at g1 g2 g3 g4 g5 g6
      have hfk : Fk τ (F_X1_countTest σ) a.2.1 := by
        have := qry_qok hW hF hM hWW hap (Or.inr (by rw [← ha]; exact c4))
        rw [← ha] at this
        unfold Fk
        rw [ct2 28 (by omega)]
        rcases this with z | z
        · omega
        · exact hP _ z.2.1.1 z.2.1.2 z.2.2.1
      obtain ⟨σ1, e1, e2, e3, e4, e5⟩ := look_cl hF (hC.rv ct1'.1) hM hG (hC.rw ct1'.1) hC.hok ct1' hw.2.2.2 g2 g1 hfk
      have hbt : F_X7_branchTaken t n σ = some ((gvR τ a.2.2 a.2.1 (cntX x)).1, σ1) := by
        unfold F_X7_branchTaken
        rw [(hask σ hx.1).1, (hask σ hx.1).2.1, bnd_eq, if_neg c5, bnd_eq, (hask _ ct1'.1).1, (hask _ ct1'.1).2.2, if_pos c4, e1, Option.bind_some]
      rw [if_pos c4]
      rw [hbt, Option.bind_some] at hunf
      obtain ⟨br, hbr⟩ : ∃ br : Nat, (gvR τ a.2.2 a.2.1 (cntX x)).1 = br := ⟨(gvR τ a.2.2 a.2.1 (cntX x)).1.toNat, by omega⟩
      rw [hbr] at hunf g5 g6 ⊢
      rw [Int.toNat_natCast] at g5 g6 ⊢
      exact hgo σ1 br _ hunf g5 e2 (hK1.o (fun r h1 h2 => e4 r (by
        intro z
        simp only [List.mem_cons, List.not_mem_nil, or_false] at z
        omega))) g6 (fun s' hj => hP.n3 (by omega) (by rw [hj 28 (by omega) (by omega) (by omega), e4 28 (by decide), ct2 28 (by omega)]))
    · have c3 : a.1 = 3 := by have := ok1.1; omega
      obtain ⟨g1, g2, g3, g4, g5⟩ := hw.head hT (by rw [← ha]; exact c3)
      rw [← ha] at g1 g2 g3 g4 g5
      have hfk : Fk τ (F_X1_countTest σ) a.2.1 := by
        have := qry_qok hW hF hM hWW hap (Or.inl (by rw [← ha]; exact c3))
        rw [← ha] at this
        unfold Fk
        rw [ct2 28 (by omega)]
        rcases this with z | z
        · exact hP _ z.2.1.1 z.2.1.2 z.2.2.1
        · omega
      obtain ⟨σ1, e1, e2, e3, e4⟩ := open_cl hF (hC.rv ct1'.1) hM hG g1 hfk
      have hy := ct1'.o28 e2
      have hbt : F_X7_branchTaken t n σ = some (hdR τ a.2.1, σ1) := by
        unfold F_X7_branchTaken
        rw [(hask σ hx.1).1, (hask σ hx.1).2.1, bnd_eq, if_neg c5, bnd_eq, (hask _ ct1'.1).1, if_neg c4, e1, Option.bind_some, headAt_k hF (hC.rv hy.1) hM hG g1 (e3 _ g1 hfk)]
      rw [if_neg c4]
      rw [hbt, Option.bind_some] at hunf
      obtain ⟨br, hbr⟩ : ∃ br : Nat, hdR τ a.2.1 = br := ⟨(hdR τ a.2.1).toNat, by omega⟩
      rw [hbr] at hunf g4 g5 ⊢
      rw [Int.toNat_natCast] at g4 g5 ⊢
      have hKP' := AP.kp hW hF hM hWW g5.1
      exact hgo σ1 br _ hunf g4 hy (hK1.o (fun r h1 h2 => e2 r (by omega))) g5 (fun s' hj => hP.head hF hM hKP hKP' (fun q w1 w2 w3 => ⟨w1, w2, by rw [g5.kd w3]; exact w3⟩) (fun q hv hf => by
        have h1 := e3 q hv (by unfold Fk; rw [ct2 28 (by omega)]; exact hf)
        unfold Fk
        rw [hj 28 (by omega) (by omega) (by omega)]
        exact h1) (fun j j1 j2 hv => by
        have h1 := e4 j j1 j2 hv
        unfold Fk
        rw [hj 28 (by omega) (by omega) (by omega)]
        exact h1))
