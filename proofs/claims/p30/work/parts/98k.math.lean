/-! the automaton's steps -/
abbrev AF : (Int × Int × Sg) → Option ((Int × Int × Sg) ⊕ (Sg ⊕ (Int × Sg))) := fun a => L_X0_decide_20 a.1 a.2.1 a.2.2
theorem code_c {σ0 σ : Sg} {a op d u v : Nat} (hs : FrC σ0 σ) (h : σ0 34 a = (pk op d u v : Nat)) (ha : a < 1969) (h1 : op < 16) (h2 : d < 16) (h3 : u < 256) (h4 : v < 256) : F_X0_operationIn a σ = (op : Int) ∧ F_X0_numberIn a 8 σ = (u : Int) ∧ F_X0_numberIn a 16 σ = (v : Int) ∧ jand (jshr (rdD (-1) σ 34 1969 a) 4) 15 = (d : Int) := by
  have e : rdD (-1) σ 34 1969 a = ((pk op d u v : Nat) : Int) := by rw [rdD_ok (by omega) (by omega), show ((a : Int)).toNat = a by omega, hs.row (by omega), h]
  unfold F_X0_operationIn F_X0_numberIn
  rw [e]
  exact ⟨pk_op h1 h2 h3 h4, pk_1 h1 h2 h3 h4, pk_2 h1 h2 h3 h4, pk_d h1 h2 h3 h4⟩
theorem af_step {σ0 σ σ' : Sg} {a k N op : Nat} {r : Bool} (hs : FrC σ0 σ) (hs' : FrC σ0 σ') (hN : σ0 33 4 = N) (hkN : k < N) (haN : a < N) (h19 : N ≤ 1969) (ho : F_X0_operationIn a σ = (op : Int)) (h9 : ¬ op = 9 ∧ ¬ op = 10 ∧ ¬ op = 11) (hf : F_X0_follow a σ = some (r, σ')) : AF ((a : Int), (k : Int), σ) = some (.inl (if r = true then ((a + 1 : Nat) : Int) else σ0 35 a, ((k + 1 : Nat) : Int), σ')) := by
  have h33 : σ 33 4 = N := by rw [hs.2 4 (by omega), hN]
  have e35 : rdD (-1) σ' 35 1969 a = σ0 35 a := by rw [rdD_ok (by omega) (by omega), show ((a : Int)).toNat = a by omega, hs'.row (by omega)]
  show L_X0_decide_20 a k σ = _
  unfold L_X0_decide_20 B_X0_decide_149 B_X0_decide_150
  rw [h33, if_neg (by omega), bnd_eq, ho, if_neg (by omega), if_neg (by omega), if_neg (by omega), hf, Option.bind_some]
  clear ho hf
  dsimp only
  cases r with
  | true => rw [if_pos rfl, if_pos rfl, wrap_id (by omega) (by omega), wrap_id (by omega) (by omega)]; congr 3
  | false => rw [if_neg (by simp), if_neg (by simp), e35, wrap_id (by omega) (by omega)]; congr 3
theorem CR.up2w {σ0 σ : Sg} {x : XS} {r i : Nat} {v : Int} (hx : CR σ0 x σ) (hr : r = 36 ∨ (r = 33 ∧ i = 5)) : CR σ0 x (up2 σ r i v) := by
  obtain ⟨h1, h2, h3, h4, h5, h6⟩ := hx
  refine ⟨h1.up ?_, fun j hj => by rw [up2_row (by omega)]; exact h2 j hj, by rw [up2_row (by omega)]; exact h3, by rw [up2_row (by omega)]; exact h4, rnc_congr (s := σ) (by funext j; rw [up2_row (by omega)]) h5, h6.congr (by funext j; rw [up2_row (by omega)])⟩
  rcases hr with z | z
  · exact Or.inl (by rw [z]; decide)
  · exact Or.inr z
theorem PX.up2w {τ σ0 σ : Sg} {x : XS} {r i : Nat} {v : Int} (hx : PX τ σ0 x σ) (hr : r = 36 ∨ (r = 33 ∧ i = 5)) : PX τ σ0 x (up2 σ r i v) ∧ Fmono τ σ (up2 σ r i v) := by
  have hm : Fmono τ σ (up2 σ r i v) := Fmono.row (by funext j; rw [up2_row (by omega)])
  exact ⟨⟨hx.1.up2w hr, hx.2.1, hx.2.2.mono rfl hm⟩, hm⟩
set_option maxHeartbeats 4000000 in
theorem exNn {σ0 τ : Sg} (hC : CtxC σ0 τ) {N : Nat} (hN : σ0 33 4 = N) (h19 : N ≤ 1969) : ∀ (n m p a b k : Nat) (L : List Nat) (f : Nat) (d : Int) (x : XS) (σ : Sg), sgN τ σ0 n p a b L → (∀ y ∈ L, σ0 35 y = (f : Int)) → b ≤ f → f < N → (p : Int) < τ 0 9 → τ 17 p = 1 → τ 14 p ≤ m → (0 ≤ d ∧ d ≤ 9) → σ 33 5 = d → CR σ0 x σ → k ≤ a → ∃ (r : Bool) (j : Nat) (σ' : Sg), Rch AF j ((a : Int), (k : Int), σ) (((if r = true then b else f : Nat) : Int), ((k + j : Nat) : Int), σ') ∧ k + j ≤ (if r = true then b else f) ∧ (mt τ (envR τ) m p (-1 - d) x).1 = .inl r ∧ CR σ0 (mt τ (envR τ) m p (-1 - d) x).2 σ' ∧ (mt τ (envR τ) m p (-1 - d) x).2.2.2 = x.2.2 ∧ (mt τ (envR τ) m p (-1 - d) x).2.1 = x.1 ∧ ∀ r, ¬ r = 27 → σ' r = σ r
  | 0, m, p, a, b, k, L, f, d, x, σ, h, _, _, _, _, _, _, _, _, _, _ => h.elim
  | n + 1, 0, p, a, b, k, L, f, d, x, σ, _, _, _, _, hp, _, h1, _, _, _, _ => by have := hC.2.2.1.2.1.ge hp; omega
  | n + 1, m + 1, p, a, b, k, L, f, d, x, σ, h, hL, hbf, hfN, hp, hb, h2, hd, hg, hx, hk => by
    have hW := hC.2.2.1.2.1
    have hge := hW.ge hp
    have hform := hW.form hp
    have hokS := sgN_ok h
    unfold sgN at h
    show ∃ (r : Bool) (j : Nat) (σ' : Sg), _ ∧ _ ∧ (mtG τ (envR τ) (mt τ (envR τ) m) p (-1 - d) x).1 = .inl r ∧ CR σ0 (mtG τ (envR τ) (mt τ (envR τ) m) p (-1 - d) x).2 σ' ∧ (mtG τ (envR τ) (mt τ (envR τ) m) p (-1 - d) x).2.2.2 = x.2.2 ∧ (mtG τ (envR τ) (mt τ (envR τ) m) p (-1 - d) x).2.1 = x.1 ∧ ∀ r, ¬ r = 27 → σ' r = σ r
    unfold mtG
    by_cases c0 : τ 8 p = 0
    · rw [if_pos c0] at h ⊢
      refine ⟨true, 0, σ, ?_, ?_, rfl, hx, rfl, rfl, fun _ _ => rfl⟩
      · rw [if_pos rfl, h.1]; exact Rch.nil
      · rw [if_pos rfl]; omega
    rw [if_neg c0] at h ⊢
    by_cases c4 : τ 8 p = 4
    · rw [if_pos c4] at h
      obtain ⟨g0, g1, -, -, -, -, g6⟩ := hW.g4 hp c4
      have bb := g6.mp hb
      clear g6
      have b0 := hW.pb hp (k := 0) (by omega)
      have b1 := hW.pb hp (k := 1) (by omega)
      obtain ⟨-, -, z0⟩ := sz_part hW hp (k := 0) (by omega) (by omega)
      obtain ⟨-, -, z1⟩ := sz_part hW hp (k := 1) (by omega) (by omega)
      obtain ⟨q, L0, s1, s2, s3, s4, s5⟩ := h
      have i1 := sgN_ok s1
      have i5 := sgN_ok s5
      have l1 := i1.1
      have l5 := i5.1
      rw [if_neg (by omega), if_pos c4]
      obtain ⟨r, j, σ1, e1, e2, e3, e4, e5, e6, e7⟩ := exNn hC hN h19 n m (prt τ p 0).toNat a q k L0 (q + 1) d x σ s1 (fun y hy => by rw [s2 y hy]; omega) (by omega) (by omega) (by omega) bb.1 (by omega) hd hg hx hk
      cases r with
      | true =>
        rw [if_pos rfl] at e1 e2
        obtain ⟨o1, o2, o3, o4⟩ := code_c (op := 8) (d := 0) (u := 0) (v := 0) e4.1 s3 (by omega) (by omega) (by omega) (by omega) (by omega)
        have hfl : F_X0_follow q σ1 = some (false, σ1) := by
          unfold F_X0_follow
          rw [bnd_eq, bnd_eq, bnd_eq, o1]
          rfl
        have hst := af_step (k := k + j) (op := 8) e4.1 e4.1 hN (by omega) (by omega) h19 o1 (by omega) hfl
        rw [if_neg (by simp), s4] at hst
        rw [if_neg (by rw [e3]; simp)]
        refine ⟨true, j + 1, σ1, ?_, ?_, e3, e4, e5, e6, e7⟩
        · rw [if_pos rfl]
          have := e1.snoc hst
          exact this
        · rw [if_pos rfl]; omega
      | false =>
        rw [if_neg (by simp)] at e1 e2
        rw [if_pos e3]
        obtain ⟨r', j', σ2, t1, t2, t3, t4, t5, t6, t7⟩ := exNn hC hN h19 n m (prt τ p 1).toNat (q + 1) b (k + j) L f d _ σ1 s5 hL hbf hfN (by omega) bb.2 (by omega) hd (by rw [e7 33 (by omega)]; exact hg) e4 e2
        refine ⟨r', j + j', σ2, ?_, by rw [← Nat.add_assoc]; exact t2, t3, t4, by rw [t5, e5], by rw [t6, e6], fun z hz => by rw [t7 z hz, e7 z hz]⟩
        rw [← Nat.add_assoc]
        exact e1.trans t1
    · rw [if_neg c4] at h
      have c2 : τ 8 p = 2 := by
        have a1 : ¬ τ 8 p = 1 := fun q => by have := (hW.g1 hp q).2.2.2.2.2; omega
        have a3 : ¬ τ 8 p = 3 := fun q => by obtain ⟨_, _, _, _, _, _, z, _⟩ := hW.g3 hp q; omega
        have a5 : ¬ τ 8 p = 5 := fun q => by have := (hW.g5 hp q).2.2.2.2.2.1; omega
        have a6 : ¬ τ 8 p = 6 := fun q => by have := (hW.g6 hp q).2.2.2.1; omega
        omega
      obtain ⟨s1, s2, s3⟩ := h
      obtain ⟨lh1, lh2⟩ := lowhigh hW hp c0 (by omega) c4 (by omega)
      have hfe : factE (envR τ) (-1 - d) = d := by unfold factE; rw [if_pos (by omega)]; omega
      obtain ⟨x1, x2⟩ := count_cl (τ := τ) hx
      obtain ⟨o1, o2, o3, o4⟩ := code_c (op := 7) (d := 0) hx.1 s1 (by omega) (by omega) (by omega) (by omega) (by omega)
      obtain ⟨-, -, o3', -⟩ := code_c (op := 7) (d := 0) x1.1 s1 (by omega) (by omega) (by omega) (by omega) (by omega)
      have hfl : F_X0_follow a σ = some (isR τ p d, F_X1_countTest σ) := by
        have h5 : F_X1_countTest σ 33 5 = d := by rw [x2 33 (by omega)]; exact hg
        unfold F_X0_follow
        rw [bnd_eq, bnd_eq, bnd_eq, o1, o2, if_neg (by decide), if_neg (by decide), if_neg (by decide), if_neg (by decide), if_neg (by decide), if_neg (by decide), if_neg (by decide), if_pos (by decide), bnd_eq, h5, o3', show (((lowOf τ p).toNat : Nat) : Int) = lowOf τ p by omega, show (((highOf τ p).toNat : Nat) : Int) = highOf τ p by omega]
        have e1 : lowOf τ p = τ 9 p := by unfold lowOf; rw [if_neg (by omega)]
        have e2 : highOf τ p = τ 10 p := by unfold highOf; rw [if_pos c2]
        rw [e1, e2]
        unfold isR
        rw [if_pos c2]
        congr 2
        by_cases q : τ 9 p ≤ d ∧ d ≤ τ 10 p
        · rw [decide_eq_true q]; exact isIn_iff.mpr q
        · rw [decide_eq_false q]
          exact Bool.eq_false_iff.mpr (fun z => q (isIn_iff.mp z))
      have hst := af_step (k := k) (op := 7) hx.1 x1.1 hN (by omega) (by omega) h19 o1 (by omega) hfl
      clear hfl o1 o2 o3 o3' o4
      rw [hL a (by rw [s3]; exact List.mem_cons_self)] at hst
      rw [if_neg (by omega), if_neg c4, if_neg (by omega), hfe, if_neg (by omega)]
      obtain ⟨-, g0, g1, g2, -⟩ := hW.g2 hp c2
      have hPL : partsL τ p (-1 - d) d = [] := by unfold partsL part1; rw [if_pos g0, if_pos g1, if_pos g2]; rfl
      rw [hPL]
      by_cases cr : isR τ p d = true
      · rw [cr, if_pos rfl] at hst
        rw [if_pos cr]
        refine ⟨true, 1, F_X1_countTest σ, ?_, ?_, rfl, x1, rfl, rfl, x2⟩
        · rw [if_pos rfl, s2]; exact Rch.one hst
        · rw [if_pos rfl]; omega
      · have cf : isR τ p d = false := by simpa using cr
        rw [cf, if_neg (by simp)] at hst
        rw [if_neg cr]
        refine ⟨false, 1, F_X1_countTest σ, ?_, ?_, rfl, x1, rfl, rfl, x2⟩
        · rw [if_neg (by simp)]; exact Rch.one hst
        · rw [if_neg (by simp)]; omega
