/-! the given program's tree, grown -/
set_option maxHeartbeats 4000000 in
theorem step_u {σ0 τ σ : Sg} {t : Nat} {m : Bool} {pf : Nat → Pth} {S : Nat → Nat} {N B cur : Nat} {M : Nat → Nat} (hG0 : CtxG σ0 τ) (ht : 43 ≤ t) (hfr : FrG t σ0 σ) (hZ : Z42 σ) (h : GC τ σ t m pf S N B cur M) (hM : M cur = wid τ (qry τ m (pf cur))) : FrG t σ0 (F_X7_learn t cur (-1) σ) ∧ Z42 (F_X7_learn t cur (-1) σ) ∧ (∀ r, t ≤ r → F_X7_learn t cur (-1) σ r = σ r) ∧ ((cur = 0 ∧ F_X7_learn t cur (-1) σ (t + 4) cur = -1 ∧ GD τ (F_X7_learn t cur (-1) σ) t m pf S N B) ∨ ∃ p : Nat, F_X7_learn t cur (-1) σ (t + 4) cur = p ∧ GC τ (F_X7_learn t cur (-1) σ) t m pf S N B p M ∧ (pf cur).length = (pf p).length + 1) := by
  have hG := hfr.ctx ht hG0
  have hW := hG.2.1.2.1
  have hF := hG.1.2.2.2
  have hMm := hG.2.2.2.2.2.2.1
  have hWW := WFW_of hG.2.2.1
  have gt := h.gt
  have hcN := h.cN
  have h5 := gt.n500
  obtain ⟨k1, k2⟩ := learn_off hW hF hMm hWW (gt.ap cur hcN) (gt.asks cur hcN) (by omega) h.kn h.ex (fun c => by
    rw [wid_leaf c] at hM
    rw [if_pos hM])
  obtain ⟨σ1, hσ1⟩ : ∃ σ1, σ1 = F_X7_learn t cur (-1) σ := ⟨_, rfl⟩
  rw [← hσ1] at k1 k2 ⊢
  have hrow : ∀ r, t ≤ r → σ1 r = σ r := fun r hr => k2 r (by omega) (by omega) (by omega)
  have gt1 : GT τ σ1 t m pf S N B := gt.fr (fun r r1 r2 => hrow r r1)
  refine ⟨hfr.j k2, fun y y1 y2 => by rw [k2 42 (by omega) (by omega) (by omega)]; exact hZ y y1 y2, hrow, ?_⟩
  have hdone : ∀ n, n < N → M n = wid τ (qry τ m (pf n)) → ∀ i, i < wid τ (qry τ m (pf n)) → ∃ c, 0 < c ∧ c < N ∧ pf c = (qry τ m (pf n), i) :: pf n := fun n hn hm i hi => h.kid n i hn (by omega)
  by_cases g : cur = 0
  · refine Or.inl ⟨g, ?_, gt1, fun n i hn hi => hdone n hn ?_ i hi⟩
    · rw [g]; exact gt1.a0
    · by_cases q : n = cur
      · rw [q]; exact hM
      · refine h.off n hn (fun z => q ?_)
        rw [g, gt.p0] at z
        have z2 := List.mem_singleton.mp z
        exact gt.inj hn hcN (by rw [z2, g, gt.p0])
  · obtain ⟨p, i, a1, a2, a3, a4, a5⟩ := gt.par cur (by omega) hcN
    have hpN : p < N := by omega
    have hMp : M p = i + 1 := h.stk p i hpN (by rw [a4]; exact sfx_self _)
    have hsub : ∀ Q, Q ∈ sfx (pf p) → Q ∈ sfx (pf cur) := fun Q hQ => by rw [a4]; exact List.mem_cons_of_mem _ hQ
    refine Or.inr ⟨p, by rw [hrow _ (by omega)]; exact a3, ⟨gt1, hpN, fun n hn => by rw [hrow _ (by omega)]; exact h.mk n hn, h.kid, fun n hn hoff => ?_, fun n j hn hin => h.stk n j hn (hsub _ hin), fun n hn => ?_, ?_⟩, by rw [a4, List.length_cons]⟩
    · by_cases q : n = cur
      · rw [q]; exact hM
      · refine h.off n hn (fun z => ?_)
        rw [a4] at z
        rcases List.mem_cons.mp z with z | z
        · rw [← a4] at z; exact q (gt.inj hn hcN z)
        · exact hoff z
    · have := h.top n hn
      refine lx_trans _ _ _ this ?_
      rw [a4, hMp]
      show lx (rp (pf p) ++ [i] ++ [M cur]) (rp (pf p) ++ [i + 1])
      rw [List.append_assoc]
      exact lx_lt _ _ _ (by omega)
    · rw [if_neg (by omega), hMp, show i + 1 - 1 = i by omega, ← a4]
      exact k1
set_option maxHeartbeats 4000000 in
theorem grow_l {σ0 τ : Sg} {t : Nat} {m : Bool} (hG0 : CtxG σ0 τ) (ht : 43 ≤ t) : ∀ (d k fu : Nat) (σ : Sg) (pf : Nat → Pth) (S : Nat → Nat) (N B cur : Nat) (M : Nat → Nat), 999 ≤ k + d → k + 2 + (pf cur).length = 2 * N → d + 1 < fu → FrG t σ0 σ → Z42 σ → σ t 2 = mI m → σ t 6 = -1 → σ t 3 = 0 → B + 1 ≤ 500 → GC τ σ t m pf S N B cur M → ∃ σ', iter (fun a : (Int × Int × Sg) => L_X7_grow_61 t a.1 a.2.1 a.2.2) fu ((cur : Int), (k : Int), σ) = some σ' ∧ FrG t σ0 σ' ∧ Z42 σ' ∧ σ' t 2 = mI m ∧ σ' t 6 = -1 ∧ 0 < σ' t 4 ∧ ((σ' t 3 = 0 ∧ ∃ pf S N B, B + 1 ≤ 500 ∧ GD τ σ' t m pf S N B) ∨ (σ' t 3 = 1 ∧ Large τ m))
  | 0, k, fu, σ, pf, S, N, B, cur, M, hk, hl, hfu, hfr, hZ, h2, h6, h3, hB, h => by have := h.gt.n500; omega
  | d + 1, k, fu, σ, pf, S, N, B, cur, M, hk, hl, hfu, hfr, hZ, h2, h6, h3, hB, h => by
    obtain ⟨fu, rfl⟩ : ∃ z, fu = z + 1 := ⟨fu - 1, by omega⟩
    have gt := h.gt
    have hcN := h.cN
    have h5 := gt.n500
    obtain ⟨m1, m2⟩ := h.mk cur hcN
    have hw10 : wid τ (qry τ m (pf cur)) ≤ 10 := by
      have hG := hfr.ctx ht hG0
      exact (qry_ok hG.2.1.2.1 hG.1.2.2.2 hG.2.2.2.2.2.2.1 (WFW_of hG.2.2.1) (gt.ap cur hcN)).2.1
    have hwk : True → wrap ((k : Int) + 1) = ((k + 1 : Nat) : Int) := fun _ => by rw [wrap_id (by omega) (by omega)]; omega
    have hB6 : B ≤ 600 := by omega
    by_cases g : M cur < wid τ (qry τ m (pf cur))
    · obtain ⟨σ', pf', S', M', w, p1, p2, p3, p4, p5, p6, p7, p8⟩ := stepP hG0 ht hfr hZ h2 h6 h (by omega) g
      have hstep : L_X7_grow_61 t cur k σ = some (.inl ((N : Int), ((k + 1 : Nat) : Int), σ')) := by
        unfold L_X7_grow_61 B_X7_grow_140
        rw [if_neg (by omega), if_neg (by omega), if_pos h3, rdD_ok (by omega) (by omega), show ((cur : Int)).toNat = cur by omega, m1, bnd_eq, widthOf_t gt hcN hB6, if_neg (by omega), wrD_ok (by omega) (by omega), show ((cur : Int)).toNat = cur by omega, wrap_id (z := (M cur : Int) + 1) (by omega) (by omega), show (M cur : Int) + 1 = ((M cur + 1 : Nat) : Int) by omega, bnd_eq, bnd_eq, p1, Option.bind_some, hwk trivial]
      rw [iter_l (f := fun a : (Int × Int × Sg) => L_X7_grow_61 t a.1 a.2.1 a.2.2) (a := ((cur : Int), (k : Int), σ)) hstep]
      by_cases gB : B + w + 1 ≤ 500
      · rw [if_pos gB] at p6
        exact grow_l hG0 ht d (k + 1) fu σ' pf' S' (N + 1) (B + w) N M' (by omega) (by rw [p8]; omega) (by omega) p2 p3 p4 p5 p6 gB p7
      · rw [if_neg gB] at p6
        obtain ⟨fu, rfl⟩ : ∃ z, fu = z + 1 := ⟨fu - 1, by omega⟩
        have hend : L_X7_grow_61 t N ((k + 1 : Nat) : Int) σ' = some (.inr σ') := by
          unfold L_X7_grow_61
          by_cases q : (1000 : Int) ≤ ((k + 1 : Nat) : Int)
          · rw [if_pos q]
          · rw [if_neg q, if_neg (by omega), if_neg (by omega)]
        refine ⟨σ', iter_r hend, p2, p3, p4, p5, ?_, Or.inr ⟨p6, p7.gt.large (by omega)⟩⟩
        have := p7.gt.n4
        omega
    · have hMw : M cur = wid τ (qry τ m (pf cur)) := by omega
      obtain ⟨q1, q2, q3, q4⟩ := step_u hG0 ht hfr hZ h hMw
      obtain ⟨σ1, hσ1⟩ : ∃ σ1, σ1 = F_X7_learn t cur (-1) σ := ⟨_, rfl⟩
      have hstep : L_X7_grow_61 t cur k σ = some (.inl (σ1 (t + 4) cur, ((k + 1 : Nat) : Int), σ1)) := by
        unfold L_X7_grow_61 B_X7_grow_140
        rw [if_neg (by omega), if_neg (by omega), if_pos h3, rdD_ok (by omega) (by omega), show ((cur : Int)).toNat = cur by omega, m1, bnd_eq, widthOf_t gt hcN hB6, if_pos (by omega), ← hσ1, bnd_eq, rdD_ok (by omega) (by omega), show ((cur : Int)).toNat = cur by omega, bnd_eq, hwk trivial]
      rw [← hσ1] at q1 q2 q3 q4
      have h2' : σ1 t 2 = mI m := by rw [q3 t (by omega)]; exact h2
      have h6' : σ1 t 6 = -1 := by rw [q3 t (by omega)]; exact h6
      have h3' : σ1 t 3 = 0 := by rw [q3 t (by omega)]; exact h3
      rcases q4 with ⟨z1, z2, z3⟩ | ⟨p, z1, z2, z3⟩
      · rw [z2] at hstep
        rw [iter_l (f := fun a : (Int × Int × Sg) => L_X7_grow_61 t a.1 a.2.1 a.2.2) (a := ((cur : Int), (k : Int), σ)) hstep]
        obtain ⟨fu, rfl⟩ : ∃ z, fu = z + 1 := ⟨fu - 1, by omega⟩
        have hend : L_X7_grow_61 t (-1) ((k + 1 : Nat) : Int) σ1 = some (.inr σ1) := by
          unfold L_X7_grow_61
          by_cases q : (1000 : Int) ≤ ((k + 1 : Nat) : Int)
          · rw [if_pos q]
          · rw [if_neg q, if_pos rfl]
        refine ⟨σ1, iter_r hend, q1, q2, h2', h6', ?_, Or.inl ⟨h3', pf, S, N, B, hB, z3⟩⟩
        have := z3.1.n4
        have := z3.1.pos
        omega
      · rw [z1] at hstep
        rw [iter_l (f := fun a : (Int × Int × Sg) => L_X7_grow_61 t a.1 a.2.1 a.2.2) (a := ((cur : Int), (k : Int), σ)) hstep]
        exact grow_l hG0 ht d (k + 1) fu σ1 pf S N B p M (by omega) (by omega) (by omega) q1 q2 h2' h6' h3' hB z2
