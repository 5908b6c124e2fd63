/-! the node that stands for a node; how many stand for themselves -/
theorem sameAs_l {τ σ : Sg} {t : Nat} {m : Bool} {pf : Nat → Pth} {S : Nat → Nat} {N B k : Nat} (h : GD τ σ t m pf S N B) (hB : B ≤ 499) (hI : SInv τ σ t m pf N (k + 1)) (hk : k < N) (hlen : ∀ n, n < N → (pf n).length ≤ 499) (hok : ∀ n, n < N → okAs (qry τ m (pf n)) ∧ wid τ (qry τ m (pf n)) ≤ 10) (hni : ¬ idl τ m (pf k)) : ∀ (d x n : Nat), x + d = N → k < x → d < n → (iter (fun a : Int => L_X7_sameAs_43 t k σ a) n (x : Int) = some (.inl ()) ∧ ∀ o : Nat, x ≤ o → o < N → σ (t + 5) o = o → ¬ cdP τ m (pf o) = cdP τ m (pf k)) ∨ ∃ o : Nat, x ≤ o ∧ o < N ∧ iter (fun a : Int => L_X7_sameAs_43 t k σ a) n (x : Int) = some (.inr (o : Int)) ∧ σ (t + 5) o = o ∧ cdP τ m (pf o) = cdP τ m (pf k)
  | 0, x, n, hx, hkx, hn => by
    obtain ⟨n, rfl⟩ : ∃ z, n = z + 1 := ⟨n - 1, by omega⟩
    refine Or.inl ⟨?_, fun o h1 h2 => by omega⟩
    rw [iter_r (b := .inl ()) (by
      show L_X7_sameAs_43 t k σ x = _
      unfold L_X7_sameAs_43
      rw [h.1.n4, if_pos (by omega)])]
  | d + 1, x, n, hx, hkx, hn => by
    obtain ⟨n, rfl⟩ : ∃ z, n = z + 1 := ⟨n - 1, by omega⟩
    have h500 := h.1.n500
    have hxN : x < N := by omega
    have hm : True → rdD (-1) σ (t + 5) 500 (x : Int) = σ (t + 5) x := fun _ => by rw [rdD_ok (by omega) (by omega), show ((x : Int)).toNat = x by omega]
    have hnext : (L_X7_sameAs_43 t k σ x = some (.inl (((x + 1 : Nat) : Int)))) → ¬ (σ (t + 5) x = x ∧ cdP τ m (pf x) = cdP τ m (pf k)) → _ := fun e1 e2 => by
      have ih := sameAs_l h hB hI hk hlen hok hni d (x + 1) n (by omega) (by omega) (by omega)
      have e3 : iter (fun a : Int => L_X7_sameAs_43 t k σ a) (n + 1) (x : Int) = iter (fun a : Int => L_X7_sameAs_43 t k σ a) n ((x + 1 : Nat) : Int) := iter_l e1
      exact (show (iter (fun a : Int => L_X7_sameAs_43 t k σ a) (n + 1) (x : Int) = some (.inl ()) ∧ ∀ o : Nat, x ≤ o → o < N → σ (t + 5) o = o → ¬ cdP τ m (pf o) = cdP τ m (pf k)) ∨ ∃ o : Nat, x ≤ o ∧ o < N ∧ iter (fun a : Int => L_X7_sameAs_43 t k σ a) (n + 1) (x : Int) = some (.inr (o : Int)) ∧ σ (t + 5) o = o ∧ cdP τ m (pf o) = cdP τ m (pf k) by
        rw [e3]
        rcases ih with ⟨i1, i2⟩ | ⟨o, o1, o2, o3, o4, o5⟩
        · refine Or.inl ⟨i1, fun o h1 h2 h3 h4 => ?_⟩
          by_cases g : o = x
          · rw [g] at h3 h4; exact e2 ⟨h3, h4⟩
          · exact i2 o (by omega) h2 h3 h4
        · exact Or.inr ⟨o, by omega, o2, o3, o4, o5⟩)
    have hw : True → wrap ((x : Int) + 1) = ((x + 1 : Nat) : Int) := fun _ => by rw [wrap_id (by omega) (by omega)]; omega
    obtain ⟨b, b1, b2⟩ := areSame_k h hB hI hkx hxN hok
    by_cases g1 : σ (t + 5) x = x
    · obtain ⟨r, r1, r2, r3, r4, r5, r6⟩ := hI.rep x (by omega) hxN
      have hrx : r = x := by omega
      rw [hrx] at r5
      have hcd := cdP_same (hlen k hk) (hlen x hxN) hni r5
      have hunf : L_X7_sameAs_43 t k σ x = if b = true then some (.inr (.inr (x : Int))) else some (.inl (((x + 1 : Nat) : Int))) := by
        unfold L_X7_sameAs_43 B_X7_sameAs_74
        rw [h.1.n4, if_neg (by omega), hm trivial, if_pos g1, b1, Option.bind_some, hw trivial]
      by_cases g2 : b = true
      · rw [if_pos g2] at hunf
        refine Or.inr ⟨x, Nat.le_refl _, hxN, iter_r hunf, g1, ?_⟩
        exact (hcd.mpr (b2.mp g2)).symm
      · rw [if_neg g2] at hunf
        exact hnext hunf (fun z => g2 (b2.mpr (hcd.mp z.2.symm)))
    · refine hnext ?_ (fun z => g1 z.1)
      unfold L_X7_sameAs_43 B_X7_sameAs_74
      rw [h.1.n4, if_neg (by omega), hm trivial, if_neg g1, hw trivial]
theorem sameAs_k {τ σ : Sg} {t : Nat} {m : Bool} {pf : Nat → Pth} {S : Nat → Nat} {N B k : Nat} (h : GD τ σ t m pf S N B) (hB : B ≤ 499) (hI : SInv τ σ t m pf N (k + 1)) (hk : k < N) (hlen : ∀ n, n < N → (pf n).length ≤ 499) (hok : ∀ n, n < N → okAs (qry τ m (pf n)) ∧ wid τ (qry τ m (pf n)) ≤ 10) : ∃ r : Nat, F_X7_sameAs t k σ = some (r : Int) ∧ r < N ∧ ((r = k ∧ ¬ idl τ m (pf k) ∧ ∀ o : Nat, k < o → o < N → σ (t + 5) o = o → ¬ cdP τ m (pf o) = cdP τ m (pf k)) ∨ (k < r ∧ σ (t + 5) r = r ∧ ¬ idl τ m (pf r) ∧ cdP τ m (pf r) = cdP τ m (pf k))) := by
  have hB6 : B ≤ 600 := by omega
  have h500 := h.1.n500
  have hw10 := (hok k hk).2
  have hm : ∀ c : Nat, c < N → rdD (-1) σ (t + 5) 500 (c : Int) = σ (t + 5) c := fun c hc => by rw [rdD_ok (by omega) (by omega), show ((c : Int)).toNat = c by omega]
  have h39 : ¬ idl τ m (pf k) → ∃ r : Nat, B_X7_sameAs_39 t k σ = some (r : Int) ∧ r < N ∧ ((r = k ∧ ¬ idl τ m (pf k) ∧ ∀ o : Nat, k < o → o < N → σ (t + 5) o = o → ¬ cdP τ m (pf o) = cdP τ m (pf k)) ∨ (k < r ∧ σ (t + 5) r = r ∧ ¬ idl τ m (pf r) ∧ cdP τ m (pf r) = cdP τ m (pf k))) := fun hni => by
    have hw : True → wrap ((k : Int) + 1) = ((k + 1 : Nat) : Int) := fun _ => by rw [wrap_id (by omega) (by omega)]; omega
    unfold B_X7_sameAs_39
    rw [hw trivial, bnd_eq]
    rcases sameAs_l h hB hI hk hlen hok hni (N - (k + 1)) (k + 1) 3000 (by omega) (by omega) (by omega) with ⟨i1, i2⟩ | ⟨o, o1, o2, o3, o4, o5⟩
    · rw [i1, Option.bind_some, Sum.elim_inl]
      exact ⟨k, rfl, hk, Or.inl ⟨rfl, hni, fun o h1 h2 => i2 o (by omega) h2⟩⟩
    · rw [o3, Option.bind_some, Sum.elim_inr]
      obtain ⟨r, r1, r2, r3, r4, r5, r6⟩ := hI.rep o (by omega) o2
      have hro : r = o := by omega
      rw [hro] at r5
      exact ⟨o, rfl, o2, Or.inr ⟨by omega, o4, r5, o5⟩⟩
  unfold F_X7_sameAs
  rw [(sortOf_t (h.1.asks k hk) (hok k hk).1 (by omega)).1, widthOf_t h.1 hk hB6]
  by_cases c3 : (qry τ m (pf k)).1 = 3
  · rw [if_pos c3]
    by_cases cw : wid τ (qry τ m (pf k)) = 0
    · rw [if_pos (by omega)]
      exact h39 (fun z => by have := z.2.1; omega)
    · rw [if_neg (by omega)]
      obtain ⟨b, b1, b2⟩ := isIdle_k h hB hI hk (by omega) hw10
      rw [b1, Option.bind_some]
      by_cases g : b = true
      · rw [if_pos g]
        have hid : idl τ m (pf k) := ⟨c3, by omega, b2.mp g⟩
        obtain ⟨c0, d1, d2, d3, d4⟩ := nodeBehind_t h hB hk (show 0 < wid τ (qry τ m (pf k)) by omega)
        have d4' : True → F_X7_nodeBehind t k 0 σ = c0 := fun _ => d4 trivial
        obtain ⟨r, r1, r2, r3, r4, r5, r6⟩ := hI.rep c0 (by omega) d2
        rw [d4' trivial, hm c0 d2, r1]
        refine ⟨r, rfl, r3, Or.inr ⟨by omega, r4, r5, ?_⟩⟩
        rw [r6, d3, cdP_i (hlen k hk) hid]
      · rw [if_neg g]
        exact h39 (fun z => g (b2.mpr z.2.2))
  · rw [if_neg c3]
    exact h39 (fun z => c3 z.1)
set_option maxHeartbeats 4000000 in
theorem shared_s {τ σ : Sg} {t : Nat} {m : Bool} {pf : Nat → Pth} {S : Nat → Nat} {N B k : Nat} (h : GD τ σ t m pf S N B) (hB : B ≤ 499) (hI : SInv τ σ t m pf N (k + 1)) (hk : k < N) (hlen : ∀ n, n < N → (pf n).length ≤ 499) (hok : ∀ n, n < N → okAs (qry τ m (pf n)) ∧ wid τ (qry τ m (pf n)) ≤ 10) : ∃ σ', L_X7_sharedCount_20 t k σ = some (.inl ((k : Int) - 1, σ')) ∧ FrS t σ σ' ∧ SInv τ σ' t m pf N k := by
  have h500 := h.1.n500
  obtain ⟨r, e1, e2, e3⟩ := sameAs_k h hB hI hk hlen hok
  obtain ⟨L, l1, l0, l2, l3, l4, l5⟩ := hI.cnt
  have hwk : True → wrap ((k : Int) + -1) = (k : Int) - 1 := fun _ => by rw [wrap_id (by omega) (by omega)]; omega
  have hup : ∀ i, up2 σ (t + 5) k r (t + 5) i = if i = k then (r : Int) else σ (t + 5) i := fun i => by
    by_cases q : i = k
    · rw [up2_at rfl q, if_pos q]
    · rw [up2_idx q, if_neg q]
  have hs : ∀ n, k ≤ n → n = k ∨ k + 1 ≤ n := fun n hn => by omega
  have hold : ∀ (σ' : Sg), (∀ i, σ' (t + 5) i = if i = k then (r : Int) else σ (t + 5) i) → (∀ n, k ≤ n → n < N → ∃ r : Nat, σ' (t + 5) n = r ∧ n ≤ r ∧ r < N ∧ σ' (t + 5) r = r ∧ ¬ idl τ m (pf r) ∧ cdP τ m (pf r) = cdP τ m (pf n)) ∧ ∀ a b : Nat, k ≤ a → k ≤ b → a < N → b < N → σ' (t + 5) a = a → σ' (t + 5) b = b → cdP τ m (pf a) = cdP τ m (pf b) → a = b := fun σ' hσ => by
    refine ⟨fun n n1 n2 => ?_, fun a b a1 b1 a2 b2 a3 b3 e => ?_⟩
    · rcases hs n n1 with q | q
      · subst q
        refine ⟨r, by rw [hσ, if_pos rfl], ?_⟩
        rcases e3 with ⟨g1, g2, g3⟩ | ⟨g1, g2, g3, g4⟩
        · rw [g1]
          exact ⟨Nat.le_refl _, hk, by rw [hσ, if_pos rfl, g1], g2, rfl⟩
        · exact ⟨by omega, e2, by rw [hσ, if_neg (by omega)]; exact g2, g3, g4⟩
      · obtain ⟨u, u1, u2, u3, u4, u5, u6⟩ := hI.rep n q n2
        exact ⟨u, by rw [hσ, if_neg (by omega)]; exact u1, u2, u3, by rw [hσ, if_neg (by omega)]; exact u4, u5, u6⟩
    · rw [hσ] at a3 b3
      rcases hs a a1 with q | q
      · rcases hs b b1 with w | w
        · omega
        · rw [if_pos q] at a3
          rw [if_neg (by omega)] at b3
          have hrk : r = k := by omega
          rcases e3 with ⟨g1, g2, g3⟩ | ⟨g1, -⟩
          · rw [q] at e
            exact absurd e.symm (g3 b (by omega) b2 b3)
          · omega
      · rw [if_neg (by omega)] at a3
        rcases hs b b1 with w | w
        · rw [if_pos w] at b3
          have hrk : r = k := by omega
          rcases e3 with ⟨g1, g2, g3⟩ | ⟨g1, -⟩
          · rw [w] at e
            exact absurd e (g3 a (by omega) a2 a3)
          · omega
        · rw [if_neg (by omega)] at b3
          exact hI.uni a b q w a2 b2 a3 b3 e
  have hstep : ∀ y : Bool, (y = true ↔ r = k) → L_X7_sharedCount_20 t k σ = some (.inl ((k : Int) - 1, up2 (up2 σ (t + 5) k r) t 6 ((L.length : Int) + b2i y))) := fun y hy => by
    have hw6 : True → wrap ((L.length : Int) + b2i y) = (L.length : Int) + b2i y := fun _ => by
      have := b2i_01 y
      exact wrap_id (by omega) (by omega)
    have h6 : up2 σ (t + 5) k r t 6 = L.length := by rw [up2_row (by omega)]; exact l1
    unfold L_X7_sharedCount_20 B_X7_sharedCount_59
    rw [if_neg (by omega), e1, Option.bind_some, wrD_ok (by omega) (by omega), bnd_eq, show ((k : Int)).toNat = k by omega, rdD_ok (by omega) (by omega), show ((k : Int)).toNat = k by omega, hup, if_pos rfl, bnd_eq, bnd_eq, h6]
    cases y with
    | true => rw [if_pos (by have := hy.mp rfl; omega), hw6 trivial, hwk trivial]
    | false => rw [if_neg (fun z => by
        have : false = true := hy.mpr (by omega)
        cases this), hw6 trivial, hwk trivial]
  have hfr : ∀ v, FrS t σ (up2 (up2 σ (t + 5) k r) t 6 v) := fun v q i q1 q2 => by
    have : up2 (up2 σ (t + 5) k r) t 6 v q i = up2 σ (t + 5) k r q i := by
      unfold up2; rw [if_neg q2]
    rw [this, up2_row q1]
  have hup2 : ∀ v i, up2 (up2 σ (t + 5) k r) t 6 v (t + 5) i = if i = k then (r : Int) else σ (t + 5) i := fun v i => by
    rw [up2_row (by omega)]; exact hup i
  rcases e3 with ⟨g1, g2, g3⟩ | ⟨g1, g2, g3, g4⟩
  · refine ⟨_, hstep true ⟨fun _ => g1, fun _ => rfl⟩, hfr _, (hold _ (hup2 _)).1, (hold _ (hup2 _)).2, pf k :: L, ?_, by rw [List.length_cons]; omega, fun P hP => ?_, ?_, fun n n1 n2 => ?_, fun P hP => ?_⟩
    · rw [up2_at rfl rfl, List.length_cons]
      show (L.length : Int) + 1 = ((L.length + 1 : Nat) : Int)
      omega
    · rcases List.mem_cons.mp hP with q | q
      · rw [q]; exact h.1.ap k hk
      · exact l2 P q
    · rw [List.map_cons, List.nodup_cons]
      refine ⟨fun q => ?_, l3⟩
      obtain ⟨P, p1, p2⟩ := List.mem_map.mp q
      obtain ⟨n, n1, n2, n3, n4⟩ := l5 P p1
      rw [← n4] at p2
      exact g3 n (by omega) n2 n3 p2
    · rcases hs n n1 with q | q
      · exact ⟨pf k, List.mem_cons_self, by rw [q]⟩
      · obtain ⟨Q, q1, q2⟩ := l4 n q n2
        exact ⟨Q, List.mem_cons_of_mem _ q1, q2⟩
    · rcases List.mem_cons.mp hP with q | q
      · exact ⟨k, Nat.le_refl _, hk, by rw [hup2, if_pos rfl, g1], q.symm⟩
      · obtain ⟨n, n1, n2, n3, n4⟩ := l5 P q
        exact ⟨n, by omega, n2, by rw [hup2, if_neg (by omega)]; exact n3, n4⟩
  · refine ⟨_, hstep false ⟨fun q => (by cases q), fun q => by omega⟩, hfr _, (hold _ (hup2 _)).1, (hold _ (hup2 _)).2, L, ?_, by omega, l2, l3, fun n n1 n2 => ?_, fun P hP => ?_⟩
    · rw [up2_at rfl rfl]
      show (L.length : Int) + 0 = (L.length : Int)
      omega
    · rcases hs n n1 with q | q
      · obtain ⟨Q, q1, q2⟩ := l4 r (by omega) e2
        exact ⟨Q, q1, by rw [q2, g4, q]⟩
      · exact l4 n q n2
    · obtain ⟨n, n1, n2, n3, n4⟩ := l5 P hP
      exact ⟨n, by omega, n2, by rw [hup2, if_neg (by omega)]; exact n3, n4⟩
theorem FrS.trans {t : Nat} {a b c : Sg} (h : FrS t a b) (h' : FrS t b c) : FrS t a c := fun r i h1 h2 => by rw [h' r i h1 h2, h r i h1 h2]
theorem shared_l {τ : Sg} {t : Nat} {m : Bool} {pf : Nat → Pth} {S : Nat → Nat} {N B : Nat} (hB : B ≤ 499) (hlen : ∀ n, n < N → (pf n).length ≤ 499) (hok : ∀ n, n < N → okAs (qry τ m (pf n)) ∧ wid τ (qry τ m (pf n)) ≤ 10) : ∀ (k fu : Nat) (σ : Sg), k ≤ N → k < fu → GD τ σ t m pf S N B → SInv τ σ t m pf N k → ∃ σ', iter (fun a : (Int × Sg) => L_X7_sharedCount_20 t a.1 a.2) fu ((k : Int) - 1, σ) = some σ' ∧ FrS t σ σ' ∧ SInv τ σ' t m pf N 0
  | 0, fu, σ, hk, hfu, h, hI => by
    obtain ⟨fu, rfl⟩ : ∃ z, fu = z + 1 := ⟨fu - 1, by omega⟩
    refine ⟨σ, ?_, fun _ _ _ _ => rfl, hI⟩
    rw [iter_r (b := σ) (by
      show L_X7_sharedCount_20 t (((0 : Nat) : Int) - 1) σ = _
      unfold L_X7_sharedCount_20
      rw [if_pos (by omega)])]
  | k + 1, fu, σ, hk, hfu, h, hI => by
    obtain ⟨fu, rfl⟩ : ∃ z, fu = z + 1 := ⟨fu - 1, by omega⟩
    obtain ⟨σ1, e1, e2, e3⟩ := shared_s h hB hI (by omega) hlen hok
    obtain ⟨σ', f1, f2, f3⟩ := shared_l hB hlen hok k fu σ1 (by omega) (by omega) (h.fr6 e2) e3
    refine ⟨σ', ?_, e2.trans f2, f3⟩
    rw [show ((k + 1 : Nat) : Int) - 1 = (k : Int) by omega, iter_l (f := fun a : (Int × Sg) => L_X7_sharedCount_20 t a.1 a.2) (a := ((k : Int), σ)) e1]
    exact f1
set_option maxHeartbeats 4000000 in
theorem shared_c {τ σ : Sg} {t : Nat} {m : Bool} {pf : Nat → Pth} {S : Nat → Nat} {N B : Nat} (h : GD τ σ t m pf S N B) (hB : B ≤ 499) (hok : ∀ n, n < N → okAs (qry τ m (pf n)) ∧ wid τ (qry τ m (pf n)) ≤ 10) (h6 : σ t 6 = -1 ∨ ∃ K : Nat, σ t 6 = K ∧ ShOK τ m K) : ∃ (K : Nat) (σ' : Sg), F_X7_sharedCount t σ = some ((K : Int), σ') ∧ ShOK τ m K ∧ σ' t 6 = K ∧ FrS t σ σ' := by
  have h500 := h.1.n500
  have hpos := h.1.pos
  have hlen : ∀ n, n < N → (pf n).length ≤ 499 := fun n hn => by have := h.1.len n n (Nat.le_refl _) hn; omega
  unfold F_X7_sharedCount
  rcases h6 with h6 | ⟨K, k1, k2⟩
  · have hfr0 : FrS t σ (up2 σ t 6 0) := fun r i _ q => by unfold up2; rw [if_neg q]
    have h0 := h.fr6 hfr0
    have hI0 : SInv τ (up2 σ t 6 0) t m pf N N := ⟨fun n n1 n2 => by omega, fun a b a1 b1 a2 b2 _ _ _ => by omega, [], by rw [up2_at rfl rfl]; rfl, by show 0 + N ≤ N; omega, fun P hP => (by cases hP), List.nodup_nil, fun n n1 n2 => by omega, fun P hP => (by cases hP)⟩
    obtain ⟨σ', f1, f2, f3⟩ := shared_l hB hlen hok N 3000 (up2 σ t 6 0) (Nat.le_refl _) (by omega) h0 hI0
    obtain ⟨L, l1, l0, l2, l3, l4, l5⟩ := f3.cnt
    refine ⟨L.length, σ', ?_, ⟨L, rfl, l2, l3, fun P hP => ?_⟩, l1, hfr0.trans f2⟩
    · rw [if_pos h6, bnd_eq, h0.1.n4, wrap_id (by omega) (by omega), bnd_eq, f1, Option.bind_some]
      unfold B_X7_sharedCount_69
      rw [l1]
    · obtain ⟨n, n1, n2⟩ := h.tree.sur P hP
      obtain ⟨Q, q1, q2⟩ := l4 n (by omega) n1
      exact ⟨Q, q1, by rw [q2, n2]⟩
  · rw [if_neg (by omega)]
    refine ⟨K, σ, ?_, k2, k1, fun _ _ _ _ => rfl⟩
    unfold B_X7_sharedCount_69
    rw [k1]
