/-! trees, whatever holds them -/
def TreeOK (τ : Sg) (m : Bool) (N : Nat) (ask : Nat → Ask) (ch : Nat → Nat → Nat) (pf : Nat → Pth) : Prop :=
  (0 < N) ∧
  (pf 0 = []) ∧
  (∀ n, n < N → AP τ m (pf n)) ∧
  (∀ n, n < N → ask n = qry τ m (pf n)) ∧
  (∀ n i, n < N → i < wid τ (ask n) → 0 < ch n i ∧ ch n i < N ∧ pf (ch n i) = (ask n, i) :: pf n) ∧
  (∀ k, 0 < k → k < N → ∃ n i, n < N ∧ i < wid τ (ask n) ∧ ch n i = k)
theorem TreeOK.pos {τ : Sg} {m : Bool} {N : Nat} {ask : Nat → Ask} {ch : Nat → Nat → Nat} {pf : Nat → Pth} (h : TreeOK τ m N ask ch pf) : 0 < N := h.1
theorem TreeOK.p0 {τ : Sg} {m : Bool} {N : Nat} {ask : Nat → Ask} {ch : Nat → Nat → Nat} {pf : Nat → Pth} (h : TreeOK τ m N ask ch pf) : pf 0 = [] := h.2.1
theorem TreeOK.ap {τ : Sg} {m : Bool} {N : Nat} {ask : Nat → Ask} {ch : Nat → Nat → Nat} {pf : Nat → Pth} (h : TreeOK τ m N ask ch pf) : ∀ n, n < N → AP τ m (pf n) := h.2.2.1
theorem TreeOK.asks {τ : Sg} {m : Bool} {N : Nat} {ask : Nat → Ask} {ch : Nat → Nat → Nat} {pf : Nat → Pth} (h : TreeOK τ m N ask ch pf) : ∀ n, n < N → ask n = qry τ m (pf n) := h.2.2.2.1
theorem TreeOK.ch_ {τ : Sg} {m : Bool} {N : Nat} {ask : Nat → Ask} {ch : Nat → Nat → Nat} {pf : Nat → Pth} (h : TreeOK τ m N ask ch pf) : ∀ n i, n < N → i < wid τ (ask n) → 0 < ch n i ∧ ch n i < N ∧ pf (ch n i) = (ask n, i) :: pf n := h.2.2.2.2.1
theorem TreeOK.par {τ : Sg} {m : Bool} {N : Nat} {ask : Nat → Ask} {ch : Nat → Nat → Nat} {pf : Nat → Pth} (h : TreeOK τ m N ask ch pf) : ∀ k, 0 < k → k < N → ∃ n i, n < N ∧ i < wid τ (ask n) ∧ ch n i = k := h.2.2.2.2.2
theorem TreeOK.inj {τ : Sg} {m : Bool} {N : Nat} {ask : Nat → Ask} {ch : Nat → Nat → Nat} {pf : Nat → Pth} (h : TreeOK τ m N ask ch pf) : ∀ (l a b : Nat), (pf a).length ≤ l → a < N → b < N → pf a = pf b → a = b := by
  intro l
  induction l with
  | zero =>
    intro a b hl ha hb e
    have z : ∀ c, c < N → pf c = [] → c = 0 := fun c hc hp => by
      by_cases g : c = 0
      · exact g
      · obtain ⟨n, i, n1, n2, n3⟩ := h.par c (by omega) hc
        have := (h.ch_ n i n1 n2).2.2
        rw [n3, hp] at this
        cases this
    have ea : pf a = [] := List.length_eq_zero_iff.mp (by omega)
    rw [z a ha ea, z b hb (by rw [← e]; exact ea)]
  | succ l ih =>
    intro a b hl ha hb e
    have z : ∀ c, c < N → pf c = [] → c = 0 := fun c hc hp => by
      by_cases g : c = 0
      · exact g
      · obtain ⟨n, i, n1, n2, n3⟩ := h.par c (by omega) hc
        have := (h.ch_ n i n1 n2).2.2
        rw [n3, hp] at this
        cases this
    by_cases ga : a = 0
    · rw [ga, h.p0] at e
      rw [ga, z b hb e.symm]
    by_cases gb : b = 0
    · rw [gb, h.p0] at e
      rw [gb, z a ha e]
    obtain ⟨n, i, n1, n2, n3⟩ := h.par a (by omega) ha
    obtain ⟨n', i', n1', n2', n3'⟩ := h.par b (by omega) hb
    have e1 := (h.ch_ n i n1 n2).2.2
    have e2 := (h.ch_ n' i' n1' n2').2.2
    rw [n3] at e1
    rw [n3'] at e2
    rw [e1] at hl
    rw [List.length_cons] at hl
    rw [e1, e2] at e
    injection e with q1 q2
    have hn := ih n n' (by omega) n1 n1' q2
    injection q1 with q3 q4
    rw [← n3, ← n3', hn, q4]
theorem TreeOK.sur {τ : Sg} {m : Bool} {N : Nat} {ask : Nat → Ask} {ch : Nat → Nat → Nat} {pf : Nat → Pth} (h : TreeOK τ m N ask ch pf) : ∀ P, AP τ m P → ∃ n, n < N ∧ pf n = P
  | [], _ => ⟨0, h.pos, h.p0⟩
  | q :: P, hq => by
    obtain ⟨n, n1, n2⟩ := TreeOK.sur h P hq.1
    have e : ask n = q.1 := by rw [h.asks n n1, n2]; exact hq.2.1.symm
    obtain ⟨c1, c2, c3⟩ := h.ch_ n q.2 n1 (by rw [e]; exact hq.2.2)
    exact ⟨ch n q.2, c2, by rw [c3, e, n2]⟩
theorem sub_lenD {l m : List Pth} (h1 : l.Nodup) (h2 : ∀ a ∈ l, a ∈ m) : l.length ≤ m.length := by
  classical
  exact sub_len h1 h2
theorem TreeOK.len {τ : Sg} {m : Bool} {N : Nat} {ask : Nat → Ask} {ch : Nat → Nat → Nat} {pf : Nat → Pth} (h : TreeOK τ m N ask ch pf) {L : List Pth} (h1 : L.Nodup) (h2 : ∀ P ∈ L, AP τ m P) : L.length ≤ N := by
  have := sub_lenD (l := L) (m := (List.range N).map pf) h1 (fun P hP => by
    obtain ⟨n, n1, n2⟩ := h.sur P (h2 P hP)
    exact List.mem_map.mpr ⟨n, List.mem_range.mpr n1, n2⟩)
  rw [List.length_map, List.length_range] at this
  exact this
theorem nodup_map {f : Nat → Pth} {N : Nat} (h : ∀ a b, a < N → b < N → f a = f b → a = b) : ((List.range N).map f).Nodup := by
  rw [List.nodup_iff_pairwise_ne, List.pairwise_map, List.pairwise_iff_getElem]
  intro i j hi hj hij e
  rw [List.length_range] at hi hj
  rw [List.getElem_range, List.getElem_range] at e
  have := h i j hi hj e
  omega
theorem TreeOK.eq {τ : Sg} {m : Bool} {N N' : Nat} {ask ask' : Nat → Ask} {ch ch' : Nat → Nat → Nat} {pf pf' : Nat → Pth} (h : TreeOK τ m N ask ch pf) (h' : TreeOK τ m N' ask' ch' pf') : N = N' := by
  have a : N ≤ N' := by
    have := h'.len (L := (List.range N).map pf) (nodup_map (fun a b ha hb e => h.inj _ a b (Nat.le_refl _) ha hb e)) (fun P hP => by
      obtain ⟨n, n1, rfl⟩ := List.mem_map.mp hP
      exact h.ap n (List.mem_range.mp n1))
    rw [List.length_map, List.length_range] at this
    exact this
  have b : N' ≤ N := by
    have := h.len (L := (List.range N').map pf') (nodup_map (fun a b ha hb e => h'.inj _ a b (Nat.le_refl _) ha hb e)) (fun P hP => by
      obtain ⟨n, n1, rfl⟩ := List.mem_map.mp hP
      exact h'.ap n (List.mem_range.mp n1))
    rw [List.length_map, List.length_range] at this
    exact this
  omega
def Large (τ : Sg) (m : Bool) : Prop := ∃ L : List Pth, L.Nodup ∧ (∀ P ∈ L, AP τ m P) ∧ 500 < L.length
theorem TreeOK.small {τ : Sg} {m : Bool} {N : Nat} {ask : Nat → Ask} {ch : Nat → Nat → Nat} {pf : Nat → Pth} (h : TreeOK τ m N ask ch pf) (hN : N ≤ 500) : ¬ Large τ m := by
  rintro ⟨L, l1, l2, l3⟩
  have := h.len l1 l2
  omega
theorem EqP.tree {τ τ' : Sg} (e : EqP τ τ') (hW : WFP τ) (hM : WFM τ) {m : Bool} {N : Nat} {ask : Nat → Ask} {ch : Nat → Nat → Nat} {pf : Nat → Pth} (h : TreeOK τ m N ask ch pf) : TreeOK τ' m N ask ch pf :=
  ⟨h.pos, h.p0, fun n hn => (e.apE hW hM m _).mpr (h.ap n hn), fun n hn => by rw [e.qryE hW hM]; exact h.asks n hn, fun n i hn hi => h.ch_ n i hn (by rw [← e.widE]; exact hi), fun k k0 hk => by
    obtain ⟨n, i, a, b, c⟩ := h.par k k0 hk
    exact ⟨n, i, a, by rw [e.widE]; exact b, c⟩⟩
theorem EqP.large {τ τ' : Sg} (e : EqP τ τ') (hW : WFP τ) (hM : WFM τ) {m : Bool} (h : Large τ m) : Large τ' m := by
  obtain ⟨L, l1, l2, l3⟩ := h
  exact ⟨L, l1, fun P hP => (e.apE hW hM m _).mpr (l2 P hP), l3⟩
/-! the reference's tree while it is laid -/
def BI (τ s : Sg) (m : Bool) (pf : Nat → Pth) (N k : Nat) : Prop :=
  (s 0 56 = N) ∧
  (N ≤ 500) ∧
  (k ≤ N) ∧
  (0 < N) ∧
  (pf 0 = []) ∧
  (∀ n, n < N → AP τ m (pf n)) ∧
  (∀ n, 0 < n → n < N → ∃ a i, a < n ∧ a < k ∧ i < wid τ (qry τ m (pf a)) ∧ s 40 n = a ∧ s 44 a + i = n ∧ pf n = (qry τ m (pf a), i) :: pf a) ∧
  (∀ n, n < k → rAsk s n = qry τ m (pf n) ∧ s 45 n = wid τ (qry τ m (pf n)) ∧ ∃ f : Nat, s 44 n = f ∧ (0 < wid τ (qry τ m (pf n)) → 0 < f) ∧ ∀ i, i < wid τ (qry τ m (pf n)) → f + i < N ∧ pf (f + i) = (qry τ m (pf n), i) :: pf n) ∧
  (∀ n, k ≤ n → n < N → s 45 n = 0 ∧ 0 ≤ s 44 n ∧ ((s 41 n = -9 ∧ qry τ m (pf n) = seekM τ m (pf n)) ∨ ((s 41 n = 0 ∨ s 41 n = 1) ∧ rAsk s n = qry τ m (pf n))))
theorem BI.n56 {τ s : Sg} {m : Bool} {pf : Nat → Pth} {N k : Nat} (h : BI τ s m pf N k) : s 0 56 = N := h.1
theorem BI.n500 {τ s : Sg} {m : Bool} {pf : Nat → Pth} {N k : Nat} (h : BI τ s m pf N k) : N ≤ 500 := h.2.1
theorem BI.kN {τ s : Sg} {m : Bool} {pf : Nat → Pth} {N k : Nat} (h : BI τ s m pf N k) : k ≤ N := h.2.2.1
theorem BI.pos {τ s : Sg} {m : Bool} {pf : Nat → Pth} {N k : Nat} (h : BI τ s m pf N k) : 0 < N := h.2.2.2.1
theorem BI.p0 {τ s : Sg} {m : Bool} {pf : Nat → Pth} {N k : Nat} (h : BI τ s m pf N k) : pf 0 = [] := h.2.2.2.2.1
theorem BI.ap {τ s : Sg} {m : Bool} {pf : Nat → Pth} {N k : Nat} (h : BI τ s m pf N k) : ∀ n, n < N → AP τ m (pf n) := h.2.2.2.2.2.1
theorem BI.par {τ s : Sg} {m : Bool} {pf : Nat → Pth} {N k : Nat} (h : BI τ s m pf N k) : ∀ n, 0 < n → n < N → ∃ a i, a < n ∧ a < k ∧ i < wid τ (qry τ m (pf a)) ∧ s 40 n = a ∧ s 44 a + i = n ∧ pf n = (qry τ m (pf a), i) :: pf a := h.2.2.2.2.2.2.1
theorem BI.fin {τ s : Sg} {m : Bool} {pf : Nat → Pth} {N k : Nat} (h : BI τ s m pf N k) : ∀ n, n < k → rAsk s n = qry τ m (pf n) ∧ s 45 n = wid τ (qry τ m (pf n)) ∧ ∃ f : Nat, s 44 n = f ∧ (0 < wid τ (qry τ m (pf n)) → 0 < f) ∧ ∀ i, i < wid τ (qry τ m (pf n)) → f + i < N ∧ pf (f + i) = (qry τ m (pf n), i) :: pf n := h.2.2.2.2.2.2.2.1
theorem BI.todo {τ s : Sg} {m : Bool} {pf : Nat → Pth} {N k : Nat} (h : BI τ s m pf N k) : ∀ n, k ≤ n → n < N → s 45 n = 0 ∧ 0 ≤ s 44 n ∧ ((s 41 n = -9 ∧ qry τ m (pf n) = seekM τ m (pf n)) ∨ ((s 41 n = 0 ∨ s 41 n = 1) ∧ rAsk s n = qry τ m (pf n))) := h.2.2.2.2.2.2.2.2
theorem BI.inj {τ s : Sg} {m : Bool} {pf : Nat → Pth} {N k : Nat} (h : BI τ s m pf N k) : ∀ (l a b : Nat), (pf a).length ≤ l → a < N → b < N → pf a = pf b → a = b := by
  have z : ∀ c, c < N → pf c = [] → c = 0 := fun c hc hp => by
    by_cases g : c = 0
    · exact g
    · obtain ⟨n, i, n1, n2, n3, n4, n5, n6⟩ := h.par c (by omega) hc
      rw [hp] at n6
      cases n6
  intro l
  induction l with
  | zero =>
    intro a b hl ha hb e
    have ea : pf a = [] := List.length_eq_zero_iff.mp (by omega)
    rw [z a ha ea, z b hb (by rw [← e]; exact ea)]
  | succ l ih =>
    intro a b hl ha hb e
    by_cases ga : a = 0
    · rw [ga, h.p0] at e
      rw [ga, z b hb e.symm]
    by_cases gb : b = 0
    · rw [gb, h.p0] at e
      rw [gb, z a ha e]
    obtain ⟨n, i, n1, n2, n3, n4, n5, e1⟩ := h.par a (by omega) ha
    obtain ⟨n', i', n1', n2', n3', n4', n5', e2⟩ := h.par b (by omega) hb
    rw [e1] at hl
    rw [List.length_cons] at hl
    rw [e1, e2] at e
    injection e with q1 q2
    have hn := ih n n' (by omega) (by omega) (by omega) q2
    injection q1 with q3 q4
    subst hn
    omega
theorem BI.large {τ s : Sg} {m : Bool} {pf : Nat → Pth} {N k : Nat} (h : BI τ s m pf N k) (hk : k < N) (hl : 500 < N + wid τ (qry τ m (pf k))) : Large τ m := by
  refine ⟨(List.range N).map pf ++ (List.range (wid τ (qry τ m (pf k)))).map (fun i => (qry τ m (pf k), i) :: pf k), ?_, ?_, ?_⟩
  · rw [List.nodup_append]
    refine ⟨nodup_map (fun a b ha hb e => h.inj _ a b (Nat.le_refl _) ha hb e), nodup_map (fun a b ha hb e => by
      injection e with e1 e2
      injection e1), fun P hP Q hQ e => ?_⟩
    obtain ⟨n, n1, rfl⟩ := List.mem_map.mp hP
    obtain ⟨i, i1, rfl⟩ := List.mem_map.mp hQ
    have hn := List.mem_range.mp n1
    by_cases g : n = 0
    · rw [g, h.p0] at e; cases e
    · obtain ⟨a, j, a1, a2, a3, a4, a5, a6⟩ := h.par n (by omega) hn
      rw [a6] at e
      injection e with e1 e2
      have := h.inj _ a k (Nat.le_refl _) (by omega) hk e2
      omega
  · intro P hP
    rcases List.mem_append.mp hP with hP | hP
    · obtain ⟨n, n1, rfl⟩ := List.mem_map.mp hP
      exact h.ap n (List.mem_range.mp n1)
    · obtain ⟨i, i1, rfl⟩ := List.mem_map.mp hP
      exact ⟨h.ap k hk, rfl, List.mem_range.mp i1⟩
  · rw [List.length_append, List.length_map, List.length_map, List.length_range, List.length_range]
    exact hl
theorem BI.tree {τ s : Sg} {m : Bool} {pf : Nat → Pth} {N : Nat} (h : BI τ s m pf N N) : TreeOK τ m N (rAsk s) (fun n i => (s 44 n).toNat + i) pf := by
  refine ⟨h.pos, h.p0, h.ap, fun n hn => (h.fin n hn).1, fun n i hn hi => ?_, fun k k0 hk => ?_⟩
  · obtain ⟨f1, f2, f, f3, f4, f5⟩ := h.fin n hn
    rw [f1] at hi
    obtain ⟨g1, g2⟩ := f5 i hi
    dsimp only
    rw [f1, f3]
    have := f4 (by omega)
    exact ⟨by omega, by show (f : Int).toNat + i < N; omega, by show pf ((f : Int).toNat + i) = _; rw [show (f : Int).toNat = f by omega]; exact g2⟩
  · obtain ⟨a, i, a1, a2, a3, a4, a5, a6⟩ := h.par k k0 hk
    have ha : a < N := by omega
    refine ⟨a, i, ha, by rw [(h.fin a ha).1]; exact a3, ?_⟩
    obtain ⟨f1, f2, f, f3, f4, f5⟩ := h.fin a ha
    show (s 44 a).toNat + i = k
    omega
theorem BI.leaf {τ s s' : Sg} {m : Bool} {pf : Nat → Pth} {N k : Nat} (h : BI τ s m pf N k) (hk : k < N) (h56 : s' 0 56 = s 0 56) (ho : ∀ r n, 40 ≤ r → r ≤ 45 → ¬ n = k → s' r n = s r n) (h40 : s' 40 k = s 40 k) (h44 : s' 44 k = s 44 k) (h45 : s' 45 k = s 45 k) (ha : rAsk s' k = qry τ m (pf k)) (hw : wid τ (qry τ m (pf k)) = 0) : BI τ s' m pf N (k + 1) := by
  have e40 : ∀ n, s' 40 n = s 40 n := fun n => by
    by_cases g : n = k
    · rw [g]; exact h40
    · exact ho 40 n (by omega) (by omega) g
  have e44 : ∀ n, s' 44 n = s 44 n := fun n => by
    by_cases g : n = k
    · rw [g]; exact h44
    · exact ho 44 n (by omega) (by omega) g
  have er : ∀ n, ¬ n = k → rAsk s' n = rAsk s n := fun n hn => by
    unfold rAsk
    rw [ho 41 n (by omega) (by omega) hn, ho 42 n (by omega) (by omega) hn, ho 43 n (by omega) (by omega) hn]
  refine ⟨by rw [h56]; exact h.n56, h.n500, by omega, h.pos, h.p0, h.ap, fun n n0 hn => ?_, fun n hn => ?_, fun n hn hN => ?_⟩
  · obtain ⟨a, i, a1, a2, a3, a4, a5, a6⟩ := h.par n n0 hn
    exact ⟨a, i, a1, by omega, a3, by rw [e40]; exact a4, by rw [e44]; exact a5, a6⟩
  · by_cases g : n = k
    · subst g
      obtain ⟨t1, t2, -⟩ := h.todo n (Nat.le_refl _) hk
      refine ⟨ha, by rw [h45, t1, hw]; rfl, (s 44 n).toNat, by rw [h44]; omega, fun z => by omega, fun i hi => by omega⟩
    · obtain ⟨f1, f2, f, f3, f4, f5⟩ := h.fin n (by omega)
      exact ⟨by rw [er n g]; exact f1, by rw [ho 45 n (by omega) (by omega) g]; exact f2, f, by rw [e44]; exact f3, f4, f5⟩
  · obtain ⟨t1, t2, t3⟩ := h.todo n (by omega) hN
    rw [e44, ho 45 n (by omega) (by omega) (by omega), ho 41 n (by omega) (by omega) (by omega), er n (by omega)]
    exact ⟨t1, t2, t3⟩
theorem BI.node {τ s s' : Sg} {m : Bool} {pf : Nat → Pth} {N k many : Nat} {A : Ask} (h : BI τ s m pf N k) (hk : k < N) (hA : A = qry τ m (pf k)) (hm : many = wid τ A) (hN : N + many ≤ 500) (h56 : s' 0 56 = ((N + many : Nat) : Int)) (ho : ∀ r n, 40 ≤ r → r ≤ 45 → n < N → ¬ n = k → s' r n = s r n) (h40 : s' 40 k = s 40 k) (h44 : s' 44 k = N) (h45 : s' 45 k = many) (ha : rAsk s' k = A) (hnew : ∀ i, i < many → s' 40 (N + i) = k ∧ s' 45 (N + i) = 0 ∧ 0 ≤ s' 44 (N + i) ∧ ((s' 41 (N + i) = -9 ∧ qry τ m ((A, i) :: pf k) = seekM τ m ((A, i) :: pf k)) ∨ ((s' 41 (N + i) = 0 ∨ s' 41 (N + i) = 1) ∧ rAsk s' (N + i) = qry τ m ((A, i) :: pf k)))) : BI τ s' m (fun n => if n < N then pf n else (A, n - N) :: pf k) (N + many) (k + 1) := by
  have er : ∀ n, n < N → ¬ n = k → rAsk s' n = rAsk s n := fun n hN' hn => by
    unfold rAsk
    rw [ho 41 n (by omega) (by omega) hN' hn, ho 42 n (by omega) (by omega) hN' hn, ho 43 n (by omega) (by omega) hN' hn]
  have pl : ∀ n, n < N → (if n < N then pf n else (A, n - N) :: pf k) = pf n := fun n hn => if_pos hn
  have pn : ∀ i, (if N + i < N then pf (N + i) else (A, N + i - N) :: pf k) = (A, i) :: pf k := fun i => by
    rw [if_neg (by omega), show N + i - N = i by omega]
  have e40 : ∀ n, n < N → s' 40 n = s 40 n := fun n hn => by
    by_cases g : n = k
    · rw [g]; exact h40
    · exact ho 40 n (by omega) (by omega) hn g
  have hpos := h.pos
  refine ⟨h56, hN, by omega, by omega, by show (if 0 < N then pf 0 else (A, 0 - N) :: pf k) = []; rw [pl 0 hpos]; exact h.p0, fun n hn => ?_, fun n n0 hn => ?_, fun n hn => ?_, fun n hn hNn => ?_⟩
  · by_cases g : n < N
    · show AP τ m (if n < N then pf n else (A, n - N) :: pf k)
      rw [pl n g]; exact h.ap n g
    · obtain ⟨i, rfl⟩ : ∃ i, n = N + i := ⟨n - N, by omega⟩
      show AP τ m (if N + i < N then pf (N + i) else (A, N + i - N) :: pf k)
      rw [pn i]
      exact ⟨h.ap k hk, hA, by show i < wid τ A; omega⟩
  · show ∃ a i, a < n ∧ a < k + 1 ∧ i < wid τ (qry τ m (if a < N then pf a else (A, a - N) :: pf k)) ∧ s' 40 n = (a : Int) ∧ s' 44 a + (i : Int) = (n : Int) ∧ (if n < N then pf n else (A, n - N) :: pf k) = (qry τ m (if a < N then pf a else (A, a - N) :: pf k), i) :: (if a < N then pf a else (A, a - N) :: pf k)
    by_cases g : n < N
    · obtain ⟨a, i, a1, a2, a3, a4, a5, a6⟩ := h.par n n0 g
      refine ⟨a, i, a1, by omega, ?_, ?_, ?_, ?_⟩
      · rw [pl a (by omega)]; exact a3
      · rw [e40 n g]; exact a4
      · rw [ho 44 a (by omega) (by omega) (by omega) (by omega)]; exact a5
      · rw [pl a (by omega), pl n g]; exact a6
    · obtain ⟨i, rfl⟩ : ∃ i, n = N + i := ⟨n - N, by omega⟩
      refine ⟨k, i, by omega, by omega, ?_, ?_, ?_, ?_⟩
      · rw [pl k hk, ← hA]; omega
      · exact (hnew i (by omega)).1
      · rw [h44]; omega
      · rw [pl k hk, pn i, ← hA]
  · show rAsk s' n = qry τ m (if n < N then pf n else (A, n - N) :: pf k) ∧ s' 45 n = (wid τ (qry τ m (if n < N then pf n else (A, n - N) :: pf k)) : Int) ∧ ∃ f : Nat, s' 44 n = (f : Int) ∧ (0 < wid τ (qry τ m (if n < N then pf n else (A, n - N) :: pf k)) → 0 < f) ∧ ∀ i, i < wid τ (qry τ m (if n < N then pf n else (A, n - N) :: pf k)) → f + i < N + many ∧ (if f + i < N then pf (f + i) else (A, f + i - N) :: pf k) = (qry τ m (if n < N then pf n else (A, n - N) :: pf k), i) :: (if n < N then pf n else (A, n - N) :: pf k)
    have hkN := h.kN
    rw [pl n (by omega)]
    by_cases g : n = k
    · subst g
      rw [← hA]
      exact ⟨ha, by rw [h45, hm], N, h44, fun _ => hpos, fun i hi => ⟨by omega, pn i⟩⟩
    · obtain ⟨f1, f2, f, f3, f4, f5⟩ := h.fin n (by omega)
      refine ⟨by rw [er n (by omega) g]; exact f1, by rw [ho 45 n (by omega) (by omega) (by omega) g]; exact f2, f, by rw [ho 44 n (by omega) (by omega) (by omega) g]; exact f3, f4, fun i hi => ?_⟩
      obtain ⟨g1, g2⟩ := f5 i hi
      exact ⟨by omega, by rw [pl _ g1]; exact g2⟩
  · show s' 45 n = 0 ∧ 0 ≤ s' 44 n ∧ ((s' 41 n = -9 ∧ qry τ m (if n < N then pf n else (A, n - N) :: pf k) = seekM τ m (if n < N then pf n else (A, n - N) :: pf k)) ∨ ((s' 41 n = 0 ∨ s' 41 n = 1) ∧ rAsk s' n = qry τ m (if n < N then pf n else (A, n - N) :: pf k)))
    by_cases g : n < N
    · obtain ⟨t1, t2, t3⟩ := h.todo n (by omega) g
      rw [pl n g, ho 44 n (by omega) (by omega) g (by omega), ho 45 n (by omega) (by omega) g (by omega), ho 41 n (by omega) (by omega) g (by omega), er n g (by omega)]
      exact ⟨t1, t2, t3⟩
    · obtain ⟨i, rfl⟩ : ∃ i, n = N + i := ⟨n - N, by omega⟩
      obtain ⟨c1, c2, c3, c4⟩ := hnew i (by omega)
      rw [pn i]
      exact ⟨c2, c3, c4⟩
