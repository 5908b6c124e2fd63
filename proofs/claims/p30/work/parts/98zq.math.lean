/-! the given program's tree: a step, and all -/
def FrG (t : Nat) (σ σ' : Sg) : Prop := ∀ r, ¬ (37 ≤ r ∧ r ≤ 42) → ¬ (t ≤ r ∧ r ≤ t + 5) → σ' r = σ r
theorem FrG.rfl' {t : Nat} {σ : Sg} : FrG t σ σ := fun _ _ _ => rfl
theorem FrG.trans {t : Nat} {a b c : Sg} (h : FrG t a b) (h' : FrG t b c) : FrG t a c := fun r h1 h2 => by rw [h' r h1 h2, h r h1 h2]
theorem FrG.up {t : Nat} {a b : Sg} {r i : Nat} {v : Int} (h : FrG t a b) (hr : t ≤ r ∧ r ≤ t + 5) : FrG t a (up2 b r i v) := fun q q1 q2 => by
  rw [← h q q1 q2]; funext j; rw [up2_row (by omega)]
theorem FrG.j {t : Nat} {a b c : Sg} (h : FrG t a b) (h' : FrJ b c) : FrG t a c := fun r h1 h2 => by rw [h' r (by omega) (by omega) (by omega), h r h1 h2]
theorem FrG.l {t : Nat} {a b c : Sg} (h : FrG t a b) (h' : FrL b c) : FrG t a c := fun r h1 h2 => by rw [h'.1 r (by omega) (by omega) (by omega) (by omega), h r h1 h2]
theorem FrG.ctx {t : Nat} {σ0 σ τ : Sg} (ht : 43 ≤ t) (h : FrG t σ0 σ) (hG : CtxG σ0 τ) : CtxG σ τ := hG.fr (fun r hr => h r (by omega) (by omega))
theorem FrG.kept {t N B w : Nat} {a : Ask} {σ0 σ σ' : Sg} (h : FrG t σ0 σ) (hk : Kept t N B w a σ σ') : FrG t σ0 σ' := fun r h1 h2 => by
  rw [← h r h1 h2]; funext i
  exact hk.2.2.2.2.2.2.2 r i (by omega) (by omega)
/-- the whole tree stands -/
def GD (τ σ : Sg) (t : Nat) (m : Bool) (pf : Nat → Pth) (S : Nat → Nat) (N B : Nat) : Prop := GT τ σ t m pf S N B ∧ ∀ n i, n < N → i < wid τ (qry τ m (pf n)) → ∃ c, 0 < c ∧ c < N ∧ pf c = (qry τ m (pf n), i) :: pf n
set_option maxHeartbeats 4000000 in
theorem stepP {σ0 τ σ : Sg} {t : Nat} {m : Bool} {pf : Nat → Pth} {S : Nat → Nat} {N B cur : Nat} {M : Nat → Nat} (hG0 : CtxG σ0 τ) (ht : 43 ≤ t) (hfr : FrG t σ0 σ) (hZ : Z42 σ) (h2 : σ t 2 = mI m) (h6 : σ t 6 = -1) (h : GC τ σ t m pf S N B cur M) (hB : B < 500) (hM : M cur < wid τ (qry τ m (pf cur))) : ∃ σ' pf' S' M' w, (F_X7_plant t cur (M cur) (F_X7_learn t cur (M cur) (up2 σ (t + 5) cur ((M cur + 1 : Nat) : Int)))) = some ((N : Int), σ') ∧ FrG t σ0 σ' ∧ Z42 σ' ∧ σ' t 2 = mI m ∧ σ' t 6 = -1 ∧ σ' t 3 = (if B + w + 1 ≤ 500 then 0 else 1) ∧ GC τ σ' t m pf' S' (N + 1) (B + w) N M' ∧ (pf' N).length = (pf cur).length + 1 := by
  have hG := hfr.ctx ht hG0
  have hW := hG.2.1.2.1
  have hF := hG.1.2.2.2
  have hMm := hG.2.2.2.2.2.2.1
  have hWW := WFW_of hG.2.2.1
  have gt := h.gt
  have hcN := h.cN
  have h5 := gt.n500
  obtain ⟨P', hP'⟩ : ∃ P', P' = (qry τ m (pf cur), M cur) :: pf cur := ⟨_, rfl⟩
  have htop : ∀ n, n < N → lx (rp (pf n)) (rp P') := fun n hn => by rw [hP']; exact h.top n hn
  have hfresh : ∀ n, n < N → ¬ pf n = P' := fun n hn e => by
    have := htop n hn
    rw [e] at this
    exact lx_irr _ this
  have hroom := gt.room hcN hM (by rw [← hP']; exact hfresh)
  have hap : AP τ m P' := by rw [hP']; exact ⟨gt.ap cur hcN, rfl, hM⟩
  -- the branch is taken as known
  have ha1 : (up2 σ (t + 5) cur ((M cur + 1 : Nat) : Int)) (t + 1) cur = enA (qry τ m (pf cur)) := by rw [up2_row (by omega)]; exact gt.asks cur hcN
  have hK1 : KNo (up2 σ (t + 5) cur ((M cur + 1 : Nat) : Int)) (if M cur = 0 then pf cur else (qry τ m (pf cur), M cur - 1) :: pf cur) := by
    obtain ⟨a, b, c, d⟩ := h.kn
    refine ⟨fun pl p1 p2 => by rw [up2_row (by omega)]; exact a pl p1 p2, b.congr (by funext i; rw [up2_row (by omega)]), ?_, ?_⟩
    · rw [up2_row (by omega)]; exact c
    · rw [up2_row (by omega)]; exact d
  obtain ⟨k1, k2⟩ := learn_to hW hF hMm hWW (gt.ap cur hcN) ha1 (by omega) hM hK1 h.ex
  obtain ⟨σ1, hσ1⟩ : ∃ σ1, σ1 = F_X7_learn t cur (M cur) (up2 σ (t + 5) cur ((M cur + 1 : Nat) : Int)) := ⟨_, rfl⟩
  rw [← hσ1] at k1 k2 ⊢
  have hrow : ∀ r, ¬ r = t + 5 → ¬ r = 37 → ¬ r = 38 → ¬ r = 39 → σ1 r = σ r := fun r r1 r2 r3 r4 => by
    rw [k2 r r2 r3 r4]; funext i; rw [up2_row r1]
  have hrow5 : ∀ i, σ1 (t + 5) i = if i = cur then ((M cur + 1 : Nat) : Int) else σ (t + 5) i := fun i => by
    rw [k2 (t + 5) (by omega) (by omega) (by omega)]
    by_cases q : i = cur
    · rw [up2_at rfl q, if_pos q]
    · rw [up2_idx q, if_neg q]
  have gt1 : GT τ σ1 t m pf S N B := gt.fr (fun r r1 r2 => hrow r (by omega) (by omega) (by omega) (by omega))
  have hfr1 : FrG t σ0 σ1 := fun r r1 r2 => by rw [hrow r (by omega) (by omega) (by omega) (by omega)]; exact hfr r r1 r2
  have hZ1 : Z42 σ1 := fun y y1 y2 => by rw [hrow 42 (by omega) (by omega) (by omega) (by omega)]; exact hZ y y1 y2
  obtain ⟨σ2, σ', p1, p2, p3, p4⟩ := plant_ch (hfr1.ctx ht hG0) ht gt1 (by omega) hB hcN hM (by rw [hrow t (by omega) (by omega) (by omega) (by omega)]; exact h2) k1 hZ1
  rw [← hP'] at p4
  obtain ⟨A, hA⟩ : ∃ A, A = qry τ m P' := ⟨_, rfl⟩
  rw [← hA] at p4
  obtain ⟨w, hw⟩ : ∃ w, w = wid τ A := ⟨_, rfl⟩
  rw [← hw] at p4
  obtain ⟨c1, c2, c3, c4, c5, c6, c7, c8⟩ := p4
  obtain ⟨qa1, qa2, qa3, qa4⟩ := qry_ok hW hF hMm hWW hap
  rw [← hA] at qa1 qa2 qa3 qa4
  have h23 := hMm.2.1
  -- the cells
  have hb : ∀ r i, ¬ (37 ≤ r ∧ r ≤ 42) → σ2 r i = b17 σ1 t N cur (S cur + M cur) r i := fun r i hr => by rw [p2.1 r (by omega) (by omega) (by omega) (by omega)]
  have b4 : b17 σ1 t N cur (S cur + M cur) t 4 = ((N + 1 : Nat) : Int) := by
    unfold b17; rw [up2_row (by omega), up2_row (by omega), up2_row (by omega), up2_at rfl rfl]
  have b0 : ∀ i, ¬ i = 4 → b17 σ1 t N cur (S cur + M cur) t i = σ1 t i := fun i hi => by
    unfold b17; rw [up2_row (by omega), up2_row (by omega), up2_row (by omega), up2_idx hi]
  have b12 : ∀ r i, r = t + 1 ∨ r = t + 2 → b17 σ1 t N cur (S cur + M cur) r i = σ1 r i := fun r i hr => by
    unfold b17; rw [up2_row (by omega), up2_row (by omega), up2_row (by omega), up2_row (by omega)]
  have b3 : ∀ i, b17 σ1 t N cur (S cur + M cur) (t + 3) i = if i = S cur + M cur then (N : Int) else σ1 (t + 3) i := fun i => by
    unfold b17
    by_cases q : i = S cur + M cur
    · rw [up2_at rfl q, if_pos q]
    · rw [up2_idx q, up2_row (by omega), up2_row (by omega), up2_row (by omega), if_neg q]
  have b4' : ∀ i, b17 σ1 t N cur (S cur + M cur) (t + 4) i = if i = N then (cur : Int) else σ1 (t + 4) i := fun i => by
    unfold b17
    by_cases q : i = N
    · rw [up2_row (by omega), up2_row (by omega), up2_at rfl q, if_pos q]
    · rw [up2_row (by omega), up2_row (by omega), up2_idx q, up2_row (by omega), if_neg q]
  have b5 : ∀ i, b17 σ1 t N cur (S cur + M cur) (t + 5) i = if i = N then 0 else σ1 (t + 5) i := fun i => by
    unfold b17
    by_cases q : i = N
    · rw [up2_row (by omega), up2_at rfl q, if_pos q]
    · rw [up2_row (by omega), up2_idx q, up2_row (by omega), up2_row (by omega), if_neg q]
  have s4 : σ' t 4 = ((N + 1 : Nat) : Int) := by rw [c8 t 4 (by omega) (by omega), hb t 4 (by omega), b4]
  have s26 : ∀ i, i = 2 ∨ i = 6 → σ' t i = σ t i := fun i hi => by
    rw [c8 t i (by omega) (by omega), hb t i (by omega), b0 i (by omega), hrow t (by omega) (by omega) (by omega) (by omega)]
  have s12 : ∀ r n, r = t + 1 ∨ r = t + 2 → n < N → σ' r n = σ1 r n := fun r n hr hn => by
    rw [c8 r n (by omega) (by omega), hb r n (by omega), b12 r n hr]
  have s3 : ∀ i, σ' (t + 3) i = if i = S cur + M cur then (N : Int) else σ1 (t + 3) i := fun i => by
    rw [c8 _ i (by omega) (by omega), hb _ i (by omega), b3 i]
  have s4' : ∀ i, σ' (t + 4) i = if i = N then (cur : Int) else σ1 (t + 4) i := fun i => by
    rw [c8 _ i (by omega) (by omega), hb _ i (by omega), b4' i]
  have s5 : ∀ i, σ' (t + 5) i = if i = N then 0 else σ1 (t + 5) i := fun i => by
    rw [c8 _ i (by omega) (by omega), hb _ i (by omega), b5 i]
  have hcells : ∀ i, i = 7 ∨ i = 8 ∨ i = 9 → σ2 t i = σ1 t i := fun i hi => by rw [hb t i (by omega), b0 i (by omega)]
  rw [hcells 7 (by omega)] at c5 c6
  rw [hcells 8 (by omega)] at c6
  rw [hcells 9 (by omega)] at c7
  obtain ⟨pf', hp1, hp2⟩ : ∃ pf' : Nat → Pth, (∀ n, n < N → pf' n = pf n) ∧ pf' N = P' := ⟨fun n => if n < N then pf n else P', fun n hn => by dsimp only; rw [if_pos hn], by dsimp only; rw [if_neg (by omega)]⟩
  obtain ⟨S', hS1, hS2⟩ : ∃ S' : Nat → Nat, (∀ n, n ≤ N → S' n = S n) ∧ S' (N + 1) = B + w := ⟨fun n => if n ≤ N then S n else B + w, fun n hn => by dsimp only; rw [if_pos hn], by dsimp only; rw [if_neg (by omega)]⟩
  obtain ⟨M', hM1, hM2, hM3⟩ : ∃ M' : Nat → Nat, M' N = 0 ∧ M' cur = M cur + 1 ∧ ∀ n, ¬ n = N → ¬ n = cur → M' n = M n := ⟨fun n => if n = N then 0 else if n = cur then M cur + 1 else M n, by dsimp only; rw [if_pos rfl], by dsimp only; rw [if_neg (by omega), if_pos rfl], fun n n1 n2 => by dsimp only; rw [if_neg n1, if_neg n2]⟩
  have gt' : GT τ σ' t m pf' S' (N + 1) (B + w) := gt1.add (A := A) (by omega) hcN hM hp1 (by rw [hp2, hP']) (by rw [hA, hP']) hw.symm hS1 hS2 s4 c3 c1 c2 (by rw [s4', if_pos rfl]) (by rw [s3, if_pos rfl]) (fun n hn => s12 _ n (Or.inl rfl) hn) (fun n hn => s12 _ n (Or.inr rfl) hn) (fun n hn => by rw [s4', if_neg (by omega)]) (fun j hj => by rw [s3, if_neg hj]) c5 c6 c7 (fun z => by have := qa4 (Or.inr z); omega) (by rw [← hP']; exact htop)
  have hwc : qry τ m (pf' cur) = qry τ m (pf cur) := by rw [hp1 cur hcN]
  have hs : ∀ n, n < N + 1 → n < N ∨ n = N := fun n hn => by omega
  refine ⟨σ', pf', S', M', w, p1, ?_, ?_, by rw [s26 2 (by omega)]; exact h2, by rw [s26 6 (by omega)]; exact h6, c4, ⟨gt', by omega, fun n hn => ?_, fun n i hn hi => ?_, fun n hn hoff => ?_, fun n i hn hin => ?_, fun n hn => ?_, ?_⟩, by rw [hp2, hP', List.length_cons]⟩
  · intro r r1 r2
    rw [← hfr1 r r1 r2]; funext i
    rw [c8 r i (by omega) (by omega), hb r i r1, b17_o r2]
  · intro y y1 y2
    rw [c8 42 _ (by omega) (by omega)]; exact p3 y y1 y2
  · rw [s5]
    rcases hs n hn with g | g
    · rw [if_neg (by omega), hrow5, hp1 n g]
      by_cases q : n = cur
      · rw [if_pos q, q, hM2]; exact ⟨rfl, hM⟩
      · rw [if_neg q, hM3 n (by omega) q]; exact h.mk n g
    · rw [if_pos g, g, hM1]; exact ⟨rfl, by omega⟩
  · rcases hs n hn with g | g
    · rw [hp1 n g]
      by_cases q : n = cur
      · rw [q, hM2] at hi
        by_cases q2 : i = M cur
        · exact ⟨N, by omega, by omega, by rw [hp2, hP', q, q2]⟩
        · obtain ⟨c, d1, d2, d3⟩ := h.kid cur i hcN (by omega)
          exact ⟨c, d1, by omega, by rw [hp1 c d2, q]; exact d3⟩
      · rw [hM3 n (by omega) q] at hi
        obtain ⟨c, d1, d2, d3⟩ := h.kid n i g hi
        exact ⟨c, d1, by omega, by rw [hp1 c d2]; exact d3⟩
    · rw [g, hM1] at hi; omega
  · rw [hp2, hP'] at hoff
    rcases hs n hn with g | g
    · rw [hp1 n g] at hoff ⊢
      have hne : ¬ n = cur := fun q => hoff (List.mem_cons_of_mem _ (by rw [q]; exact sfx_self _))
      rw [hM3 n (by omega) hne]
      exact h.off n g (fun z => hoff (List.mem_cons_of_mem _ z))
    · rw [g, hp2, hP'] at hoff
      exact absurd (sfx_self _) hoff
  · rw [hp2, hP'] at hin
    rcases hs n hn with g | g
    · rw [hp1 n g] at hin
      rcases List.mem_cons.mp hin with z | z
      · injection z with z1 z2
        have hnc := gt.inj g hcN z2
        injection z1 with z3 z4
        rw [hnc, hM2, z4]
      · have hne : ¬ n = cur := fun q => by
          rw [q] at z
          have := sfx_len z
          rw [List.length_cons] at this
          omega
        rw [hM3 n (by omega) hne]
        exact h.stk n i g z
    · rw [g, hp2, hP'] at hin
      have := sfx_len (P := (qry τ m (pf cur), M cur) :: pf cur) hin
      rw [List.length_cons] at this
      omega
  · rw [hp2, hM1]
    rcases hs n hn with g | g
    · rw [hp1 n g]; exact lx_trans _ _ _ (htop n g) (lx_app _ _ _)
    · rw [g, hp2]; exact lx_app _ _ _
  · rw [if_pos hM1, hp2]
    have hk2 : KNo σ2 P' := by
      obtain ⟨a, b, c, d⟩ := k1
      rw [hP']
      refine ⟨fun pl q1 q2 => ?_, b.congr ?_, ?_, ?_⟩
      · rw [p2.1 38 (by omega) (by omega) (by omega) (by omega), b17_o (by omega)]; exact a pl q1 q2
      · rw [p2.1 39 (by omega) (by omega) (by omega) (by omega)]; funext i; exact b17_o (by omega)
      · rw [p2.2 4 (by omega) (by omega) (by omega) (by omega), b17_o (by omega)]; exact c
      · rw [p2.2 4 (by omega) (by omega) (by omega) (by omega), b17_o (by omega)]; exact d
    obtain ⟨a, b, c, d⟩ := hk2
    refine ⟨fun pl q1 q2 => ?_, b.congr ?_, ?_, ?_⟩
    · rw [c8 38 _ (by omega) (by omega)]; exact a pl q1 q2
    · funext i; exact c8 39 _ (by omega) (by omega)
    · rw [c8 37 _ (by omega) (by omega)]; exact c
    · rw [c8 37 _ (by omega) (by omega)]; exact d
