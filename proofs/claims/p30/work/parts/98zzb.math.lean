/-! the size, shared, of the given program's tree -/
def FrS (t : Nat) (σ σ' : Sg) : Prop := ∀ r i, ¬ r = t + 5 → ¬ (r = t ∧ i = 6) → σ' r i = σ r i
theorem GT.fr6 {τ σ σ' : Sg} {t : Nat} {m : Bool} {pf : Nat → Pth} {S : Nat → Nat} {N B : Nat} (h : GT τ σ t m pf S N B) (hs : FrS t σ σ') : GT τ σ' t m pf S N B := by
  have h1 : ∀ k, 1 ≤ k → k ≤ 4 → σ' (t + k) = σ (t + k) := fun k k1 k2 => by funext i; exact hs _ _ (by omega) (by omega)
  have h0 : ∀ i, ¬ i = 6 → σ' t i = σ t i := fun i hi => hs t i (by omega) (by omega)
  unfold GT at *
  rw [h0 4 (by omega), h0 5 (by omega), h0 7 (by omega), h0 8 (by omega), h0 9 (by omega), h1 1 (by omega) (by omega), h1 2 (by omega) (by omega), h1 3 (by omega) (by omega), h1 4 (by omega) (by omega)]
  exact h
theorem GD.fr6 {τ σ σ' : Sg} {t : Nat} {m : Bool} {pf : Nat → Pth} {S : Nat → Nat} {N B : Nat} (h : GD τ σ t m pf S N B) (hs : FrS t σ σ') : GD τ σ' t m pf S N B := ⟨h.1.fr6 hs, h.2⟩
theorem nodeBehind_t {τ σ : Sg} {t : Nat} {m : Bool} {pf : Nat → Pth} {S : Nat → Nat} {N B n i : Nat} (h : GD τ σ t m pf S N B) (hB : B ≤ 499) (hn : n < N) (hi : i < wid τ (qry τ m (pf n))) : ∃ c : Nat, n < c ∧ c < N ∧ pf c = (qry τ m (pf n), i) :: pf n ∧ (True → F_X7_nodeBehind t n i σ = c) := by
  obtain ⟨c, c1, c2, c3, c4⟩ := h.ch hn hi
  have h500 := h.1.n500
  have htop := h.1.top hn
  have hB6 : B ≤ 600 := by omega
  refine ⟨c, c1, c2, c4, fun _ => ?_⟩
  unfold F_X7_nodeBehind
  rw [widthOf_t h.1 hn hB6, wrap_id (by omega) (by omega), if_pos (isIn_iff.mpr (by omega)), rdD_ok (k := t + 2) (by omega) (by omega), show ((n : Int)).toNat = n by omega, h.1.st n hn, wrap_id (by omega) (by omega), rdD_ok (by omega) (by omega), show ((S n : Int) + i).toNat = S n + i by omega]
  exact c3
/-- the nodes from k on stand for what they are the same as -/
def SInv (τ σ : Sg) (t : Nat) (m : Bool) (pf : Nat → Pth) (N k : Nat) : Prop :=
  (∀ n, k ≤ n → n < N → ∃ r : Nat, σ (t + 5) n = r ∧ n ≤ r ∧ r < N ∧ σ (t + 5) r = r ∧ ¬ idl τ m (pf r) ∧ cdP τ m (pf r) = cdP τ m (pf n)) ∧
  (∀ a b : Nat, k ≤ a → k ≤ b → a < N → b < N → σ (t + 5) a = a → σ (t + 5) b = b → cdP τ m (pf a) = cdP τ m (pf b) → a = b) ∧
  (∃ L : List Pth, σ t 6 = L.length ∧ L.length + k ≤ N ∧ (∀ P ∈ L, AP τ m P) ∧ (L.map (cdP τ m)).Nodup ∧ (∀ n, k ≤ n → n < N → ∃ Q ∈ L, cdP τ m Q = cdP τ m (pf n)) ∧ ∀ P ∈ L, ∃ n : Nat, k ≤ n ∧ n < N ∧ σ (t + 5) n = n ∧ pf n = P)
theorem SInv.rep {τ σ : Sg} {t : Nat} {m : Bool} {pf : Nat → Pth} {N k : Nat} (h : SInv τ σ t m pf N k) : ∀ n, k ≤ n → n < N → ∃ r : Nat, σ (t + 5) n = r ∧ n ≤ r ∧ r < N ∧ σ (t + 5) r = r ∧ ¬ idl τ m (pf r) ∧ cdP τ m (pf r) = cdP τ m (pf n) := h.1
theorem SInv.uni {τ σ : Sg} {t : Nat} {m : Bool} {pf : Nat → Pth} {N k : Nat} (h : SInv τ σ t m pf N k) : ∀ a b : Nat, k ≤ a → k ≤ b → a < N → b < N → σ (t + 5) a = a → σ (t + 5) b = b → cdP τ m (pf a) = cdP τ m (pf b) → a = b := h.2.1
theorem SInv.cnt {τ σ : Sg} {t : Nat} {m : Bool} {pf : Nat → Pth} {N k : Nat} (h : SInv τ σ t m pf N k) : ∃ L : List Pth, σ t 6 = L.length ∧ L.length + k ≤ N ∧ (∀ P ∈ L, AP τ m P) ∧ (L.map (cdP τ m)).Nodup ∧ (∀ n, k ≤ n → n < N → ∃ Q ∈ L, cdP τ m Q = cdP τ m (pf n)) ∧ ∀ P ∈ L, ∃ n : Nat, k ≤ n ∧ n < N ∧ σ (t + 5) n = n ∧ pf n = P := h.2.2
theorem SInv.same {τ σ : Sg} {t : Nat} {m : Bool} {pf : Nat → Pth} {N k : Nat} (h : SInv τ σ t m pf N k) {a b : Nat} (ha : k ≤ a) (hb : k ≤ b) (haN : a < N) (hbN : b < N) : σ (t + 5) a = σ (t + 5) b ↔ cdP τ m (pf a) = cdP τ m (pf b) := by
  obtain ⟨r, r1, r2, r3, r4, r5, r6⟩ := h.rep a ha haN
  obtain ⟨q, q1, q2, q3, q4, q5, q6⟩ := h.rep b hb hbN
  constructor
  · intro e
    have : r = q := by omega
    rw [← r6, ← q6, this]
  · intro e
    have := h.uni r q (by omega) (by omega) r3 q3 r4 q4 (by rw [r6, q6, e])
    omega
theorem isIdle_k {τ σ : Sg} {t : Nat} {m : Bool} {pf : Nat → Pth} {S : Nat → Nat} {N B k : Nat} (h : GD τ σ t m pf S N B) (hB : B ≤ 499) (hI : SInv τ σ t m pf N (k + 1)) (hk : k < N) (hw : 0 < wid τ (qry τ m (pf k))) (hw10 : wid τ (qry τ m (pf k)) ≤ 10) : ∃ b, F_X7_isIdle t k σ = some b ∧ (b = true ↔ ∀ i, i < wid τ (qry τ m (pf k)) → cdP τ m ((qry τ m (pf k), i) :: pf k) = cdP τ m ((qry τ m (pf k), 0) :: pf k)) := by
  have hB6 : B ≤ 600 := by omega
  have h500 := h.1.n500
  obtain ⟨c0, d1, d2, d3, d4⟩ := nodeBehind_t h hB hk hw
  have hm : ∀ c : Nat, c < N → rdD (-1) σ (t + 5) 500 (c : Int) = σ (t + 5) c := fun c hc => by rw [rdD_ok (by omega) (by omega), show ((c : Int)).toNat = c by omega]
  have hend : L_X7_isIdle_2 t k σ ((wid τ (qry τ m (pf k)) : Nat) : Int) = some (.inr (.inl ())) := by
    unfold L_X7_isIdle_2
    rw [widthOf_t h.1 hk hB6, if_pos (Int.le_refl _)]
  have hstep : ∀ i : Nat, i < wid τ (qry τ m (pf k)) → (cdP τ m ((qry τ m (pf k), i) :: pf k) = cdP τ m ((qry τ m (pf k), 0) :: pf k) → L_X7_isIdle_2 t k σ i = some (.inl ((i : Int) + 1))) ∧ (¬ cdP τ m ((qry τ m (pf k), i) :: pf k) = cdP τ m ((qry τ m (pf k), 0) :: pf k) → L_X7_isIdle_2 t k σ i = some (.inr (.inr false))) := fun i hi => by
    obtain ⟨c, e1, e2, e3, e4⟩ := nodeBehind_t h hB hk hi
    have hs := hI.same (a := c) (b := c0) (by omega) (by omega) e2 d2
    rw [e3, d3] at hs
    have d4' : True → F_X7_nodeBehind t k 0 σ = c0 := fun _ => d4 trivial
    have hwr : True → wrap ((i : Int) + 1) = (i : Int) + 1 := fun _ => wrap_id (by omega) (by omega)
    unfold L_X7_isIdle_2
    rw [widthOf_t h.1 hk hB6, if_neg (by omega), e4 trivial, d4' trivial, hm c e2, hm c0 d2, hwr trivial]
    exact ⟨fun g => by rw [if_pos (hs.mpr g)], fun g => by rw [if_neg (fun z => g (hs.mp z))]⟩
  by_cases hall : ∀ i, i < wid τ (qry τ m (pf k)) → cdP τ m ((qry τ m (pf k), i) :: pf k) = cdP τ m ((qry τ m (pf k), 0) :: pf k)
  · refine ⟨true, ?_, ⟨fun _ => hall, fun _ => rfl⟩⟩
    unfold F_X7_isIdle
    rw [for_ok (f := fun a : Int => L_X7_isIdle_2 t k σ a) (n := ((wid τ (qry τ m (pf k)) : Nat) : Int)) hend 3000 1 (by omega) (by omega) (fun j j1 j2 => by
      have := (hstep j.toNat (by omega)).1 (hall _ (by omega))
      rw [show ((j.toNat : Nat) : Int) = j by omega] at this
      exact this), Option.bind_some, Sum.elim_inl]
  · refine ⟨false, ?_, ⟨fun q => (by cases q), fun q => absurd q hall⟩⟩
    unfold F_X7_isIdle
    rw [for_no (f := fun a : Int => L_X7_isIdle_2 t k σ a) (n := ((wid τ (qry τ m (pf k)) : Nat) : Int)) (r := .inr false) (P := fun j => cdP τ m ((qry τ m (pf k), j.toNat) :: pf k) = cdP τ m ((qry τ m (pf k), 0) :: pf k)) 3000 1 (by omega) (by omega) (fun j j1 j2 jp => by
      have := (hstep j.toNat (by omega)).1 jp
      rw [show ((j.toNat : Nat) : Int) = j by omega] at this
      exact this) (fun j j1 j2 jp => by
      have := (hstep j.toNat (by omega)).2 jp
      rw [show ((j.toNat : Nat) : Int) = j by omega] at this
      exact this) (fun q => hall (fun i hi => by
        by_cases g : i = 0
        · rw [g]
        · have := q i (by omega) (by omega)
          rw [Int.toNat_natCast] at this
          exact this)), Option.bind_some, Sum.elim_inr]
theorem areSame_k {τ σ : Sg} {t : Nat} {m : Bool} {pf : Nat → Pth} {S : Nat → Nat} {N B k o : Nat} (h : GD τ σ t m pf S N B) (hB : B ≤ 499) (hI : SInv τ σ t m pf N (k + 1)) (hk : k < o) (ho : o < N) (hok : ∀ n, n < N → okAs (qry τ m (pf n)) ∧ wid τ (qry τ m (pf n)) ≤ 10) : ∃ b, F_X7_areSame t k o σ = some b ∧ (b = true ↔ qry τ m (pf k) = qry τ m (pf o) ∧ ∀ i, i < wid τ (qry τ m (pf k)) → cdP τ m ((qry τ m (pf k), i) :: pf k) = cdP τ m ((qry τ m (pf o), i) :: pf o)) := by
  have hB6 : B ≤ 600 := by omega
  have h500 := h.1.n500
  have hkN : k < N := by omega
  have hw10 := (hok k hkN).2
  have hm : ∀ c : Nat, c < N → rdD (-1) σ (t + 5) 500 (c : Int) = σ (t + 5) c := fun c hc => by rw [rdD_ok (by omega) (by omega), show ((c : Int)).toNat = c by omega]
  have ha : ∀ c : Nat, c < N → rdD (-1) σ (t + 1) 500 (c : Int) = enA (qry τ m (pf c)) := fun c hc => by rw [rdD_ok (by omega) (by omega), show ((c : Int)).toNat = c by omega, h.1.asks c hc]
  unfold F_X7_areSame
  rw [ha k hkN, ha o ho, widthOf_t h.1 hkN hB6, widthOf_t h.1 ho hB6]
  by_cases eq : qry τ m (pf k) = qry τ m (pf o)
  · rw [if_pos (by rw [eq]), if_pos (by rw [eq])]
    have hend : L_X7_areSame_36 t k o σ ((wid τ (qry τ m (pf k)) : Nat) : Int) = some (.inr (.inl ())) := by
      unfold L_X7_areSame_36
      rw [widthOf_t h.1 hkN hB6, if_pos (Int.le_refl _)]
    have hstep : ∀ i : Nat, i < wid τ (qry τ m (pf k)) → (cdP τ m ((qry τ m (pf k), i) :: pf k) = cdP τ m ((qry τ m (pf o), i) :: pf o) → L_X7_areSame_36 t k o σ i = some (.inl ((i : Int) + 1))) ∧ (¬ cdP τ m ((qry τ m (pf k), i) :: pf k) = cdP τ m ((qry τ m (pf o), i) :: pf o) → L_X7_areSame_36 t k o σ i = some (.inr (.inr false))) := fun i hi => by
      obtain ⟨c, e1, e2, e3, e4⟩ := nodeBehind_t h hB hkN hi
      obtain ⟨d, d1, d2, d3, d4⟩ := nodeBehind_t h hB ho (show i < wid τ (qry τ m (pf o)) by rw [← eq]; exact hi)
      have hs := hI.same (a := c) (b := d) (by omega) (by omega) e2 d2
      rw [e3, d3] at hs
      have hwr : True → wrap ((i : Int) + 1) = (i : Int) + 1 := fun _ => wrap_id (by omega) (by omega)
      unfold L_X7_areSame_36
      rw [widthOf_t h.1 hkN hB6, if_neg (by omega), e4 trivial, d4 trivial, hm c e2, hm d d2, hwr trivial]
      exact ⟨fun g => by rw [if_pos (hs.mpr g)], fun g => by rw [if_neg (fun z => g (hs.mp z))]⟩
    by_cases hall : ∀ i, i < wid τ (qry τ m (pf k)) → cdP τ m ((qry τ m (pf k), i) :: pf k) = cdP τ m ((qry τ m (pf o), i) :: pf o)
    · refine ⟨true, ?_, ⟨fun _ => ⟨eq, hall⟩, fun _ => rfl⟩⟩
      rw [for_ok (f := fun a : Int => L_X7_areSame_36 t k o σ a) (n := ((wid τ (qry τ m (pf k)) : Nat) : Int)) hend 3000 0 (by omega) (by omega) (fun j j1 j2 => by
        have := (hstep j.toNat (by omega)).1 (hall _ (by omega))
        rw [show ((j.toNat : Nat) : Int) = j by omega] at this
        exact this), Option.bind_some, Sum.elim_inl]
    · refine ⟨false, ?_, ⟨fun q => (by cases q), fun q => absurd q.2 hall⟩⟩
      rw [for_no (f := fun a : Int => L_X7_areSame_36 t k o σ a) (n := ((wid τ (qry τ m (pf k)) : Nat) : Int)) (r := .inr false) (P := fun j => cdP τ m ((qry τ m (pf k), j.toNat) :: pf k) = cdP τ m ((qry τ m (pf o), j.toNat) :: pf o)) 3000 0 (by omega) (by omega) (fun j j1 j2 jp => by
        have := (hstep j.toNat (by omega)).1 jp
        rw [show ((j.toNat : Nat) : Int) = j by omega] at this
        exact this) (fun j j1 j2 jp => by
        have := (hstep j.toNat (by omega)).2 jp
        rw [show ((j.toNat : Nat) : Int) = j by omega] at this
        exact this) (fun q => hall (fun i hi => by
          have := q i (by omega) (by omega)
          rw [Int.toNat_natCast] at this
          exact this)), Option.bind_some, Sum.elim_inr]
  · rw [if_neg (fun z => eq (enA_inj (hok k hkN).1 (hok o ho).1 z))]
    exact ⟨false, rfl, ⟨fun q => (by cases q), fun q => absurd q.1 eq⟩⟩
