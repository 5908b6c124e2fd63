/-! the given program's tree, while it grows -/
/-- what a node asks isn't known yet -/
theorem qry_unk {τ : Sg} {m : Bool} {P : Pth} (hW : WFP τ) (hF : WFK (τ 1) (τ 2) (τ 3)) (hM : WFM τ) (hWW : WFW τ) (h : AP τ m P) : ((qry τ m P).1 = 3 → 1 ≤ (qry τ m P).2.1 ∧ hk P (qry τ m P).2.1 = -9) ∧ ((qry τ m P).1 = 4 → 1 ≤ (qry τ m P).2.1 ∧ vk P (qry τ m P).2.2 (qry τ m P).2.1 = -9) ∧ ((qry τ m P).1 = 5 → fk P (qry τ m P).2.1.toNat = false ∧ (tryK τ P (qry τ m P).2.1.toNat).1 = .inl true ∧ ¬ τ 22 (qry τ m P).2.1.toNat = -1) := by
  have hKP := AP.kp hW hF hM hWW h
  have hH := hKP.hok hF hM
  have hV := hKP.vok hWW
  have hs := seekM_ok (m := m) hW hF hM hH hV
  have gen : ∀ a : Ask, QOK τ P a → (a.1 = 3 → 1 ≤ a.2.1 ∧ hk P a.2.1 = -9) ∧ (a.1 = 4 → 1 ≤ a.2.1 ∧ vk P a.2.2 a.2.1 = -9) ∧ (a.1 = 5 → fk P a.2.1.toNat = false ∧ (tryK τ P a.2.1.toNat).1 = .inl true ∧ ¬ τ 22 a.2.1.toNat = -1) := fun a ha => by
    rcases ha with (g | g) | g | g | g
    · exact ⟨fun _ => ⟨g.2.1.1, g.2.2.2.1⟩, fun z => by omega, fun z => by omega⟩
    · exact ⟨fun z => by omega, fun _ => ⟨g.2.1.1, g.2.2.2.2⟩, fun z => by omega⟩
    · exact ⟨fun z => by omega, fun z => by omega, fun _ => ⟨g.2.2.2.1, g.2.2.2.2.2, g.2.2.2.2.1⟩⟩
    · rw [g]; exact ⟨fun z => absurd z (by decide), fun z => absurd z (by decide), fun z => absurd z (by decide)⟩
    · exact ⟨fun z => by omega, fun z => by omega, fun z => by omega⟩
  cases P with
  | nil => exact gen _ hs
  | cons q P =>
    rw [qry_c]
    by_cases c1 : q.1.1 = 5 ∧ q.2 = 0
    · rw [if_pos c1]; exact ⟨fun z => absurd z (by show ¬ (0 : Int) = 3; omega), fun z => absurd z (by show ¬ (0 : Int) = 4; omega), fun z => absurd z (by show ¬ (0 : Int) = 5; omega)⟩
    rw [if_neg c1]
    by_cases c2 : q.1.1 = 5 ∧ τ 22 q.1.2.1.toNat = 3
    · rw [if_pos c2]; exact ⟨fun z => absurd z (by show ¬ (1 : Int) = 3; omega), fun z => absurd z (by show ¬ (1 : Int) = 4; omega), fun z => absurd z (by show ¬ (1 : Int) = 5; omega)⟩
    rw [if_neg c2]
    exact gen _ hs
theorem wid_leaf {τ : Sg} {a : Ask} (h : a.1 < 3) : wid τ a = 0 := by
  unfold wid
  rw [if_neg (by omega), if_neg (by omega), if_neg (by omega)]
  rfl
theorem wid_g {τ : Sg} {a : Ask} (h : a.1 = 5) : wid τ a = 2 := by
  unfold wid
  rw [if_neg (by omega), if_neg (by omega), if_pos h]
  rfl
theorem hk_hd {a : Ask} {i : Nat} {P : Pth} (h : a.1 = 3) : hk ((a, i) :: P) a.2.1 = i := by
  show (if a.1 = 3 ∧ a.2.1 = a.2.1 then (i : Int) else hk P a.2.1) = i
  rw [if_pos ⟨h, rfl⟩]
theorem vk_hd {a : Ask} {i : Nat} {P : Pth} (h : a.1 = 4) : vk ((a, i) :: P) a.2.2 a.2.1 = i := by
  show (if a.1 = 4 ∧ a.2.1 = a.2.1 ∧ a.2.2 = a.2.2 then (i : Int) else vk P a.2.2 a.2.1) = i
  rw [if_pos ⟨h, rfl, rfl⟩]
theorem fk_hd {a : Ask} {i c : Nat} {P : Pth} (h : a.1 = 5) (hc : a.2.1 = c) (hf : fk P c = false) : fk ((a, i) :: P) c = decide (0 < i) := by
  show (decide (a.1 = 5 ∧ a.2.1 = (c : Int) ∧ 0 < i) || fk P c) = decide (0 < i)
  rw [hf, Bool.or_false]
  by_cases g : 0 < i
  · rw [decide_eq_true g, decide_eq_true ⟨h, hc, g⟩]
  · rw [decide_eq_false g, decide_eq_false (fun z => g z.2.2)]
theorem un9_n {i : Nat} : un9 (i : Int) = i := by unfold un9; rw [if_neg (by omega)]
/-- a branch of a node, taken as known -/
theorem learn_to {τ σ : Sg} {t n i : Nat} {m : Bool} {P Q : Pth} (hW : WFP τ) (hF : WFK (τ 1) (τ 2) (τ 3)) (hM : WFM τ) (hWW : WFW τ) (hap : AP τ m P) (h1 : σ (t + 1) n = enA (qry τ m P)) (hn : n < 500) (hi : i < wid τ (qry τ m P)) (hK : KNo σ Q) (hE : Ex (qry τ m P) P Q) : KNo (F_X7_learn t n (i : Int) σ) ((qry τ m P, i) :: P) ∧ FrJ σ (F_X7_learn t n (i : Int) σ) := by
  obtain ⟨ok1, ok2, ok3, ok4⟩ := qry_ok hW hF hM hWW hap
  obtain ⟨u1, u2, u3⟩ := qry_unk hW hF hM hWW hap
  have h23 := hM.2.1
  refine learn_k h1 hn ok1 hK (hE.symm.trans Ex.cons) (fun c => ⟨(u1 c).1, by rw [hk_hd c, un9_n]⟩) (fun c => ⟨(u2 c).1, ok3 c, by rw [vk_hd c, un9_n], by omega, by omega⟩) (fun c => ?_) (fun c => by rw [wid_leaf c] at hi; omega)
  have hc := ok4 (Or.inl c)
  rw [wid_g c] at hi
  refine ⟨by omega, ?_⟩
  rw [fk_hd c (by omega) (u3 c).1]
  by_cases g : 0 < i
  · rw [decide_eq_true g, decide_eq_true (by omega)]
  · rw [decide_eq_false g, decide_eq_false (by omega)]
/-- a node's own ask, taken as not known -/
theorem learn_off {τ σ : Sg} {t n : Nat} {m : Bool} {P Q : Pth} (hW : WFP τ) (hF : WFK (τ 1) (τ 2) (τ 3)) (hM : WFM τ) (hWW : WFW τ) (hap : AP τ m P) (h1 : σ (t + 1) n = enA (qry τ m P)) (hn : n < 500) (hK : KNo σ Q) (hE : Ex (qry τ m P) P Q) (hl : (qry τ m P).1 < 3 → Q = P) : KNo (F_X7_learn t n (-1) σ) P ∧ FrJ σ (F_X7_learn t n (-1) σ) := by
  obtain ⟨ok1, ok2, ok3, ok4⟩ := qry_ok hW hF hM hWW hap
  obtain ⟨u1, u2, u3⟩ := qry_unk hW hF hM hWW hap
  have h23 := hM.2.1
  refine learn_k h1 hn ok1 hK hE.symm (fun c => ⟨(u1 c).1, by rw [(u1 c).2]; rfl⟩) (fun c => ⟨(u2 c).1, ok3 c, by rw [(u2 c).2]; rfl, by omega, by omega⟩) (fun c => ?_) (fun c => (hl c).symm)
  have hc := ok4 (Or.inl c)
  exact ⟨by omega, by rw [(u3 c).1, decide_eq_false (by omega)]⟩
def GC (τ σ : Sg) (t : Nat) (m : Bool) (pf : Nat → Pth) (S : Nat → Nat) (N B cur : Nat) (M : Nat → Nat) : Prop :=
  (GT τ σ t m pf S N B) ∧
  (cur < N) ∧
  (∀ n, n < N → σ (t + 5) n = M n ∧ M n ≤ wid τ (qry τ m (pf n))) ∧
  (∀ n i, n < N → i < M n → ∃ c, 0 < c ∧ c < N ∧ pf c = (qry τ m (pf n), i) :: pf n) ∧
  (∀ n, n < N → ¬ pf n ∈ sfx (pf cur) → M n = wid τ (qry τ m (pf n))) ∧
  (∀ n i, n < N → (qry τ m (pf n), i) :: pf n ∈ sfx (pf cur) → M n = i + 1) ∧
  (∀ n, n < N → lx (rp (pf n)) (rp (pf cur) ++ [M cur])) ∧
  (KNo σ (if M cur = 0 then pf cur else (qry τ m (pf cur), M cur - 1) :: pf cur))
theorem GC.gt {τ σ : Sg} {t : Nat} {m : Bool} {pf : Nat → Pth} {S : Nat → Nat} {N B cur : Nat} {M : Nat → Nat} (h : GC τ σ t m pf S N B cur M) : GT τ σ t m pf S N B := h.1
theorem GC.cN {τ σ : Sg} {t : Nat} {m : Bool} {pf : Nat → Pth} {S : Nat → Nat} {N B cur : Nat} {M : Nat → Nat} (h : GC τ σ t m pf S N B cur M) : cur < N := h.2.1
theorem GC.mk {τ σ : Sg} {t : Nat} {m : Bool} {pf : Nat → Pth} {S : Nat → Nat} {N B cur : Nat} {M : Nat → Nat} (h : GC τ σ t m pf S N B cur M) : ∀ n, n < N → σ (t + 5) n = M n ∧ M n ≤ wid τ (qry τ m (pf n)) := h.2.2.1
theorem GC.kid {τ σ : Sg} {t : Nat} {m : Bool} {pf : Nat → Pth} {S : Nat → Nat} {N B cur : Nat} {M : Nat → Nat} (h : GC τ σ t m pf S N B cur M) : ∀ n i, n < N → i < M n → ∃ c, 0 < c ∧ c < N ∧ pf c = (qry τ m (pf n), i) :: pf n := h.2.2.2.1
theorem GC.off {τ σ : Sg} {t : Nat} {m : Bool} {pf : Nat → Pth} {S : Nat → Nat} {N B cur : Nat} {M : Nat → Nat} (h : GC τ σ t m pf S N B cur M) : ∀ n, n < N → ¬ pf n ∈ sfx (pf cur) → M n = wid τ (qry τ m (pf n)) := h.2.2.2.2.1
theorem GC.stk {τ σ : Sg} {t : Nat} {m : Bool} {pf : Nat → Pth} {S : Nat → Nat} {N B cur : Nat} {M : Nat → Nat} (h : GC τ σ t m pf S N B cur M) : ∀ n i, n < N → (qry τ m (pf n), i) :: pf n ∈ sfx (pf cur) → M n = i + 1 := h.2.2.2.2.2.1
theorem GC.top {τ σ : Sg} {t : Nat} {m : Bool} {pf : Nat → Pth} {S : Nat → Nat} {N B cur : Nat} {M : Nat → Nat} (h : GC τ σ t m pf S N B cur M) : ∀ n, n < N → lx (rp (pf n)) (rp (pf cur) ++ [M cur]) := h.2.2.2.2.2.2.1
theorem GC.kn {τ σ : Sg} {t : Nat} {m : Bool} {pf : Nat → Pth} {S : Nat → Nat} {N B cur : Nat} {M : Nat → Nat} (h : GC τ σ t m pf S N B cur M) : KNo σ (if M cur = 0 then pf cur else (qry τ m (pf cur), M cur - 1) :: pf cur) := h.2.2.2.2.2.2.2
theorem GT.fr {τ σ σ' : Sg} {t : Nat} {m : Bool} {pf : Nat → Pth} {S : Nat → Nat} {N B : Nat} (h : GT τ σ t m pf S N B) (hs : ∀ r, t ≤ r → r ≤ t + 4 → σ' r = σ r) : GT τ σ' t m pf S N B := by
  unfold GT at *
  rw [hs t (by omega) (by omega), hs (t + 1) (by omega) (by omega), hs (t + 2) (by omega) (by omega), hs (t + 3) (by omega) (by omega), hs (t + 4) (by omega) (by omega)]
  exact h
theorem GC.ex {τ σ : Sg} {t : Nat} {m : Bool} {pf : Nat → Pth} {S : Nat → Nat} {N B cur : Nat} {M : Nat → Nat} (h : GC τ σ t m pf S N B cur M) : Ex (qry τ m (pf cur)) (pf cur) (if M cur = 0 then pf cur else (qry τ m (pf cur), M cur - 1) :: pf cur) := by
  by_cases g : M cur = 0
  · rw [if_pos g]; exact Ex.rfl'
  · rw [if_neg g]; exact Ex.cons
theorem widthOf_t {τ σ : Sg} {t : Nat} {m : Bool} {pf : Nat → Pth} {S : Nat → Nat} {N B n : Nat} (h : GT τ σ t m pf S N B) (hn : n < N) (hB : B ≤ 600) : F_X7_widthOf t n σ = ((wid τ (qry τ m (pf n)) : Nat) : Int) := by
  have h5 := h.n500
  have h1 := h.ss n hn
  have h2 := h.top hn
  unfold F_X7_widthOf B_X7_widthOf_27
  rw [h.n4, wrap_id (z := (n : Int) + 1) (by omega) (by omega), rdD_ok (by omega) (by omega), show ((n : Int)).toNat = n by omega, h.st n hn, h.n5]
  by_cases g : (N : Int) ≤ (n : Int) + 1
  · rw [if_pos g, wrap_id (by omega) (by omega)]
    have := h.sB
    rw [show N = n + 1 by omega] at this
    omega
  · rw [if_neg g, rdD_ok (by omega) (by omega), show ((n : Int) + 1).toNat = n + 1 by omega, h.st (n + 1) (by omega), wrap_id (by omega) (by omega)]
    omega
