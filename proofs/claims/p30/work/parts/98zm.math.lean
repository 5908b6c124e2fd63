/-! nodes as the given program numbers them: what comes first -/
def lx : List Nat → List Nat → Prop
  | [], m => ¬ m = []
  | a :: l, m => match m with
    | [] => False
    | b :: m => a < b ∨ (a = b ∧ lx l m)
theorem lx_irr : ∀ l : List Nat, ¬ lx l l
  | [], h => h rfl
  | a :: l, h => by
    rcases h with h | ⟨-, h⟩
    · omega
    · exact lx_irr l h
theorem lx_trans : ∀ (l m n : List Nat), lx l m → lx m n → lx l n
  | [], m, [], h1, h2 => by
    cases m with
    | nil => exact absurd rfl h1
    | cons b m => exact h2.elim
  | [], m, c :: n, h1, h2 => by show ¬ c :: n = []; intro q; cases q
  | a :: l, [], n, h1, h2 => h1.elim
  | a :: l, b :: m, [], h1, h2 => h2.elim
  | a :: l, b :: m, c :: n, h1, h2 => by
    show a < c ∨ (a = c ∧ lx l n)
    rcases h1 with h1 | ⟨e1, h1⟩
    · rcases h2 with h2 | ⟨e2, h2⟩
      · exact Or.inl (by omega)
      · exact Or.inl (by omega)
    · rcases h2 with h2 | ⟨e2, h2⟩
      · exact Or.inl (by omega)
      · exact Or.inr ⟨by omega, lx_trans l m n h1 h2⟩
theorem lx_pre : ∀ (l m n : List Nat), lx m n → lx (l ++ m) (l ++ n)
  | [], _, _, h => h
  | a :: l, m, n, h => Or.inr ⟨rfl, lx_pre l m n h⟩
theorem lx_app (l : List Nat) (x : Nat) (r : List Nat) : lx l (l ++ x :: r) := by
  have := lx_pre l [] (x :: r) (by intro q; cases q)
  rw [List.append_nil] at this
  exact this
theorem lx_lt (l : List Nat) {i j : Nat} (r s : List Nat) (h : i < j) : lx (l ++ i :: r) (l ++ j :: s) := lx_pre l _ _ (Or.inl h)
/-- of two lists one comes first, or they are the same -/
theorem lx_tri : ∀ l m : List Nat, lx l m ∨ l = m ∨ lx m l
  | [], [] => Or.inr (Or.inl rfl)
  | [], b :: m => Or.inl (by intro q; cases q)
  | a :: l, [] => Or.inr (Or.inr (by intro q; cases q))
  | a :: l, b :: m => by
    rcases Nat.lt_trichotomy a b with h | h | h
    · exact Or.inl (Or.inl h)
    · rcases lx_tri l m with g | g | g
      · exact Or.inl (Or.inr ⟨h, g⟩)
      · exact Or.inr (Or.inl (by rw [h, g]))
      · exact Or.inr (Or.inr (Or.inr ⟨h.symm, g⟩))
    · exact Or.inr (Or.inr (Or.inl h))
/-- the branches from the root on -/
def rp : Pth → List Nat
  | [] => []
  | q :: P => rp P ++ [q.2]
/-- a way and those that it goes on from -/
def sfx : Pth → List Pth
  | [] => [[]]
  | q :: P => (q :: P) :: sfx P
theorem sfx_self (P : Pth) : P ∈ sfx P := by
  cases P with
  | nil => exact List.mem_singleton.mpr rfl
  | cons q P => exact List.mem_cons_self
theorem sfx_len : ∀ {P Q : Pth}, Q ∈ sfx P → Q.length ≤ P.length
  | [], Q, h => by rw [List.mem_singleton.mp h]; exact Nat.le_refl _
  | q :: P, Q, h => by
    rcases List.mem_cons.mp h with h | h
    · rw [h]; exact Nat.le_refl _
    · have := sfx_len h
      rw [List.length_cons]; omega
def GT (τ σ : Sg) (t : Nat) (m : Bool) (pf : Nat → Pth) (S : Nat → Nat) (N B : Nat) : Prop :=
  (σ t 4 = N) ∧
  (σ t 5 = B) ∧
  (0 < N) ∧
  (N ≤ 500) ∧
  (pf 0 = []) ∧
  (∀ n, n < N → AP τ m (pf n)) ∧
  (∀ n, n < N → σ (t + 1) n = enA (qry τ m (pf n))) ∧
  (S 0 = 0) ∧
  (∀ n, n < N → S (n + 1) = S n + wid τ (qry τ m (pf n))) ∧
  (S N = B) ∧
  (∀ n, n < N → σ (t + 2) n = S n) ∧
  (σ (t + 4) 0 = -1) ∧
  (∀ n, 0 < n → n < N → ∃ a i, a < n ∧ i < wid τ (qry τ m (pf a)) ∧ σ (t + 4) n = a ∧ pf n = (qry τ m (pf a), i) :: pf a ∧ σ (t + 3) (S a + i) = n) ∧
  (σ t 7 = ((cl (fun n => decide ((qry τ m (pf n)).1 = 2)) N : Nat) : Int)) ∧
  (∀ n, n < N → (qry τ m (pf n)).1 = 2 → (∀ j, j < n → ¬ (qry τ m (pf j)).1 = 2) → σ t 8 = n) ∧
  (0 ≤ σ t 9 ∧ σ t 9 < 256) ∧
  (∀ c : Nat, c < 8 → ((σ t 9).toNat.testBit c = true ↔ ∃ n, n < N ∧ ((qry τ m (pf n)).1 = 0 ∨ (qry τ m (pf n)).1 = 1) ∧ (qry τ m (pf n)).2.1 = (c : Int))) ∧
  (∀ a b, a < b → b < N → lx (rp (pf a)) (rp (pf b)))
theorem GT.n4 {τ σ : Sg} {t : Nat} {m : Bool} {pf : Nat → Pth} {S : Nat → Nat} {N B : Nat} (h : GT τ σ t m pf S N B) : σ t 4 = N := h.1
theorem GT.n5 {τ σ : Sg} {t : Nat} {m : Bool} {pf : Nat → Pth} {S : Nat → Nat} {N B : Nat} (h : GT τ σ t m pf S N B) : σ t 5 = B := h.2.1
theorem GT.pos {τ σ : Sg} {t : Nat} {m : Bool} {pf : Nat → Pth} {S : Nat → Nat} {N B : Nat} (h : GT τ σ t m pf S N B) : 0 < N := h.2.2.1
theorem GT.n500 {τ σ : Sg} {t : Nat} {m : Bool} {pf : Nat → Pth} {S : Nat → Nat} {N B : Nat} (h : GT τ σ t m pf S N B) : N ≤ 500 := h.2.2.2.1
theorem GT.p0 {τ σ : Sg} {t : Nat} {m : Bool} {pf : Nat → Pth} {S : Nat → Nat} {N B : Nat} (h : GT τ σ t m pf S N B) : pf 0 = [] := h.2.2.2.2.1
theorem GT.ap {τ σ : Sg} {t : Nat} {m : Bool} {pf : Nat → Pth} {S : Nat → Nat} {N B : Nat} (h : GT τ σ t m pf S N B) : ∀ n, n < N → AP τ m (pf n) := h.2.2.2.2.2.1
theorem GT.asks {τ σ : Sg} {t : Nat} {m : Bool} {pf : Nat → Pth} {S : Nat → Nat} {N B : Nat} (h : GT τ σ t m pf S N B) : ∀ n, n < N → σ (t + 1) n = enA (qry τ m (pf n)) := h.2.2.2.2.2.2.1
theorem GT.s0 {τ σ : Sg} {t : Nat} {m : Bool} {pf : Nat → Pth} {S : Nat → Nat} {N B : Nat} (h : GT τ σ t m pf S N B) : S 0 = 0 := h.2.2.2.2.2.2.2.1
theorem GT.ss {τ σ : Sg} {t : Nat} {m : Bool} {pf : Nat → Pth} {S : Nat → Nat} {N B : Nat} (h : GT τ σ t m pf S N B) : ∀ n, n < N → S (n + 1) = S n + wid τ (qry τ m (pf n)) := h.2.2.2.2.2.2.2.2.1
theorem GT.sB {τ σ : Sg} {t : Nat} {m : Bool} {pf : Nat → Pth} {S : Nat → Nat} {N B : Nat} (h : GT τ σ t m pf S N B) : S N = B := h.2.2.2.2.2.2.2.2.2.1
theorem GT.st {τ σ : Sg} {t : Nat} {m : Bool} {pf : Nat → Pth} {S : Nat → Nat} {N B : Nat} (h : GT τ σ t m pf S N B) : ∀ n, n < N → σ (t + 2) n = S n := h.2.2.2.2.2.2.2.2.2.2.1
theorem GT.a0 {τ σ : Sg} {t : Nat} {m : Bool} {pf : Nat → Pth} {S : Nat → Nat} {N B : Nat} (h : GT τ σ t m pf S N B) : σ (t + 4) 0 = -1 := h.2.2.2.2.2.2.2.2.2.2.2.1
theorem GT.par {τ σ : Sg} {t : Nat} {m : Bool} {pf : Nat → Pth} {S : Nat → Nat} {N B : Nat} (h : GT τ σ t m pf S N B) : ∀ n, 0 < n → n < N → ∃ a i, a < n ∧ i < wid τ (qry τ m (pf a)) ∧ σ (t + 4) n = a ∧ pf n = (qry τ m (pf a), i) :: pf a ∧ σ (t + 3) (S a + i) = n := h.2.2.2.2.2.2.2.2.2.2.2.2.1
theorem GT.mis {τ σ : Sg} {t : Nat} {m : Bool} {pf : Nat → Pth} {S : Nat → Nat} {N B : Nat} (h : GT τ σ t m pf S N B) : σ t 7 = ((cl (fun n => decide ((qry τ m (pf n)).1 = 2)) N : Nat) : Int) := h.2.2.2.2.2.2.2.2.2.2.2.2.2.1
theorem GT.fm {τ σ : Sg} {t : Nat} {m : Bool} {pf : Nat → Pth} {S : Nat → Nat} {N B : Nat} (h : GT τ σ t m pf S N B) : ∀ n, n < N → (qry τ m (pf n)).1 = 2 → (∀ j, j < n → ¬ (qry τ m (pf j)).1 = 2) → σ t 8 = n := h.2.2.2.2.2.2.2.2.2.2.2.2.2.2.1
theorem GT.us {τ σ : Sg} {t : Nat} {m : Bool} {pf : Nat → Pth} {S : Nat → Nat} {N B : Nat} (h : GT τ σ t m pf S N B) : 0 ≤ σ t 9 ∧ σ t 9 < 256 := h.2.2.2.2.2.2.2.2.2.2.2.2.2.2.2.1
theorem GT.ub {τ σ : Sg} {t : Nat} {m : Bool} {pf : Nat → Pth} {S : Nat → Nat} {N B : Nat} (h : GT τ σ t m pf S N B) : ∀ c : Nat, c < 8 → ((σ t 9).toNat.testBit c = true ↔ ∃ n, n < N ∧ ((qry τ m (pf n)).1 = 0 ∨ (qry τ m (pf n)).1 = 1) ∧ (qry τ m (pf n)).2.1 = (c : Int)) := h.2.2.2.2.2.2.2.2.2.2.2.2.2.2.2.2.1
theorem GT.ord {τ σ : Sg} {t : Nat} {m : Bool} {pf : Nat → Pth} {S : Nat → Nat} {N B : Nat} (h : GT τ σ t m pf S N B) : ∀ a b, a < b → b < N → lx (rp (pf a)) (rp (pf b)) := h.2.2.2.2.2.2.2.2.2.2.2.2.2.2.2.2.2
theorem GT.inj {τ σ : Sg} {t : Nat} {m : Bool} {pf : Nat → Pth} {S : Nat → Nat} {N B : Nat} (h : GT τ σ t m pf S N B) {a b : Nat} (ha : a < N) (hb : b < N) (e : pf a = pf b) : a = b := by
  rcases Nat.lt_trichotomy a b with g | g | g
  · have := h.ord a b g hb
    rw [e] at this
    exact absurd this (lx_irr _)
  · exact g
  · have := h.ord b a g ha
    rw [e] at this
    exact absurd this (lx_irr _)
theorem GT.mono {τ σ : Sg} {t : Nat} {m : Bool} {pf : Nat → Pth} {S : Nat → Nat} {N B : Nat} (h : GT τ σ t m pf S N B) {a : Nat} : ∀ d : Nat, a + d ≤ N → S a ≤ S (a + d)
  | 0, _ => Nat.le_refl _
  | d + 1, hd => by
    have := h.mono (a := a) d (by omega)
    have := h.ss (a + d) (by omega)
    rw [show a + (d + 1) = a + d + 1 by omega]
    omega
/-- the branches of all nodes are one row, without holes -/
theorem GT.apart {τ σ : Sg} {t : Nat} {m : Bool} {pf : Nat → Pth} {S : Nat → Nat} {N B : Nat} (h : GT τ σ t m pf S N B) {a b i j : Nat} (ha : a < N) (hb : b < N) (hi : i < wid τ (qry τ m (pf a))) (hj : j < wid τ (qry τ m (pf b))) (e : S a + i = S b + j) : a = b ∧ i = j := by
  have h1 := h.ss a ha
  have h2 := h.ss b hb
  rcases Nat.lt_trichotomy a b with g | g | g
  · have := h.mono (a := a + 1) (b - (a + 1)) (by omega)
    rw [show a + 1 + (b - (a + 1)) = b by omega] at this
    omega
  · rw [g] at e
    exact ⟨g, by omega⟩
  · have := h.mono (a := b + 1) (a - (b + 1)) (by omega)
    rw [show b + 1 + (a - (b + 1)) = a by omega] at this
    omega
theorem GT.top {τ σ : Sg} {t : Nat} {m : Bool} {pf : Nat → Pth} {S : Nat → Nat} {N B : Nat} (h : GT τ σ t m pf S N B) {a : Nat} (ha : a < N) : S a + wid τ (qry τ m (pf a)) ≤ B := by
  have h1 := h.ss a ha
  have := h.mono (a := a + 1) (N - (a + 1)) (by omega)
  rw [show a + 1 + (N - (a + 1)) = N by omega, h.sB] at this
  omega
set_option maxHeartbeats 4000000 in
theorem GT.add {τ σ σ' : Sg} {t : Nat} {m : Bool} {pf pf' : Nat → Pth} {S S' : Nat → Nat} {N B cur br w : Nat} {A : Ask} (h : GT τ σ t m pf S N B) (hN : N < 500) (hcur : cur < N) (hbr : br < wid τ (qry τ m (pf cur))) (hp : ∀ n, n < N → pf' n = pf n) (hp' : pf' N = (qry τ m (pf cur), br) :: pf cur) (hA : qry τ m ((qry τ m (pf cur), br) :: pf cur) = A) (hw : wid τ A = w) (hS : ∀ n, n ≤ N → S' n = S n) (hS' : S' (N + 1) = B + w) (e4 : σ' t 4 = ((N + 1 : Nat) : Int)) (e5 : σ' t 5 = ((B + w : Nat) : Int)) (ea : σ' (t + 1) N = enA A) (es : σ' (t + 2) N = B) (ep : σ' (t + 4) N = cur) (eb : σ' (t + 3) (S cur + br) = N) (o1 : ∀ n, n < N → σ' (t + 1) n = σ (t + 1) n) (o2 : ∀ n, n < N → σ' (t + 2) n = σ (t + 2) n) (o4 : ∀ n, n < N → σ' (t + 4) n = σ (t + 4) n) (o3 : ∀ j, ¬ j = S cur + br → σ' (t + 3) j = σ (t + 3) j) (e7 : σ' t 7 = if A.1 = 2 then σ t 7 + 1 else σ t 7) (e8 : σ' t 8 = if A.1 = 2 ∧ σ t 7 = 0 then (N : Int) else σ t 8) (e9 : σ' t 9 = if A.1 = 0 ∨ A.1 = 1 then jor (σ t 9) (jshl 1 A.2.1) else σ t 9) (hA8 : A.1 = 0 ∨ A.1 = 1 → 0 ≤ A.2.1 ∧ A.2.1 < 8) (top : ∀ n, n < N → lx (rp (pf n)) (rp ((qry τ m (pf cur), br) :: pf cur))) : GT τ σ' t m pf' S' (N + 1) (B + w) := by
  have hq : qry τ m (pf' N) = A := by rw [hp', hA]
  have hcl : cl (fun n => decide ((qry τ m (pf' n)).1 = 2)) (N + 1) = cl (fun n => decide ((qry τ m (pf n)).1 = 2)) N + (if A.1 = 2 then 1 else 0) := by
    rw [cl_s, cl_congr (b' := fun n => decide ((qry τ m (pf n)).1 = 2)) N (fun c hc => by rw [hp c hc]), hq]
    by_cases g : A.1 = 2
    · rw [if_pos (by rw [decide_eq_true g]), if_pos g]
    · rw [if_neg (by rw [decide_eq_false g]; decide), if_neg g]
  have hs : ∀ n, n < N + 1 → n < N ∨ n = N := fun n hn => by omega
  refine ⟨e4, e5, by omega, by omega, ?_, fun n hn => ?_, fun n hn => ?_, ?_, fun n hn => ?_, hS', fun n hn => ?_, ?_, fun n n0 hn => ?_, ?_, fun n hn h2 hj => ?_, ?_, fun c hc => ?_, fun a b hab hb => ?_⟩
  · rw [hp 0 h.pos]; exact h.p0
  · rcases hs n hn with g | g
    · rw [hp n g]; exact h.ap n g
    · rw [g, hp']; exact ⟨h.ap cur hcur, rfl, hbr⟩
  · rcases hs n hn with g | g
    · rw [hp n g, o1 n g]; exact h.asks n g
    · rw [g, hq]; exact ea
  · rw [hS 0 (by omega)]; exact h.s0
  · rcases hs n hn with g | g
    · rw [hp n g, hS n (by omega), hS (n + 1) (by omega)]; exact h.ss n g
    · rw [g, hS', hS N (by omega), hq, hw, h.sB]
  · rcases hs n hn with g | g
    · rw [o2 n g, hS n (by omega)]; exact h.st n g
    · rw [g, es, hS N (by omega), h.sB]
  · rw [o4 0 h.pos]; exact h.a0
  · rcases hs n hn with g | g
    · obtain ⟨a, i, a1, a2, a3, a4, a5⟩ := h.par n n0 g
      refine ⟨a, i, a1, by rw [hp a (by omega)]; exact a2, by rw [o4 n g]; exact a3, by rw [hp n g, hp a (by omega)]; exact a4, ?_⟩
      rw [hS a (by omega), o3 _ (fun z => ?_)]
      · exact a5
      · obtain ⟨z1, z2⟩ := h.apart (by omega) hcur a2 hbr z
        have := top n g
        rw [a4, z1, z2] at this
        exact lx_irr _ this
    · exact ⟨cur, br, by omega, by rw [hp cur hcur]; exact hbr, by rw [g]; exact ep, by rw [g, hp', hp cur hcur], by rw [hS cur (by omega), g]; exact eb⟩
  · rw [e7, hcl, h.mis]
    by_cases g : A.1 = 2
    · rw [if_pos g, if_pos g]; omega
    · rw [if_neg g, if_neg g]; rfl
  · rw [e8]
    rcases hs n hn with g | g
    · rw [hp n g] at h2
      have hpos : 0 < cl (fun n => decide ((qry τ m (pf n)).1 = 2)) N := cl_pos N g (decide_eq_true h2)
      rw [if_neg (by rw [h.mis]; omega)]
      exact h.fm n g h2 (fun j hjn => by rw [← hp j (by omega)]; exact hj j hjn)
    · rw [g, hq] at h2
      have hz : cl (fun n => decide ((qry τ m (pf n)).1 = 2)) N = 0 := by
        have := cl_up (b := fun n => decide ((qry τ m (pf n)).1 = 2)) (m := 0) N (fun c _ hc => decide_eq_false (by rw [← hp c (by omega)]; exact hj c (by omega)))
        rw [Nat.zero_add] at this
        rw [this]; rfl
      rw [if_pos ⟨h2, by rw [h.mis, hz]; rfl⟩, g]
  · have hus := h.us
    rw [e9]
    by_cases g : A.1 = 0 ∨ A.1 = 1
    · obtain ⟨b1, b2⟩ := hA8 g
      have e := bit_s ⟨A.2.1.toNat, by omega⟩ ⟨(σ t 9).toNat, by omega⟩
      obtain ⟨e1, e2⟩ := bit_m2 ⟨A.2.1.toNat, by omega⟩ ⟨(σ t 9).toNat, by omega⟩
      simp only at e e1
      rw [show ((A.2.1.toNat : Nat) : Int) = A.2.1 by omega, show (((σ t 9).toNat : Nat) : Int) = σ t 9 by omega] at e
      rw [if_pos g, e]
      omega
    · rw [if_neg g]; exact hus
  · have hus := h.us
    have hold : (∃ n, n < N + 1 ∧ ((qry τ m (pf' n)).1 = 0 ∨ (qry τ m (pf' n)).1 = 1) ∧ (qry τ m (pf' n)).2.1 = (c : Int)) ↔ (∃ n, n < N ∧ ((qry τ m (pf n)).1 = 0 ∨ (qry τ m (pf n)).1 = 1) ∧ (qry τ m (pf n)).2.1 = (c : Int)) ∨ ((A.1 = 0 ∨ A.1 = 1) ∧ A.2.1 = (c : Int)) := by
      constructor
      · rintro ⟨n, n1, n2, n3⟩
        rcases hs n n1 with g | g
        · rw [hp n g] at n2 n3; exact Or.inl ⟨n, g, n2, n3⟩
        · rw [g, hq] at n2 n3; exact Or.inr ⟨n2, n3⟩
      · rintro (⟨n, n1, n2, n3⟩ | ⟨n2, n3⟩)
        · exact ⟨n, by omega, by rw [hp n n1]; exact n2, by rw [hp n n1]; exact n3⟩
        · exact ⟨N, by omega, by rw [hq]; exact n2, by rw [hq]; exact n3⟩
    rw [hold, ← h.ub c hc, e9]
    by_cases g : A.1 = 0 ∨ A.1 = 1
    · obtain ⟨b1, b2⟩ := hA8 g
      have e := bit_s ⟨A.2.1.toNat, by omega⟩ ⟨(σ t 9).toNat, by omega⟩
      obtain ⟨e1, e2⟩ := bit_m2 ⟨A.2.1.toNat, by omega⟩ ⟨(σ t 9).toNat, by omega⟩
      simp only at e e1 e2
      rw [show ((A.2.1.toNat : Nat) : Int) = A.2.1 by omega, show (((σ t 9).toNat : Nat) : Int) = σ t 9 by omega] at e
      have e3 := e2 ⟨c, hc⟩
      simp only [Fin.mk.injEq] at e3
      rw [if_pos g, e, Int.toNat_natCast, e3, Bool.or_eq_true, decide_eq_true_eq]
      constructor
      · rintro (z | z)
        · exact Or.inl z
        · exact Or.inr ⟨g, by omega⟩
      · rintro (z | ⟨-, z⟩)
        · exact Or.inl z
        · exact Or.inr (by omega)
    · rw [if_neg g]
      constructor
      · exact Or.inl
      · rintro (z | ⟨z, -⟩)
        · exact z
        · exact absurd z g
  · rcases hs b hb with g | g
    · rw [hp a (by omega), hp b g]; exact h.ord a b hab g
    · rw [g, hp', hp a (by omega)]; exact top a (by omega)
