/-! what ties the class's cells to the reference's: kinds, values, patterns, views, match, course -/
/-- kinds -/
def WFK (cn fl fk : Nat → Int) : Prop := (∀ t : Nat, t < 4 → 0 ≤ cn t ∧ cn t ≤ 4) ∧ ∀ t c : Nat, t < 4 → (c : Int) < cn t → 0 ≤ fl (4 * t + c) ∧ fl (4 * t + c) ≤ 3 ∧ ∀ k : Nat, (k : Int) < fl (4 * t + c) → 0 ≤ fk (3 * (4 * t + c) + k) ∧ fk (3 * (4 * t + c) + k) ≤ 5
def RK (σ τ : Sg) : Prop := (∀ i : Nat, i < 4 → σ 2 i = τ 1 i) ∧ (∀ i : Nat, i < 16 → σ 3 i = τ 2 i) ∧ (∀ i : Nat, i < 48 → σ 4 i = τ 3 i) ∧ WFK (τ 1) (τ 2) (τ 3)
/-- values -/
def WFV (τ : Sg) : Prop := 0 ≤ τ 0 4 ∧ τ 0 4 ≤ 40 ∧ ∀ v : Nat, (v : Int) < τ 0 4 → 0 ≤ τ 4 v ∧ τ 4 v ≤ 5 ∧ 0 ≤ τ 7 v ∧ τ 7 v < 97 ∧ 0 ≤ τ 5 v ∧
  (τ 4 v = 4 → τ 5 v ≤ 9 ∧ τ 7 v = τ 5 v) ∧
  (τ 4 v = 5 → τ 5 v ≤ 3 ∧ ∀ k : Nat, k < 3 → 0 ≤ τ 6 (3 * v + k) ∧ τ 6 (3 * v + k) ≤ 9) ∧
  (τ 4 v < 4 → τ 5 v < τ 1 (τ 4 v).toNat ∧ ∀ k : Nat, (k : Int) < τ 2 (4 * (τ 4 v).toNat + (τ 5 v).toNat) → 0 ≤ τ 6 (3 * v + k) ∧ τ 6 (3 * v + k) < v ∧ τ 4 (τ 6 (3 * v + k)).toNat = τ 3 (3 * (4 * (τ 4 v).toNat + (τ 5 v).toNat) + k))
def RV (σ τ : Sg) : Prop := σ 5 0 = τ 0 4 ∧ WFV τ ∧ (∀ v : Nat, (v : Int) < τ 0 4 → σ 6 v = τ 4 v ∧ σ 7 v = τ 5 v ∧ σ 8 v = τ 7 v ∧
    (τ 4 v = 4 → ∀ j : Nat, j < 3 → σ 9 (3 * v + j) = -1) ∧
    (τ 4 v = 5 → ∀ j : Nat, j < 3 → σ 9 (3 * v + j) = if (j : Int) < τ 5 v then 40 + τ 6 (3 * v + j) else -1) ∧
    (τ 4 v < 4 → ∀ j : Nat, j < 3 → σ 9 (3 * v + j) = τ 6 (3 * v + j))) ∧
  ∀ d : Nat, d < 10 → σ 6 (40 + d) = 4 ∧ σ 7 (40 + d) = d ∧ σ 8 (40 + d) = d ∧ ∀ j : Nat, j < 3 → σ 9 (3 * (40 + d) + j) = -1
/-- views -/
def RW (σ τ : Sg) : Prop := (∀ i : Nat, i < 12 → σ 23 i = τ 18 i) ∧ ∀ v : Nat, v < 3 → 1 ≤ τ 18 (4 * v + 3) ∧ τ 18 (4 * v + 3) ≤ 10 ∧ ∀ j : Nat, j < 3 → -9 ≤ τ 18 (4 * v + j) ∧ τ 18 (4 * v + j) ≤ 9
/-- no engine stands -/
def NoEng (σ0 σ τ : Sg) : Prop := σ 33 3 = 0 ∧ σ 43 4 = 0 ∧ σ 49 4 = 0 ∧ τ 0 54 = -1 ∧ σ 43 2 = σ0 43 2 ∧ σ 49 2 = σ0 49 2
/-- patterns, of the reference -/
def prt (τ : Sg) (p k : Nat) : Int := τ 11 (3 * p + k)
/-- a part may stand for values of kind k -/
def fitsK (τ : Sg) (x k : Int) : Prop := 0 ≤ x ∧ x < τ 0 9 ∧ (τ 12 x.toNat = -1 ∨ τ 12 x.toNat = k)
def szo (τ : Sg) (x : Int) : Int := if x < 0 then 0 else τ 14 x.toNat
def dpo (τ : Sg) (x : Int) : Int := if x < 0 then 0 else τ 13 x.toNat
def nmo (τ : Sg) (x : Int) : Int := if x < 0 then 0 else τ 15 x.toNat
def max3 (a b c : Int) : Int := max a (max b c)
def WFP1 (τ : Sg) (p : Nat) : Prop :=
  (0 ≤ τ 8 p ∧ τ 8 p ≤ 6) ∧ (∀ k : Nat, k < 3 → -1 ≤ prt τ p k ∧ prt τ p k < p) ∧
  τ 14 p = 1 + szo τ (prt τ p 0) + szo τ (prt τ p 1) + szo τ (prt τ p 2) ∧ τ 14 p ≤ 40 ∧
  τ 13 p = max3 (dpo τ (prt τ p 0)) (dpo τ (prt τ p 1)) (dpo τ (prt τ p 2)) + (if τ 8 p = 1 ∨ τ 8 p = 4 ∨ τ 8 p = 5 then 0 else 1) ∧ τ 13 p ≤ 4 ∧
  (0 ≤ τ 15 p ∧ τ 15 p < 64) ∧
  τ 15 p = jor (jor (jor (if τ 8 p = 1 then jshl 1 (τ 9 p) else 0) (nmo τ (prt τ p 0))) (nmo τ (prt τ p 1))) (nmo τ (prt τ p 2)) ∧
  (τ 16 p = 0 ∨ τ 16 p = 1) ∧ (τ 17 p = 0 ∨ τ 17 p = 1) ∧
  (τ 8 p = 0 → τ 9 p = 0 ∧ τ 10 p = 0 ∧ prt τ p 0 = -1 ∧ prt τ p 1 = -1 ∧ prt τ p 2 = -1 ∧ τ 12 p = -1 ∧ τ 17 p = 1) ∧
  (τ 8 p = 1 → (0 ≤ τ 9 p ∧ τ 9 p ≤ 5) ∧ 0 ≤ prt τ p 0 ∧ prt τ p 1 = -1 ∧ prt τ p 2 = -1 ∧ τ 12 p = τ 12 (prt τ p 0).toNat ∧ τ 17 p = 0 ∧ ¬ (τ 15 (prt τ p 0).toNat).toNat.testBit (τ 9 p).toNat = true) ∧
  (τ 8 p = 2 → (0 ≤ τ 9 p ∧ τ 9 p ≤ τ 10 p ∧ τ 10 p ≤ 9) ∧ prt τ p 0 = -1 ∧ prt τ p 1 = -1 ∧ prt τ p 2 = -1 ∧ τ 12 p = 4 ∧ τ 17 p = 1) ∧
  (τ 8 p = 3 → ∃ t c : Nat, t < 4 ∧ (c : Int) < τ 1 t ∧ τ 9 p = 4 * t + c ∧ τ 12 p = t ∧ τ 17 p = 0 ∧ ∀ k : Nat, k < 3 → ((k : Int) < τ 2 (4 * t + c) → fitsK τ (prt τ p k) (τ 3 (3 * (4 * t + c) + k))) ∧ (τ 2 (4 * t + c) ≤ k → prt τ p k = -1)) ∧
  (τ 8 p = 4 → 0 ≤ prt τ p 0 ∧ 0 ≤ prt τ p 1 ∧ prt τ p 2 = -1 ∧ τ 12 p = (if τ 12 (prt τ p 0).toNat = -1 then τ 12 (prt τ p 1).toNat else τ 12 (prt τ p 0).toNat) ∧
    (τ 12 (prt τ p 0).toNat = -1 ∨ τ 12 (prt τ p 1).toNat = -1 ∨ τ 12 (prt τ p 0).toNat = τ 12 (prt τ p 1).toNat) ∧ τ 15 (prt τ p 0).toNat = τ 15 (prt τ p 1).toNat ∧
    (τ 17 p = 1 ↔ τ 17 (prt τ p 0).toNat = 1 ∧ τ 17 (prt τ p 1).toNat = 1)) ∧
  (τ 8 p = 5 → (0 ≤ τ 9 p ∧ τ 9 p ≤ 2) ∧ 0 ≤ prt τ p 0 ∧ prt τ p 1 = -1 ∧ prt τ p 2 = -1 ∧ τ 12 p = -1 ∧ τ 17 p = 0 ∧ τ 17 (prt τ p 0).toNat = 1) ∧
  (τ 8 p = 6 → (0 ≤ τ 9 p ∧ τ 9 p ≤ 2) ∧ (0 ≤ τ 10 p ∧ τ 10 p ≤ 2) ∧ τ 12 p = 5 ∧ τ 17 p = 0 ∧ prt τ p 2 = -1 ∧ ∀ k : Nat, k < 2 → ((k : Int) < τ 9 p → fitsK τ (prt τ p k) 4) ∧ (τ 9 p ≤ k → prt τ p k = -1))
def WFP (τ : Sg) : Prop := 0 ≤ τ 0 9 ∧ τ 0 9 ≤ 60 ∧ ∀ p : Nat, (p : Int) < τ 0 9 → WFP1 τ p
/-- the class's pattern p is the reference's -/
def sortOf (τ : Sg) (p : Nat) : Int := if τ 8 p = 6 ∧ τ 10 p = 2 then 7 else τ 8 p
def lowOf (τ : Sg) (p : Nat) : Int := if τ 8 p = 3 then jrem (τ 9 p) 4 else τ 9 p
def highOf (τ : Sg) (p : Nat) : Int := if τ 8 p = 2 then τ 10 p else if τ 8 p = 3 then jrem (τ 9 p) 4 else if τ 8 p = 6 then (if τ 10 p = 0 then τ 9 p else 3) else τ 9 p
def pcOf (τ : Sg) (p : Nat) : Int := (if prt τ p 0 = -1 then 0 else 1) + (if prt τ p 1 = -1 then 0 else 1) + (if prt τ p 2 = -1 then 0 else 1)
/-- the digits that a bare pattern matches -/
def bareM (τ : Sg) : Nat → Nat → Int → Bool
  | 0, _, _ => false
  | n + 1, p, d => if τ 8 p = 0 then true else if τ 8 p = 2 then decide (τ 9 p ≤ d ∧ d ≤ τ 10 p) else if τ 8 p = 4 then (bareM τ n (prt τ p 0).toNat d || bareM τ n (prt τ p 1).toNat d) else false
def RP1 (σ τ : Sg) (p : Nat) : Prop := σ 11 p = sortOf τ p ∧ σ 12 p = τ 12 p ∧ σ 13 p = lowOf τ p ∧ σ 14 p = highOf τ p ∧ (∀ k : Nat, k < 3 → σ 15 (3 * p + k) = prt τ p k) ∧ σ 16 p = pcOf τ p ∧ σ 17 p = τ 13 p ∧ σ 18 p = τ 14 p ∧ σ 19 p = τ 15 p ∧ σ 20 p = τ 16 p ∧
  (0 ≤ σ 21 p ∧ σ 21 p < 1024) ∧ (σ 21 p = 0 ↔ ¬ τ 17 p = 1) ∧ (τ 17 p = 1 → ∀ d : Nat, d < 10 → ((σ 21 p).toNat.testBit d = true ↔ bareM τ (p + 1) p d = true))
def RP (σ τ : Sg) : Prop := σ 10 0 = τ 0 9 ∧ WFP τ ∧ (∀ p : Nat, (p : Int) < τ 0 9 → RP1 σ τ p) ∧ ∀ p : Nat, τ 0 9 ≤ p → p < 60 → σ 16 p = 0
/-- whether a pattern for values of a kind binds a name, and whether to numbers alone -/
def bnS (τ : Sg) (name : Int) : Nat → Nat → Int → Bool × Bool
  | 0, _, _ => (false, true)
  | n + 1, p, kd =>
    let own : Bool := decide (τ 8 p = 1 ∧ τ 9 p = name)
    let sub : Nat → Bool × Bool := fun k => if prt τ p k = -1 then (false, true) else bnS τ name n (prt τ p k).toNat (if τ 8 p = 3 then τ 3 (3 * (τ 9 p).toNat + k) else if τ 8 p = 6 then 4 else kd)
    (own || (sub 0).1 || (sub 1).1 || (sub 2).1, (!own || decide (kd = 4)) && (sub 0).2 && (sub 1).2 && (sub 2).2)
def cpt (τ : Sg) (c k : Nat) : Int := τ 20 (3 * c + k)
/-- the match -/
def bnC (τ : Sg) (c : Nat) (name : Int) : Bool × Bool :=
  let sub : Nat → Bool × Bool := fun k => if τ 0 21 ≤ k then (false, true) else bnS τ name 61 (cpt τ c k).toNat (τ 19 k)
  ((sub 0).1 || (sub 1).1 || (sub 2).1, (sub 0).2 && (sub 1).2 && (sub 2).2)
def WFM1 (τ : Sg) (c : Nat) : Prop :=
  (∀ k : Nat, k < 3 → ((k : Int) < τ 0 21 → fitsK τ (cpt τ c k) (τ 19 k)) ∧ (τ 0 21 ≤ k → cpt τ c k = -1)) ∧
  (0 ≤ τ 21 c ∧ τ 21 c ≤ 99) ∧ (-1 ≤ τ 22 c ∧ τ 22 c ≤ 3) ∧ (¬ τ 22 c = -1 → (0 ≤ τ 23 c ∧ τ 23 c ≤ 5) ∧ (0 ≤ τ 24 c ∧ τ 24 c ≤ 9) ∧ bnC τ c (τ 23 c) = (true, true))
def WFM (τ : Sg) : Prop := (0 ≤ τ 0 21 ∧ τ 0 21 ≤ 3) ∧ (0 ≤ τ 0 23 ∧ τ 0 23 ≤ 8) ∧ (∀ k : Nat, (k : Int) < τ 0 21 → 0 ≤ τ 19 k ∧ τ 19 k ≤ 5) ∧ (τ 0 21 = 0 → τ 0 23 = 0) ∧ ∀ c : Nat, (c : Int) < τ 0 23 → WFM1 τ c
def RM1 (σ τ : Sg) (c : Nat) : Prop := (∀ k : Nat, k < 3 → σ 26 (8 * c + k) = cpt τ c k) ∧ σ 26 (8 * c + 3) = τ 21 c ∧ σ 26 (8 * c + 4) = τ 22 c ∧ (¬ τ 22 c = -1 → σ 26 (8 * c + 5) = τ 23 c ∧ σ 26 (8 * c + 6) = τ 24 c) ∧ σ 26 (8 * c + 7) = τ 25 c
def RM (σ τ : Sg) : Prop := σ 24 0 = τ 0 21 ∧ σ 24 1 = τ 0 23 ∧ (∀ k : Nat, k < 3 → σ 25 k = τ 19 k) ∧ WFM τ ∧ ∀ c : Nat, (c : Int) < τ 0 23 → RM1 σ τ c
/-- the course of the latest run -/
def RC (σ τ : Sg) : Prop := σ 27 3 = τ 0 47 ∧ σ 27 4 = τ 0 48 ∧ (0 ≤ τ 0 48 ∧ τ 0 48 ≤ 360) ∧ (∀ i : Nat, (i : Int) < τ 0 48 → σ 30 i = 100000 * τ 36 i + 10 * τ 37 i + τ 38 i ∧ (0 ≤ τ 36 i ∧ τ 36 i ≤ 2) ∧ (0 ≤ τ 37 i ∧ τ 37 i ≤ 468) ∧ (0 ≤ τ 38 i ∧ τ 38 i ≤ 9)) ∧
  ∀ i : Nat, i < 6 → σ 31 i = if τ 0 52 = -1 then -1 else τ 39 i
def RS (σ τ : Sg) : Prop := RK σ τ ∧ RV σ τ ∧ RP σ τ ∧ RW σ τ ∧ RM σ τ ∧ RC σ τ
/-- both refuse, and nothing changes -/
def Thr (es : List (Nat × Int)) (f : Option ((Int ⊕ Nat) × Sg)) (g : Option (Int × Sg)) (σ τ : Sg) : Prop := ∃ (E : Nat) (t : Int), f = some (.inr E, σ) ∧ g = some (0, up2 τ 0 0 t) ∧ kE es E = some t ∧ 1 ≤ t ∧ t ≤ 3
/-- both answer v -/
def Okk (f : Option ((Int ⊕ Nat) × Sg)) (g : Option (Int × Sg)) (v : Int) (σ' τ' : Sg) : Prop := f = some (.inl v, σ') ∧ g = some (v, τ') ∧ τ' 0 0 = 0
def ExtK (τ τ' : Sg) : Prop := ∀ t : Nat, t < 4 → τ 1 t ≤ τ' 1 t ∧ ∀ c : Nat, (c : Int) < τ 1 t → τ' 2 (4 * t + c) = τ 2 (4 * t + c) ∧ ∀ k : Nat, k < 3 → τ' 3 (3 * (4 * t + c) + k) = τ 3 (3 * (4 * t + c) + k)
def ExtP (τ τ' : Sg) : Prop := τ 0 9 ≤ τ' 0 9 ∧ ∀ p : Nat, (p : Int) < τ 0 9 → (∀ r ∈ [8, 9, 10, 12, 13, 14, 15, 16, 17], τ' r p = τ r p) ∧ ∀ k : Nat, k < 3 → τ' 11 (3 * p + k) = τ 11 (3 * p + k)
