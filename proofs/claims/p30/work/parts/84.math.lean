/-! a loop's steps -/
def Rch {α β : Type} (f : α → Option (α ⊕ β)) (k : Nat) (a b : α) : Prop := ∀ n, iter f (n + k) a = iter f n b
theorem Rch.nil {α β : Type} {f : α → Option (α ⊕ β)} {a : α} : Rch f 0 a a := fun _ => rfl
theorem Rch.one {α β : Type} {f : α → Option (α ⊕ β)} {a b : α} (h : f a = some (.inl b)) : Rch f 1 a b := fun _ => iter_l h
theorem Rch.trans {α β : Type} {f : α → Option (α ⊕ β)} {k l : Nat} {a b c : α} (h : Rch f k a b) (h' : Rch f l b c) : Rch f (k + l) a c := fun n => by
  rw [show n + (k + l) = (n + l) + k by omega, h, h']
theorem Rch.cons {α β : Type} {f : α → Option (α ⊕ β)} {l : Nat} {a b c : α} (h : f a = some (.inl b)) (h' : Rch f l b c) : Rch f (l + 1) a c := by
  have := (Rch.one h).trans h'
  rw [Nat.add_comm] at this
  exact this
theorem Rch.snoc {α β : Type} {f : α → Option (α ⊕ β)} {l : Nat} {a b c : α} (h : Rch f l a b) (h' : f b = some (.inl c)) : Rch f (l + 1) a c := h.trans (Rch.one h')
theorem Rch.fin {α β : Type} {f : α → Option (α ⊕ β)} {k m : Nat} {a b : α} {z : β} (h : Rch f k a b) (h' : f b = some (.inr z)) (hk : k < m) : iter f m a = some z := by
  rw [show m = (m - k - 1 + 1) + k by omega, h, iter_r h']
theorem Rch.go {α β : Type} {f : α → Option (α ⊕ β)} {k m : Nat} {a b : α} (h : Rch f k a b) (hk : k ≤ m) : iter f m a = iter f (m - k) b := by
  rw [show m = (m - k) + k by omega, h, show m - k + k - k = m - k by omega]
/-! matching, as a function of what is known -/
/-- names bound, tests, views that were run (the latest first: view, place, number) -/
abbrev XS : Type := (Nat → Int) × Int × List (Int × Int × Int)
/-- what is asked: 3, a place and its kind; 4, a place and a view -/
abbrev Res : Type := (Bool ⊕ (Int × Int × Int)) × XS
/-- what is at a place (-9: unknown), what a view gives, a test -/
abbrev EnvQ : Type := (Int → Int) × (Int → Int → XS → Int × XS) × (XS → XS)
def bindX (x : XS) (v pl : Int) : XS := (fun i => if i = v.toNat then pl else x.1 i, x.2)
def factE (E : EnvQ) (pl : Int) : Int := if pl < 0 then -1 - pl else E.1 pl
def isR (τ : Sg) (p : Nat) (f : Int) : Bool := if τ 8 p = 2 then decide (τ 9 p ≤ f ∧ f ≤ τ 10 p) else if τ 8 p = 3 then decide (f = jrem (τ 9 p) 4) else if τ 10 p = 0 then decide (f = τ 9 p) else decide (τ 9 p ≤ f)
def skipE (τ : Sg) (p : Nat) (f : Int) : Int := if τ 8 p = 6 ∧ τ 10 p = 2 then f - τ 9 p else 0
def part1 (τ : Sg) (p : Nat) (pl f : Int) (k : Nat) : List (Nat × Int) := if prt τ p k = -1 then [] else [((prt τ p k).toNat, 5 * pl + skipE τ p f + k + 1)]
def partsL (τ : Sg) (p : Nat) (pl f : Int) : List (Nat × Int) := part1 τ p pl f 0 ++ (part1 τ p pl f 1 ++ part1 τ p pl f 2)
def seqM (f : Nat → Int → XS → Res) : List (Nat × Int) → XS → Res
  | [], x => (.inl true, x)
  | q :: l, x => if (f q.1 q.2 x).1 = .inl true then seqM f l (f q.1 q.2 x).2 else f q.1 q.2 x
def mtG (τ : Sg) (E : EnvQ) (rec : Nat → Int → XS → Res) (p : Nat) (pl : Int) (x : XS) : Res :=
  if τ 8 p = 0 then (.inl true, x)
  else if τ 8 p = 1 then rec (prt τ p 0).toNat pl (bindX x (τ 9 p) pl)
  else if τ 8 p = 4 then (if (rec (prt τ p 0).toNat pl x).1 = .inl false then rec (prt τ p 1).toNat pl (rec (prt τ p 0).toNat pl x).2 else rec (prt τ p 0).toNat pl x)
  else if τ 8 p = 5 then (if (E.2.1 (τ 9 p) pl x).1 = -9 then (.inr (4, pl, τ 9 p), (E.2.1 (τ 9 p) pl x).2) else rec (prt τ p 0).toNat (-1 - (E.2.1 (τ 9 p) pl x).1) (E.2.1 (τ 9 p) pl x).2)
  else if factE E pl = -9 then (.inr (3, pl, τ 12 p), x)
  else if isR τ p (factE E pl) = true then seqM rec (partsL τ p pl (factE E pl)) (E.2.2 x)
  else (.inl false, E.2.2 x)
def mt (τ : Sg) (E : EnvQ) : Nat → Nat → Int → XS → Res
  | 0 => fun _ _ x => (.inl false, x)
  | n + 1 => mtG τ E (mt τ E n)
/-- the kind of a place, by what is known; -1: no such place -/
def kdG (τ : Sg) (H : Int → Int) (a i k : Int) : Int :=
  if k = 5 then (if i < H a then 4 else -1)
  else if 0 ≤ k ∧ k ≤ 3 then (if 0 ≤ H a ∧ H a < τ 1 k.toNat ∧ i < τ 2 (4 * k + H a).toNat then τ 3 (3 * (4 * k + H a) + i).toNat else -1)
  else -1
def kdF (τ : Sg) (H : Int → Int) : Nat → Int → Int
  | 0, _ => -1
  | n + 1, pl => if pl ≤ 3 then (if 1 ≤ pl ∧ pl ≤ τ 0 21 then τ 19 (pl - 1).toNat else -1) else kdG τ H ((pl - 1) / 5) ((pl - 1) % 5) (kdF τ H n ((pl - 1) / 5))
def kd (τ : Sg) (H : Int → Int) (pl : Int) : Int := kdF τ H (pl.toNat + 1) pl
theorem kdF_fuel {τ : Sg} {H : Int → Int} : ∀ (b n m : Nat) (pl : Int), pl.toNat ≤ b → b < n → b < m → kdF τ H n pl = kdF τ H m pl
  | b, 0, m, pl, _, h, _ => by omega
  | b, n, 0, pl, _, _, h => by omega
  | b, n + 1, m + 1, pl, h1, h2, h3 => by
    unfold kdF
    by_cases c : pl ≤ 3
    · rw [if_pos c, if_pos c]
    · rw [if_neg c, if_neg c, kdF_fuel (b - 1) n m ((pl - 1) / 5) (by omega) (by omega) (by omega)]
theorem kd_col {τ : Sg} {H : Int → Int} {pl : Int} (h : 1 ≤ pl ∧ pl ≤ τ 0 21) (h3 : pl ≤ 3) : kd τ H pl = τ 19 (pl - 1).toNat := by
  unfold kd kdF; rw [if_pos h3, if_pos h]
theorem kd_in {τ : Sg} {H : Int → Int} {pl i : Int} (h : 1 ≤ pl) (hi : 0 ≤ i ∧ i < 5) : kd τ H (5 * pl + i + 1) = kdG τ H pl i (kd τ H pl) := by
  unfold kd
  rw [show (5 * pl + i + 1).toNat + 1 = (5 * pl + i).toNat + 1 + 1 by omega]
  rw [kdF, if_neg (by omega), show (5 * pl + i + 1 - 1) / 5 = pl by omega, show (5 * pl + i + 1 - 1) % 5 = i by omega]
  rw [kdF_fuel pl.toNat ((5 * pl + i).toNat + 1) (pl.toNat + 1) pl (by omega) (by omega) (by omega)]
/-- the highest place for a pattern of a depth -/
def PB (d : Int) : Int := if d ≤ 1 then 468 else if d = 2 then 93 else if d = 3 then 18 else 3
theorem PB_mono {d e : Int} (h : d ≤ e) : PB e ≤ PB d := by
  unfold PB
  repeat' split
  all_goals omega
theorem PB_in {d e pl i : Int} (h : 1 ≤ e ∧ e + 1 ≤ d ∧ d ≤ 4) (hp : pl ≤ PB d) (hi : i ≤ 2) : 5 * pl + i + 1 ≤ PB e := by
  unfold PB at *
  repeat' split at hp
  all_goals (repeat' split)
  all_goals omega
theorem PB_468 {d : Int} : PB d ≤ 468 := by
  unfold PB
  repeat' split
  all_goals omega
theorem WFP.form {τ : Sg} {p : Nat} (h : WFP τ) (hp : (p : Int) < τ 0 9) : 0 ≤ τ 8 p ∧ τ 8 p ≤ 6 := (h.2.2 p hp).1
theorem WFP.pb {τ : Sg} {p k : Nat} (h : WFP τ) (hp : (p : Int) < τ 0 9) (hk : k < 3) : -1 ≤ prt τ p k ∧ prt τ p k < p := (h.2.2 p hp).2.1 k hk
theorem WFP.sz {τ : Sg} {p : Nat} (h : WFP τ) (hp : (p : Int) < τ 0 9) : τ 14 p = 1 + szo τ (prt τ p 0) + szo τ (prt τ p 1) + szo τ (prt τ p 2) ∧ τ 14 p ≤ 40 := ⟨(h.2.2 p hp).2.2.1, (h.2.2 p hp).2.2.2.1⟩
theorem WFP.dp {τ : Sg} {p : Nat} (h : WFP τ) (hp : (p : Int) < τ 0 9) : τ 13 p = max3 (dpo τ (prt τ p 0)) (dpo τ (prt τ p 1)) (dpo τ (prt τ p 2)) + (if τ 8 p = 1 ∨ τ 8 p = 4 ∨ τ 8 p = 5 then 0 else 1) ∧ τ 13 p ≤ 4 := ⟨(h.2.2 p hp).2.2.2.2.1, (h.2.2 p hp).2.2.2.2.2.1⟩
theorem WFP.vb {τ : Sg} {p : Nat} (h : WFP τ) (hp : (p : Int) < τ 0 9) : (τ 16 p = 0 ∨ τ 16 p = 1) ∧ (τ 17 p = 0 ∨ τ 17 p = 1) := ⟨(h.2.2 p hp).2.2.2.2.2.2.2.2.1, (h.2.2 p hp).2.2.2.2.2.2.2.2.2.1⟩
theorem WFP.g0 {τ : Sg} {p : Nat} (h : WFP τ) (hp : (p : Int) < τ 0 9) (c : τ 8 p = 0) : τ 9 p = 0 ∧ τ 10 p = 0 ∧ prt τ p 0 = -1 ∧ prt τ p 1 = -1 ∧ prt τ p 2 = -1 ∧ τ 12 p = -1 ∧ τ 17 p = 1 := (h.2.2 p hp).2.2.2.2.2.2.2.2.2.2.1 c
theorem WFP.g1 {τ : Sg} {p : Nat} (h : WFP τ) (hp : (p : Int) < τ 0 9) (c : τ 8 p = 1) : (0 ≤ τ 9 p ∧ τ 9 p ≤ 5) ∧ 0 ≤ prt τ p 0 ∧ prt τ p 1 = -1 ∧ prt τ p 2 = -1 ∧ τ 12 p = τ 12 (prt τ p 0).toNat ∧ τ 17 p = 0 := by
  obtain ⟨a, b, c, d, e, f, -⟩ := (h.2.2 p hp).2.2.2.2.2.2.2.2.2.2.2.1 c
  exact ⟨a, b, c, d, e, f⟩
theorem WFP.g2 {τ : Sg} {p : Nat} (h : WFP τ) (hp : (p : Int) < τ 0 9) (c : τ 8 p = 2) : (0 ≤ τ 9 p ∧ τ 9 p ≤ τ 10 p ∧ τ 10 p ≤ 9) ∧ prt τ p 0 = -1 ∧ prt τ p 1 = -1 ∧ prt τ p 2 = -1 ∧ τ 12 p = 4 ∧ τ 17 p = 1 := (h.2.2 p hp).2.2.2.2.2.2.2.2.2.2.2.2.1 c
theorem WFP.g3 {τ : Sg} {p : Nat} (h : WFP τ) (hp : (p : Int) < τ 0 9) (c : τ 8 p = 3) : ∃ t c : Nat, t < 4 ∧ (c : Int) < τ 1 t ∧ τ 9 p = 4 * t + c ∧ τ 12 p = t ∧ τ 17 p = 0 ∧ ∀ k : Nat, k < 3 → ((k : Int) < τ 2 (4 * t + c) → fitsK τ (prt τ p k) (τ 3 (3 * (4 * t + c) + k))) ∧ (τ 2 (4 * t + c) ≤ k → prt τ p k = -1) := (h.2.2 p hp).2.2.2.2.2.2.2.2.2.2.2.2.2.1 c
theorem WFP.g4 {τ : Sg} {p : Nat} (h : WFP τ) (hp : (p : Int) < τ 0 9) (c : τ 8 p = 4) : 0 ≤ prt τ p 0 ∧ 0 ≤ prt τ p 1 ∧ prt τ p 2 = -1 ∧ τ 12 p = (if τ 12 (prt τ p 0).toNat = -1 then τ 12 (prt τ p 1).toNat else τ 12 (prt τ p 0).toNat) ∧
    (τ 12 (prt τ p 0).toNat = -1 ∨ τ 12 (prt τ p 1).toNat = -1 ∨ τ 12 (prt τ p 0).toNat = τ 12 (prt τ p 1).toNat) ∧ τ 15 (prt τ p 0).toNat = τ 15 (prt τ p 1).toNat ∧
    (τ 17 p = 1 ↔ τ 17 (prt τ p 0).toNat = 1 ∧ τ 17 (prt τ p 1).toNat = 1) := (h.2.2 p hp).2.2.2.2.2.2.2.2.2.2.2.2.2.2.1 c
theorem WFP.g5 {τ : Sg} {p : Nat} (h : WFP τ) (hp : (p : Int) < τ 0 9) (c : τ 8 p = 5) : (0 ≤ τ 9 p ∧ τ 9 p ≤ 2) ∧ 0 ≤ prt τ p 0 ∧ prt τ p 1 = -1 ∧ prt τ p 2 = -1 ∧ τ 12 p = -1 ∧ τ 17 p = 0 ∧ τ 17 (prt τ p 0).toNat = 1 := (h.2.2 p hp).2.2.2.2.2.2.2.2.2.2.2.2.2.2.2.1 c
theorem WFP.g6 {τ : Sg} {p : Nat} (h : WFP τ) (hp : (p : Int) < τ 0 9) (c : τ 8 p = 6) : (0 ≤ τ 9 p ∧ τ 9 p ≤ 2) ∧ (0 ≤ τ 10 p ∧ τ 10 p ≤ 2) ∧ τ 12 p = 5 ∧ τ 17 p = 0 ∧ prt τ p 2 = -1 ∧ ∀ k : Nat, k < 2 → ((k : Int) < τ 9 p → fitsK τ (prt τ p k) 4) ∧ (τ 9 p ≤ k → prt τ p k = -1) := (h.2.2 p hp).2.2.2.2.2.2.2.2.2.2.2.2.2.2.2.2 c
theorem dp_pos {τ : Sg} (hW : WFP τ) : ∀ p : Nat, (p : Int) < τ 0 9 → 1 ≤ τ 13 p := by
  intro p
  induction p using Nat.strongRecOn with
  | _ p ih =>
    intro hp
    have b0 := hW.pb hp (k := 0) (by omega)
    have w5 := (hW.dp hp).1
    have g : 0 ≤ prt τ p 0 → 1 ≤ dpo τ (prt τ p 0) := fun h => by
      unfold dpo
      rw [if_neg (by omega)]
      exact ih (prt τ p 0).toNat (by omega) (by omega)
    have nn : ∀ k : Nat, k < 3 → 0 ≤ dpo τ (prt τ p k) := fun k hk => by
      have bk := hW.pb hp hk
      unfold dpo
      split
      · omega
      · have := ih (prt τ p k).toNat (by omega) (by omega); omega
    have n0 := nn 0 (by omega)
    have n1 := nn 1 (by omega)
    have n2 := nn 2 (by omega)
    unfold max3 at w5
    by_cases c : τ 8 p = 1 ∨ τ 8 p = 4 ∨ τ 8 p = 5
    · rw [if_pos c] at w5
      have : 0 ≤ prt τ p 0 := by
        rcases c with c | c | c
        · exact (hW.g1 hp c).2.1
        · exact (hW.g4 hp c).1
        · exact (hW.g5 hp c).2.1
      have := g this
      omega
    · rw [if_neg c] at w5
      omega
theorem dp_part {τ : Sg} {p k : Nat} (hW : WFP τ) (hp : (p : Int) < τ 0 9) (hk : k < 3) (he : ¬ prt τ p k = -1) : τ 13 (prt τ p k).toNat + (if τ 8 p = 1 ∨ τ 8 p = 4 ∨ τ 8 p = 5 then 0 else 1) ≤ τ 13 p := by
  have w5 := (hW.dp hp).1
  have bk := hW.pb hp hk
  have h : dpo τ (prt τ p k) = τ 13 (prt τ p k).toNat := by unfold dpo; rw [if_neg (by omega)]
  rw [← h]
  unfold max3 at w5
  have : k = 0 ∨ k = 1 ∨ k = 2 := by omega
  rcases this with rfl | rfl | rfl <;> split at w5 <;> split <;> omega
/-- a pattern and a place for it -/
def okP (τ : Sg) (H : Int → Int) (p : Nat) (pl : Int) : Prop := (p : Int) < τ 0 9 ∧ ((τ 17 p = 1 ∧ -10 ≤ pl ∧ pl ≤ -1) ∨ (1 ≤ pl ∧ pl ≤ PB (τ 13 p) ∧ 0 ≤ kd τ H pl ∧ (τ 12 p = -1 ∨ τ 12 p = kd τ H pl)))
/-- heads are in range -/
def HOK (τ : Sg) (H : Int → Int) : Prop := ∀ pl, 1 ≤ pl → pl ≤ 468 → 0 ≤ kd τ H pl → ¬ H pl = -9 → 0 ≤ H pl ∧ H pl ≤ 9 ∧ (kd τ H pl = 5 → H pl ≤ 3) ∧ (kd τ H pl ≤ 3 → H pl < τ 1 (kd τ H pl).toNat)
