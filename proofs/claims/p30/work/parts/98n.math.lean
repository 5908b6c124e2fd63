/-! what is known at a node of a tree -/
abbrev Ask : Type := Int × Int × Int
/-- the way from the root, the latest first: what was asked, and the branch -/
abbrev Pth : Type := List (Ask × Nat)
def hk : Pth → Int → Int
  | [], _ => -9
  | q :: P, pl => if q.1.1 = 3 ∧ q.1.2.1 = pl then (q.2 : Int) else hk P pl
def vk : Pth → Int → Int → Int
  | [], _, _ => -9
  | q :: P, v, pl => if q.1.1 = 4 ∧ q.1.2.1 = pl ∧ q.1.2.2 = v then (q.2 : Int) else vk P v pl
def fk : Pth → Nat → Bool
  | [], _ => false
  | q :: P, c => decide (q.1.1 = 5 ∧ q.1.2.1 = (c : Int) ∧ 0 < q.2) || fk P c
def envK (P : Pth) : EnvQ := (hk P, fun v pl x => (vk P v pl, x), fun x => x)
theorem envB_K {P : Pth} : EnvB (envK P) := ⟨fun _ _ _ => rfl, fun _ => rfl⟩
/-- a matching that neither looks at tests and views that were run, nor changes them -/
def KpR (g : XS → Res) : Prop := ∀ x y : XS, x.1 = y.1 → (g x).1 = (g y).1 ∧ (g x).2.1 = (g y).2.1 ∧ (g x).2.2 = x.2
theorem seqK {f : Nat → Int → XS → Res} : ∀ {L : List (Nat × Int)}, (∀ q ∈ L, KpR (f q.1 q.2)) → KpR (seqM f L)
  | [], _ => fun x y h => ⟨rfl, h, rfl⟩
  | q :: L, hf => fun x y h => by
    obtain ⟨h1, h2, h3⟩ := hf q List.mem_cons_self x y h
    have ih := seqK (L := L) (fun z hz => hf z (List.mem_cons_of_mem _ hz))
    unfold seqM
    rw [h1]
    by_cases c : (f q.1 q.2 y).1 = .inl true
    · rw [if_pos c, if_pos c]
      obtain ⟨i1, i2, i3⟩ := ih (f q.1 q.2 x).2 (f q.1 q.2 y).2 h2
      exact ⟨i1, i2, by rw [i3, h3]⟩
    · rw [if_neg c, if_neg c]
      exact ⟨h1, h2, h3⟩
theorem mtK {τ : Sg} {P : Pth} : ∀ (n p : Nat) (pl : Int), KpR (mt τ (envK P) n p pl)
  | 0, p, pl => fun x y h => ⟨rfl, h, rfl⟩
  | n + 1, p, pl => fun x y h => by
    show (mtG τ (envK P) (mt τ (envK P) n) p pl x).1 = (mtG τ (envK P) (mt τ (envK P) n) p pl y).1 ∧ (mtG τ (envK P) (mt τ (envK P) n) p pl x).2.1 = (mtG τ (envK P) (mt τ (envK P) n) p pl y).2.1 ∧ (mtG τ (envK P) (mt τ (envK P) n) p pl x).2.2 = x.2
    have ih := fun p pl => mtK (τ := τ) (P := P) n p pl
    unfold mtG
    by_cases c0 : τ 8 p = 0
    · rw [if_pos c0, if_pos c0]; exact ⟨rfl, h, rfl⟩
    rw [if_neg c0, if_neg c0]
    by_cases c1 : τ 8 p = 1
    · rw [if_pos c1, if_pos c1]
      obtain ⟨a, b, c⟩ := ih (prt τ p 0).toNat pl (bindX x (τ 9 p) pl) (bindX y (τ 9 p) pl) (by unfold bindX; rw [h])
      exact ⟨a, b, c⟩
    rw [if_neg c1, if_neg c1]
    by_cases c4 : τ 8 p = 4
    · rw [if_pos c4, if_pos c4]
      obtain ⟨a, b, c⟩ := ih (prt τ p 0).toNat pl x y h
      rw [a]
      by_cases q : (mt τ (envK P) n (prt τ p 0).toNat pl y).1 = .inl false
      · rw [if_pos q, if_pos q]
        obtain ⟨a', b', c'⟩ := ih (prt τ p 1).toNat pl (mt τ (envK P) n (prt τ p 0).toNat pl x).2 (mt τ (envK P) n (prt τ p 0).toNat pl y).2 b
        exact ⟨a', b', by rw [c', c]⟩
      · rw [if_neg q, if_neg q]; exact ⟨a, b, c⟩
    rw [if_neg c4, if_neg c4]
    by_cases c5 : τ 8 p = 5
    · rw [if_pos c5, if_pos c5]
      show (if vk P (τ 9 p) pl = -9 then ((.inr (4, pl, τ 9 p), x) : Res) else mt τ (envK P) n (prt τ p 0).toNat (-1 - vk P (τ 9 p) pl) x).1 = (if vk P (τ 9 p) pl = -9 then ((.inr (4, pl, τ 9 p), y) : Res) else mt τ (envK P) n (prt τ p 0).toNat (-1 - vk P (τ 9 p) pl) y).1 ∧ (if vk P (τ 9 p) pl = -9 then ((.inr (4, pl, τ 9 p), x) : Res) else mt τ (envK P) n (prt τ p 0).toNat (-1 - vk P (τ 9 p) pl) x).2.1 = (if vk P (τ 9 p) pl = -9 then ((.inr (4, pl, τ 9 p), y) : Res) else mt τ (envK P) n (prt τ p 0).toNat (-1 - vk P (τ 9 p) pl) y).2.1 ∧ (if vk P (τ 9 p) pl = -9 then ((.inr (4, pl, τ 9 p), x) : Res) else mt τ (envK P) n (prt τ p 0).toNat (-1 - vk P (τ 9 p) pl) x).2.2 = x.2
      by_cases q : vk P (τ 9 p) pl = -9
      · rw [if_pos q, if_pos q]; exact ⟨rfl, h, rfl⟩
      · rw [if_neg q, if_neg q]; exact ih _ _ x y h
    rw [if_neg c5, if_neg c5]
    by_cases c9 : factE (envK P) pl = -9
    · rw [if_pos c9, if_pos c9]; exact ⟨rfl, h, rfl⟩
    rw [if_neg c9, if_neg c9]
    by_cases cr : isR τ p (factE (envK P) pl) = true
    · rw [if_pos cr, if_pos cr]
      exact seqK (fun q _ => ih q.1 q.2) x y h
    · rw [if_neg cr, if_neg cr]; exact ⟨rfl, h, rfl⟩
/-- nothing bound, no tests, no views run -/
def x00 : XS := ((fun _ => -1), 0, [])
/-- the patterns of a case against what is known -/
def tryK (τ : Sg) (P : Pth) (c : Nat) : Res := tryS τ (envK P) c x00
theorem tryK_x {τ : Sg} {P : Pth} {c : Nat} {x : XS} : (tryS τ (envK P) c x).1 = (tryK τ P c).1 ∧ (tryS τ (envK P) c x).2.1 = (tryK τ P c).2.1 ∧ (tryS τ (envK P) c x).2.2 = x.2 := by
  have := seqK (f := mt τ (envK P) 60) (L := colsL τ c) (fun q _ => mtK 60 q.1 q.2) (clrX x) (clrX x00) rfl
  exact this
/-! what is asked -/
def VOK (P : Pth) : Prop := ∀ v pl, vk P v pl = -9 ∨ (0 ≤ vk P v pl ∧ vk P v pl ≤ 9)
def AskOK (τ : Sg) (P : Pth) (a : Ask) : Prop :=
  (a.1 = 3 ∧ (1 ≤ a.2.1 ∧ a.2.1 ≤ 468) ∧ 0 ≤ kd τ (hk P) a.2.1 ∧ hk P a.2.1 = -9 ∧ a.2.2 = kd τ (hk P) a.2.1) ∨
  (a.1 = 4 ∧ (1 ≤ a.2.1 ∧ a.2.1 ≤ 468) ∧ 0 ≤ kd τ (hk P) a.2.1 ∧ (0 ≤ a.2.2 ∧ a.2.2 ≤ 2) ∧ vk P a.2.2 a.2.1 = -9)
theorem seq_ask {τ : Sg} {P : Pth} {f : Nat → Int → XS → Res} {a : Ask} : ∀ {L : List (Nat × Int)} {x : XS}, (∀ q ∈ L, ∀ x, (f q.1 q.2 x).1 = .inr a → AskOK τ P a) → (seqM f L x).1 = .inr a → AskOK τ P a
  | [], x, _, h => by cases h
  | q :: L, x, hf, h => by
    unfold seqM at h
    split at h
    · exact seq_ask (fun z hz => hf z (List.mem_cons_of_mem _ hz)) h
    · exact hf q List.mem_cons_self x h
set_option maxHeartbeats 4000000 in
theorem mt_ask {τ : Sg} {P : Pth} {a : Ask} (hW : WFP τ) (hF : WFK (τ 1) (τ 2) (τ 3)) (hH : HOK τ (hk P)) (hV : VOK P) : ∀ (n p : Nat) (pl : Int) (x : XS), okP τ (hk P) p pl → τ 14 p ≤ n → (mt τ (envK P) n p pl x).1 = .inr a → AskOK τ P a
  | 0, p, pl, x, ho, hn, h => by have := hW.ge ho.1; omega
  | n + 1, p, pl, x, ho, hn, h => by
    have hp := ho.1
    have hform := hW.form hp
    change (mtG τ (envK P) (mt τ (envK P) n) p pl x).1 = .inr a at h
    have sz : ∀ k : Nat, k < 3 → ¬ prt τ p k = -1 → τ 14 (prt τ p k).toNat ≤ n := fun k k3 kn => by
      have := (sz_part hW hp k3 kn).2.2; omega
    unfold mtG at h
    by_cases c0 : τ 8 p = 0
    · rw [if_pos c0] at h; cases h
    rw [if_neg c0] at h
    by_cases c1 : τ 8 p = 1
    · rw [if_pos c1] at h
      exact mt_ask hW hF hH hV n _ _ _ (ho.name hW c1) (sz 0 (by omega) (by have := (hW.g1 hp c1).2.1; omega)) h
    rw [if_neg c1] at h
    by_cases c4 : τ 8 p = 4
    · rw [if_pos c4] at h
      have g := hW.g4 hp c4
      have g0 := g.1
      have g1 := g.2.1
      clear g
      split at h
      · exact mt_ask hW hF hH hV n _ _ _ (ho.alt hW c4 (k := 1) (by omega)) (sz 1 (by omega) (by omega)) h
      · exact mt_ask hW hF hH hV n _ _ _ (ho.alt hW c4 (k := 0) (by omega)) (sz 0 (by omega) (by omega)) h
    rw [if_neg c4] at h
    by_cases c5 : τ 8 p = 5
    · rw [if_pos c5] at h
      obtain ⟨g1, g2, g3, g4, g5, g6, g7⟩ := hW.g5 hp c5
      have hop := ho.pl (by omega)
      by_cases q : (envK P).2.1 (τ 9 p) pl x = (-9, x)
      · rw [q, if_pos rfl] at h
        cases h
        have hv : vk P (τ 9 p) pl = -9 := congrArg Prod.fst q
        exact Or.inr ⟨rfl, ⟨hop.1, hop.2.1⟩, hop.2.2.1, g1, hv⟩
      · have hv : ¬ vk P (τ 9 p) pl = -9 := fun z => q (by show (vk P (τ 9 p) pl, x) = _; rw [z])
        have hne : ¬ ((envK P).2.1 (τ 9 p) pl x).1 = -9 := hv
        rw [if_neg hne] at h
        have hb : 0 ≤ ((envK P).2.1 (τ 9 p) pl x).1 ∧ ((envK P).2.1 (τ 9 p) pl x).1 ≤ 9 := by
          rcases hV (τ 9 p) pl with z | z
          · exact absurd z hv
          · exact z
        exact mt_ask hW hF hH hV n _ _ _ (ho.view hW c5 hb) (sz 0 (by omega) (by omega)) h
    rw [if_neg c5] at h
    have hnb : τ 8 p = 2 ∨ ¬ τ 17 p = 1 := by
      have h36 : τ 8 p = 2 ∨ τ 8 p = 3 ∨ τ 8 p = 6 := by omega
      rcases h36 with z | z | z
      · exact Or.inl z
      · exact Or.inr (by obtain ⟨_, _, _, _, _, _, z2, _⟩ := hW.g3 hp z; omega)
      · exact Or.inr (by have := (hW.g6 hp z).2.2.2.1; omega)
    by_cases c9 : factE (envK P) pl = -9
    · rw [if_pos c9] at h
      cases h
      have hpl : 1 ≤ pl ∧ pl ≤ PB (τ 13 p) ∧ 0 ≤ kd τ (hk P) pl ∧ (τ 12 p = -1 ∨ τ 12 p = kd τ (hk P) pl) := by
        rcases ho.2 with g | g
        · unfold factE at c9; rw [if_pos (by omega)] at c9; omega
        · exact g
      have h468 := PB_468 (d := τ 13 p)
      have hf : hk P pl = -9 := by
        unfold factE at c9
        rw [if_neg (by omega)] at c9
        exact c9
      have hk12 : ¬ τ 12 p = -1 := by
        have h36 : τ 8 p = 2 ∨ τ 8 p = 3 ∨ τ 8 p = 6 := by omega
        rcases h36 with z | z | z
        · have := (hW.g2 hp z).2.2.2.2.1; omega
        · obtain ⟨_, _, _, _, _, z2, _⟩ := hW.g3 hp z; omega
        · have := (hW.g6 hp z).2.2.1; omega
      refine Or.inl ⟨rfl, ⟨hpl.1, by show pl ≤ 468; omega⟩, hpl.2.2.1, hf, ?_⟩
      rcases hpl.2.2.2 with z | z
      · exact absurd z hk12
      · exact z
    rw [if_neg c9] at h
    split at h
    · rename_i cr
      by_cases c2 : τ 8 p = 2
      · obtain ⟨-, g0, g1, g2, -⟩ := hW.g2 hp c2
        have hL : partsL τ p pl (factE (envK P) pl) = [] := by unfold partsL part1; rw [if_pos g0, if_pos g1, if_pos g2]; rfl
        rw [hL] at h; cases h
      · have hop := ho.pl (by rcases hnb with z | z; exact absurd z c2; exact z)
        have hfe : factE (envK P) pl = hk P pl := by unfold factE; rw [if_neg (by omega)]; rfl
        rw [hfe] at c9 cr h
        refine seq_ask (fun q hq x hx => ?_) h
        have z := parts_lt hW hp hq
        exact mt_ask hW hF hH hV n q.1 q.2 x (ho.parts hW hF hH c0 c1 c4 c5 hop.1 c9 cr q hq) (by omega) hx
    · cases h
theorem try_ask {τ : Sg} {P : Pth} {c : Nat} {a : Ask} (hW : WFP τ) (hF : WFK (τ 1) (τ 2) (τ 3)) (hM : WFM τ) (hH : HOK τ (hk P)) (hV : VOK P) (hc : (c : Int) < τ 0 23) (h : (tryK τ P c).1 = .inr a) : AskOK τ P a := by
  refine seq_ask (fun q hq x hx => ?_) h
  have hok := cols_ok (H := hk P) hM hc q hq
  have := hW.ge hok.1
  exact mt_ask hW hF hH hV 60 q.1 q.2 x hok (by omega) hx
