/-! what the trees ask -/
def ndG (τ : Sg) (P : Pth) (rec : Nat → Int → List Int) (p : Nat) (pl : Int) : List Int :=
  if τ 8 p = 0 ∨ τ 8 p = 5 then []
  else if τ 8 p = 1 then rec (prt τ p 0).toNat pl
  else if τ 8 p = 4 then rec (prt τ p 0).toNat pl ++ rec (prt τ p 1).toNat pl
  else if hk P pl = -9 then [pl]
  else if isR τ p (hk P pl) = true then (partsL τ p pl (hk P pl)).flatMap (fun q => rec q.1 q.2)
  else []
/-- the places that a pattern needs -/
def nd (τ : Sg) (P : Pth) : Nat → Nat → Int → List Int
  | 0 => fun _ _ => []
  | n + 1 => ndG τ P (nd τ P n)
def ndC (τ : Sg) (P : Pth) (c : Nat) : List Int := (colsL τ c).flatMap (fun q => nd τ P 60 q.1 q.2)
/-- whether a case counts -/
def cted (τ : Sg) (P : Pth) (c : Nat) : Bool := !fk P c && !decide ((tryK τ P c).1 = .inl false)
def cnt (τ : Sg) (P : Pth) (x : Int) : Nat := ((List.range (τ 0 23).toNat).filter (fun c => cted τ P c && decide (x ∈ ndC τ P c))).length
def BestP (τ : Sg) (P : Pth) (x : Int) : Prop := 0 < cnt τ P x ∧ ∀ y, 0 < cnt τ P y → cnt τ P y < cnt τ P x ∨ (cnt τ P y = cnt τ P x ∧ x ≤ y)
noncomputable def best (τ : Sg) (P : Pth) : Int := Classical.epsilon (BestP τ P)
theorem best_eq {τ : Sg} {P : Pth} {x : Int} (h : BestP τ P x) : best τ P = x := by
  have hb : BestP τ P (best τ P) := Classical.epsilon_spec ⟨x, h⟩
  have h1 := h.2 _ hb.1
  have h2 := hb.2 _ h.1
  omega
def seekS (τ : Sg) (P : Pth) : Nat → Nat → Ask
  | 0, _ => (2, 0, 0)
  | d + 1, c => if fk P c = true then seekS τ P d (c + 1) else match (tryK τ P c).1 with
    | .inl true => if τ 22 c = -1 then (0, (c : Int), 0) else (5, (c : Int), 0)
    | .inl false => seekS τ P d (c + 1)
    | .inr a => a
noncomputable def seekM (τ : Sg) (m : Bool) (P : Pth) : Ask := if m = true ∧ (seekS τ P (τ 0 23).toNat 0).1 = 3 then (3, best τ P, kd τ (hk P) (best τ P)) else seekS τ P (τ 0 23).toNat 0
noncomputable def qry (τ : Sg) (m : Bool) : Pth → Ask
  | [] => seekM τ m []
  | q :: P => if q.1.1 = 5 ∧ q.2 = 0 then (0, q.1.2.1, 0) else if q.1.1 = 5 ∧ τ 22 q.1.2.1.toNat = 3 then (1, q.1.2.1, 0) else seekM τ m (q :: P)
def hds (τ : Sg) (k : Int) : Int := if k = 4 then 10 else if k = 5 then 4 else τ 1 k.toNat
def wid (τ : Sg) (a : Ask) : Nat := (if a.1 = 3 then hds τ a.2.2 else if a.1 = 4 then τ 18 (4 * a.2.2 + 3).toNat else if a.1 = 5 then 2 else 0).toNat
/-- a way in the tree -/
def AP (τ : Sg) (m : Bool) : Pth → Prop
  | [] => True
  | q :: P => AP τ m P ∧ q.1 = qry τ m P ∧ q.2 < wid τ q.1
/-- what is known, well put together -/
def KP (τ : Sg) : Pth → Prop
  | [] => True
  | q :: P => KP τ P ∧ q.2 < wid τ q.1 ∧ (AskOK τ P q.1 ∨ (q.1.1 = 5 ∧ (0 ≤ q.1.2.1 ∧ q.1.2.1 < τ 0 23) ∧ fk P q.1.2.1.toNat = false ∧ ¬ τ 22 q.1.2.1.toNat = -1))
theorem kd_ext {τ : Sg} {H H' : Int → Int} (h : ∀ a, ¬ H a = -9 → H' a = H a) : ∀ (b : Nat) (pl : Int), pl.toNat ≤ b → 0 ≤ kd τ H pl → kd τ H' pl = kd τ H pl := by
  intro b
  induction b with
  | zero =>
    intro pl h1 hk
    have h3 : pl ≤ 3 := by omega
    unfold kd kdF
    rw [if_pos h3, if_pos h3]
  | succ b ih =>
    intro pl h1 hk
    by_cases g : pl ≤ 3
    · unfold kd kdF
      rw [if_pos g, if_pos g]
    · obtain ⟨a, i, ha, hi, e, hka⟩ := kd_par g hk
      have iha := ih a (by omega) hka
      rw [e] at hk ⊢
      rw [kd_in ha hi] at hk ⊢
      rw [kd_in ha hi, iha]
      have hne : ¬ H a = -9 := by
        intro z
        unfold kdG at hk
        split at hk
        · split at hk <;> omega
        · split at hk
          · split at hk <;> omega
          · omega
      unfold kdG
      rw [h a hne]
theorem hk_cons {q : Ask × Nat} {P : Pth} (h : q.1.1 = 3 → hk P q.1.2.1 = -9) : ∀ a, ¬ hk P a = -9 → hk (q :: P) a = hk P a := by
  intro a ha
  show (if q.1.1 = 3 ∧ q.1.2.1 = a then (q.2 : Int) else hk P a) = hk P a
  rw [if_neg]
  rintro ⟨z1, z2⟩
  exact ha (by rw [← z2]; exact h z1)
theorem KP.unk {τ : Sg} {q : Ask × Nat} {P : Pth} (h : KP τ (q :: P)) : q.1.1 = 3 → hk P q.1.2.1 = -9 := by
  intro z
  rcases h.2.2 with (g | g) | g
  · exact g.2.2.2.1
  · omega
  · omega
theorem KP.kdE {τ : Sg} {q : Ask × Nat} {P : Pth} (h : KP τ (q :: P)) {pl : Int} (hk0 : 0 ≤ kd τ (hk P) pl) : kd τ (hk (q :: P)) pl = kd τ (hk P) pl := kd_ext (hk_cons h.unk) pl.toNat pl (Nat.le_refl _) hk0
/-- what is known of a place is in range -/
theorem KP.ent {τ : Sg} (hF : WFK (τ 1) (τ 2) (τ 3)) (hM : WFM τ) : ∀ {P : Pth}, KP τ P → ∀ pl, ¬ hk P pl = -9 → (1 ≤ pl ∧ pl ≤ 468) ∧ 0 ≤ kd τ (hk P) pl ∧ 0 ≤ hk P pl ∧ hk P pl ≤ 9 ∧ (kd τ (hk P) pl = 5 → hk P pl ≤ 3) ∧ (kd τ (hk P) pl ≤ 3 → hk P pl < τ 1 (kd τ (hk P) pl).toNat)
  | [], _, pl, h => absurd rfl h
  | q :: P, hK, pl, h => by
    by_cases c : q.1.1 = 3 ∧ q.1.2.1 = pl
    · have e : hk (q :: P) pl = q.2 := by
        show (if q.1.1 = 3 ∧ q.1.2.1 = pl then (q.2 : Int) else hk P pl) = _
        rw [if_pos c]
      rcases hK.2.2 with (g | g) | g
      · obtain ⟨g1, g2, g3, g4, g5⟩ := g
        rw [c.2] at g2 g3 g5
        have hkd := hK.kdE g3
        have hw := hK.2.1
        unfold wid hds at hw
        rw [if_pos g1, g5] at hw
        rw [hkd, e]
        have hk5 : kd τ (hk P) pl ≤ 5 := by
          -- a kind is at most 5
          have key : ∀ (H : Int → Int) (b : Nat) (pl : Int), pl.toNat ≤ b → kd τ H pl ≤ 5 := by
            intro H b
            induction b with
            | zero =>
              intro pl h1
              unfold kd kdF
              rw [if_pos (by omega)]
              split
              · have := hM.2.2.1 (pl - 1).toNat (by omega); omega
              · omega
            | succ b ih =>
              intro pl h1
              by_cases z : 0 ≤ kd τ H pl
              · by_cases g : pl ≤ 3
                · unfold kd kdF
                  rw [if_pos g]
                  split
                  · have := hM.2.2.1 (pl - 1).toNat (by omega); omega
                  · omega
                · obtain ⟨a, i, ha, hi, e, hka⟩ := kd_par g z
                  rw [e, kd_in ha hi]
                  unfold kdG
                  split
                  · split <;> omega
                  · split
                    · rename_i c3
                      split
                      · rename_i cc
                        obtain ⟨z1, z2, z3⟩ := hF.2 (kd τ H a).toNat (H a).toNat (by omega) (by omega)
                        have := z3 i.toNat (by rw [show 4 * (kd τ H a).toNat + (H a).toNat = (4 * kd τ H a + H a).toNat by omega]; omega)
                        rw [show (3 * (4 * kd τ H a + H a) + i).toNat = 3 * (4 * (kd τ H a).toNat + (H a).toNat) + i.toNat by omega]
                        omega
                      · omega
                    · omega
              · omega
          exact key (hk P) pl.toNat pl (Nat.le_refl _)
        generalize kd τ (hk P) pl = k at *
        by_cases k4 : k = 4
        · rw [if_pos k4] at hw
          exact ⟨g2, g3, by omega, by omega, fun z => by omega, fun z => by omega⟩
        · rw [if_neg k4] at hw
          by_cases k5 : k = 5
          · rw [if_pos k5] at hw
            exact ⟨g2, g3, by omega, by omega, fun z => by omega, fun z => by omega⟩
          · rw [if_neg k5] at hw
            have hf4 := (hF.1 k.toNat (by omega)).2
            exact ⟨g2, g3, by omega, by omega, fun z => by omega, fun z => by omega⟩
      · omega
      · omega
    · have e : hk (q :: P) pl = hk P pl := by
        show (if q.1.1 = 3 ∧ q.1.2.1 = pl then (q.2 : Int) else hk P pl) = _
        rw [if_neg c]
      rw [e] at h ⊢
      have ih := KP.ent hF hM hK.1 pl h
      rw [hK.kdE ih.2.1]
      exact ih
theorem KP.hok {τ : Sg} {P : Pth} (hF : WFK (τ 1) (τ 2) (τ 3)) (hM : WFM τ) (h : KP τ P) : HOK τ (hk P) := fun pl _ _ _ h4 => by
  obtain ⟨-, -, a, b, c, d⟩ := h.ent hF hM pl h4
  exact ⟨a, b, c, d⟩
theorem KP.vok {τ : Sg} (hW : WFW τ) : ∀ {P : Pth}, KP τ P → VOK P
  | [], _ => fun v pl => Or.inl rfl
  | q :: P, hK => fun v pl => by
    have ih := KP.vok hW hK.1 v pl
    by_cases c : q.1.1 = 4 ∧ q.1.2.1 = pl ∧ q.1.2.2 = v
    · have e : vk (q :: P) v pl = q.2 := by
        show (if q.1.1 = 4 ∧ q.1.2.1 = pl ∧ q.1.2.2 = v then (q.2 : Int) else vk P v pl) = _
        rw [if_pos c]
      rw [e]
      rcases hK.2.2 with (g | g) | g
      · omega
      · have hw := hK.2.1
        unfold wid at hw
        rw [if_neg (by omega), if_pos g.1] at hw
        have := hW q.1.2.2.toNat (by omega)
        rw [show (4 * q.1.2.2 + 3).toNat = 4 * q.1.2.2.toNat + 3 by omega] at hw
        exact Or.inr ⟨by omega, by omega⟩
      · omega
    · have e : vk (q :: P) v pl = vk P v pl := by
        show (if q.1.1 = 4 ∧ q.1.2.1 = pl ∧ q.1.2.2 = v then (q.2 : Int) else vk P v pl) = _
        rw [if_neg c]
      rw [e]; exact ih
/-! the places that are needed -/
theorem nd_ok {τ : Sg} {P : Pth} (hW : WFP τ) (hF : WFK (τ 1) (τ 2) (τ 3)) (hH : HOK τ (hk P)) : ∀ (n p : Nat) (pl : Int), okP τ (hk P) p pl → τ 14 p ≤ n → 1 ≤ pl → ∀ x ∈ nd τ P n p pl, (1 ≤ x ∧ x ≤ 468) ∧ 0 ≤ kd τ (hk P) x ∧ hk P x = -9
  | 0, p, pl, ho, hn, hpl => by have := hW.ge ho.1; omega
  | n + 1, p, pl, ho, hn, hpl => by
    intro x hx
    have hp := ho.1
    change x ∈ ndG τ P (nd τ P n) p pl at hx
    have sz : ∀ k : Nat, k < 3 → ¬ prt τ p k = -1 → τ 14 (prt τ p k).toNat ≤ n := fun k k3 kn => by
      have := (sz_part hW hp k3 kn).2.2; omega
    unfold ndG at hx
    by_cases c05 : τ 8 p = 0 ∨ τ 8 p = 5
    · rw [if_pos c05] at hx; cases hx
    rw [if_neg c05] at hx
    by_cases c1 : τ 8 p = 1
    · rw [if_pos c1] at hx
      exact nd_ok hW hF hH n _ _ (ho.name hW c1) (sz 0 (by omega) (by have := (hW.g1 hp c1).2.1; omega)) hpl x hx
    rw [if_neg c1] at hx
    by_cases c4 : τ 8 p = 4
    · rw [if_pos c4] at hx
      have g := hW.g4 hp c4
      have g0 := g.1
      have g1 := g.2.1
      clear g
      rcases List.mem_append.mp hx with z | z
      · exact nd_ok hW hF hH n _ _ (ho.alt hW c4 (k := 0) (by omega)) (sz 0 (by omega) (by omega)) hpl x z
      · exact nd_ok hW hF hH n _ _ (ho.alt hW c4 (k := 1) (by omega)) (sz 1 (by omega) (by omega)) hpl x z
    rw [if_neg c4] at hx
    have hg : 1 ≤ pl ∧ pl ≤ PB (τ 13 p) ∧ 0 ≤ kd τ (hk P) pl ∧ (τ 12 p = -1 ∨ τ 12 p = kd τ (hk P) pl) := by
      rcases ho.2 with g | g
      · omega
      · exact g
    have h468 := PB_468 (d := τ 13 p)
    by_cases c9 : hk P pl = -9
    · rw [if_pos c9] at hx
      simp only [List.mem_cons, List.not_mem_nil, or_false] at hx
      rw [hx]
      exact ⟨⟨hpl, by omega⟩, hg.2.2.1, c9⟩
    rw [if_neg c9] at hx
    split at hx
    · rename_i cr
      obtain ⟨q, hq, hqx⟩ := List.mem_flatMap.mp hx
      have z := parts_lt hW hp hq
      have hok := ho.parts hW hF hH (by omega) c1 c4 (by omega) hpl c9 cr q hq
      obtain ⟨k, k3, kn, q1, q2⟩ := partsL_mem hq
      have hq2 : 1 ≤ q.2 := by
        rcases hok.2 with g | g
        · have h36 : τ 8 p = 6 → hk P pl ≤ 3 := fun q => (hH pl hpl (by omega) hg.2.2.1 c9).2.2.1 (by
            have := (hW.g6 hp q).2.2.1
            omega)
          have := skip_b hW hp h36 cr k3 kn
          omega
        · exact g.1
      exact nd_ok hW hF hH n q.1 q.2 hok (by omega) hq2 x hqx
    · cases hx
theorem seq_nd {τ : Sg} {P : Pth} {f : Nat → Int → XS → Res} {g : Nat → Int → List Int} {pl k : Int} : ∀ {L : List (Nat × Int)} {x : XS}, (∀ q ∈ L, ∀ x, (f q.1 q.2 x).1 = .inr (3, pl, k) → pl ∈ g q.1 q.2) → (seqM f L x).1 = .inr (3, pl, k) → pl ∈ L.flatMap (fun q => g q.1 q.2)
  | [], x, _, h => by cases h
  | q :: L, x, hf, h => by
    unfold seqM at h
    rw [List.flatMap_cons, List.mem_append]
    split at h
    · exact Or.inr (seq_nd (P := P) (τ := τ) (fun z hz => hf z (List.mem_cons_of_mem _ hz)) h)
    · exact Or.inl (hf q List.mem_cons_self x h)
/-- what the plain order asks is needed -/
theorem mt_nd {τ : Sg} {P : Pth} {pl k : Int} (hW : WFP τ) (hF : WFK (τ 1) (τ 2) (τ 3)) (hH : HOK τ (hk P)) (hV : VOK P) : ∀ (n p : Nat) (q : Int) (x : XS), okP τ (hk P) p q → τ 14 p ≤ n → (mt τ (envK P) n p q x).1 = .inr (3, pl, k) → pl ∈ nd τ P n p q
  | 0, p, q, x, ho, hn, h => by have := hW.ge ho.1; omega
  | n + 1, p, q, x, ho, hn, h => by
    have hp := ho.1
    have hform := hW.form hp
    change (mtG τ (envK P) (mt τ (envK P) n) p q x).1 = .inr (3, pl, k) at h
    show pl ∈ ndG τ P (nd τ P n) p q
    have sz : ∀ k : Nat, k < 3 → ¬ prt τ p k = -1 → τ 14 (prt τ p k).toNat ≤ n := fun k k3 kn => by
      have := (sz_part hW hp k3 kn).2.2; omega
    unfold mtG at h
    unfold ndG
    by_cases c0 : τ 8 p = 0
    · rw [if_pos c0] at h; cases h
    rw [if_neg c0] at h
    by_cases c5 : τ 8 p = 5
    · exfalso
      rw [if_neg (by omega), if_neg (by omega), if_pos c5] at h
      obtain ⟨g1, g2, g3, g4, g5, g6, g7⟩ := hW.g5 hp c5
      split at h
      · cases h
      · -- a pattern for numbers asks nothing
        rename_i hne
        have hne' : ¬ vk P (τ 9 p) q = -9 := hne
        have hb : 0 ≤ vk P (τ 9 p) q ∧ vk P (τ 9 p) q ≤ 9 := by
          rcases hV (τ 9 p) q with z | z
          · exact absurd z hne'
          · exact z
        have := mt_ask hW hF hH hV n _ _ _ (ho.view hW c5 hb) (sz 0 (by omega) (by omega)) h
        have hno : ∀ (n p : Nat) (d : Int) (x : XS) (a : Ask), (p : Int) < τ 0 9 → τ 17 p = 1 → 0 ≤ d → d ≤ 9 → ¬ (mt τ (envK P) n p (-1 - d) x).1 = .inr a := by
          intro n
          induction n with
          | zero => intro p d x a _ _ _ _ h; cases h
          | succ n ih =>
            intro p d x a hp hb d0 d9 h
            change (mtG τ (envK P) (mt τ (envK P) n) p (-1 - d) x).1 = .inr a at h
            have hform := hW.form hp
            unfold mtG at h
            by_cases c0 : τ 8 p = 0
            · rw [if_pos c0] at h; cases h
            rw [if_neg c0] at h
            by_cases c4 : τ 8 p = 4
            · rw [if_neg (by omega), if_pos c4] at h
              have g := hW.g4 hp c4
              have g0 := g.1
              have g1 := g.2.1
              have bb := g.2.2.2.2.2.2.mp hb
              clear g
              have b0 := hW.pb hp (k := 0) (by omega)
              have b1 := hW.pb hp (k := 1) (by omega)
              split at h
              · exact ih _ d _ a (by omega) bb.2 d0 d9 h
              · exact ih _ d _ a (by omega) bb.1 d0 d9 h
            · have c2 : τ 8 p = 2 := by
                have a1 : ¬ τ 8 p = 1 := fun q => by have := (hW.g1 hp q).2.2.2.2.2; omega
                have a3 : ¬ τ 8 p = 3 := fun q => by obtain ⟨_, _, _, _, _, _, z, _⟩ := hW.g3 hp q; omega
                have a5 : ¬ τ 8 p = 5 := fun q => by have := (hW.g5 hp q).2.2.2.2.2.1; omega
                have a6 : ¬ τ 8 p = 6 := fun q => by have := (hW.g6 hp q).2.2.2.1; omega
                omega
              rw [if_neg (by omega), if_neg c4, if_neg (by omega)] at h
              have hfe : factE (envK P) (-1 - d) = d := by unfold factE; rw [if_pos (by omega)]; omega
              rw [hfe, if_neg (by omega)] at h
              obtain ⟨-, g0, g1, g2, -⟩ := hW.g2 hp c2
              have hL : partsL τ p (-1 - d) d = [] := by unfold partsL part1; rw [if_pos g0, if_pos g1, if_pos g2]; rfl
              rw [hL] at h
              split at h <;> cases h
        have hb0 := hW.pb hp (k := 0) (by omega)
        exact hno n _ _ _ _ (by omega) g7 hb.1 hb.2 h
    rw [if_neg (by omega)]
    by_cases c1 : τ 8 p = 1
    · rw [if_pos c1] at h ⊢
      exact mt_nd hW hF hH hV n _ _ _ (ho.name hW c1) (sz 0 (by omega) (by have := (hW.g1 hp c1).2.1; omega)) h
    rw [if_neg c1] at h ⊢
    by_cases c4 : τ 8 p = 4
    · rw [if_pos c4] at h ⊢
      have g := hW.g4 hp c4
      have g0 := g.1
      have g1 := g.2.1
      clear g
      rw [List.mem_append]
      split at h
      · exact Or.inr (mt_nd hW hF hH hV n _ _ _ (ho.alt hW c4 (k := 1) (by omega)) (sz 1 (by omega) (by omega)) h)
      · exact Or.inl (mt_nd hW hF hH hV n _ _ _ (ho.alt hW c4 (k := 0) (by omega)) (sz 0 (by omega) (by omega)) h)
    rw [if_neg c4] at h ⊢
    rw [if_neg c5] at h
    have hg : 1 ≤ q ∧ q ≤ PB (τ 13 p) ∧ 0 ≤ kd τ (hk P) q ∧ (τ 12 p = -1 ∨ τ 12 p = kd τ (hk P) q) := by
      rcases ho.2 with g | g
      · exfalso
        have c2 : τ 8 p = 2 := by
          have a3 : ¬ τ 8 p = 3 := fun q => by obtain ⟨_, _, _, _, _, _, z, _⟩ := hW.g3 hp q; omega
          have a6 : ¬ τ 8 p = 6 := fun q => by have := (hW.g6 hp q).2.2.2.1; omega
          omega
        obtain ⟨-, g0, g1, g2, -⟩ := hW.g2 hp c2
        have hL : ∀ f, partsL τ p q f = [] := fun f => by unfold partsL part1; rw [if_pos g0, if_pos g1, if_pos g2]; rfl
        have hfe : ¬ factE (envK P) q = -9 := by unfold factE; rw [if_pos (by omega)]; omega
        rw [if_neg hfe, hL] at h
        split at h <;> cases h
      · exact g
    have h468 := PB_468 (d := τ 13 p)
    have hfe : factE (envK P) q = hk P q := by unfold factE; rw [if_neg (by omega)]; rfl
    rw [hfe] at h
    by_cases c9 : hk P q = -9
    · rw [if_pos c9] at h ⊢
      cases h
      exact List.mem_cons_self
    rw [if_neg c9] at h ⊢
    by_cases cr : isR τ p (hk P q) = true
    · rw [if_pos cr] at h ⊢
      refine seq_nd (τ := τ) (P := P) (fun z hz x hx => ?_) h
      have zz := parts_lt hW hp hz
      exact mt_nd hW hF hH hV n z.1 z.2 x (ho.parts hW hF hH c0 c1 c4 c5 hg.1 c9 cr z hz) (by omega) hx
    · rw [if_neg cr] at h; cases h
