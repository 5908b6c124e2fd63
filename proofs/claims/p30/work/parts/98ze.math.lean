/-! the class: what is known at a node -/
def KNo (σ : Sg) (P : Pth) : Prop := (∀ pl : Nat, 1 ≤ pl → pl ≤ 468 → σ 38 pl = un9 (hk P pl)) ∧ GN σ 39 (vk P) ∧ (0 ≤ σ 37 4 ∧ σ 37 4 < 256) ∧ ∀ c : Nat, c < 8 → (σ 37 4).toNat.testBit c = fk P c
def FrK (σ0 σ : Sg) : Prop := (∀ r, ¬ r = 37 → ¬ r = 40 → σ r = σ0 r) ∧ ∀ i, ¬ i = 5 → ¬ i = 6 → ¬ i = 7 → σ 37 i = σ0 37 i
theorem FrK.rfl' {σ : Sg} : FrK σ σ := ⟨fun _ _ _ => rfl, fun _ _ _ _ => rfl⟩
theorem FrK.trans {a b c : Sg} (h : FrK a b) (h' : FrK b c) : FrK a c := ⟨fun r h1 h2 => by rw [h'.1 r h1 h2, h.1 r h1 h2], fun i h1 h2 h3 => by rw [h'.2 i h1 h2 h3, h.2 i h1 h2 h3]⟩
theorem FrK.kn {σ0 σ : Sg} {P : Pth} (h : FrK σ0 σ) (hK : KNo σ0 P) : KNo σ P := by
  obtain ⟨a, b, c, d⟩ := hK
  refine ⟨by rw [h.1 38 (by omega) (by omega)]; exact a, b.congr (h.1 39 (by omega) (by omega)), ?_, ?_⟩
  · rw [h.2 4 (by omega) (by omega) (by omega)]; exact c
  · rw [h.2 4 (by omega) (by omega) (by omega)]; exact d
theorem FrK.rp {σ0 σ τ : Sg} (h : FrK σ0 σ) (hF : WFK (τ 1) (τ 2) (τ 3)) (hP : RP σ0 τ) : RP σ τ := RP.fr hP hF (fun r r1 r2 => h.1 r (by omega) (by omega)) (fun _ _ _ => rfl) rfl
theorem FrK.rm {σ0 σ τ : Sg} (h : FrK σ0 σ) (hM : RM σ0 τ) : RM σ τ := hM.fr (fun r r1 r2 => h.1 r (by omega) (by omega))
def codeK (r : Bool ⊕ Ask) : Int := match r with
  | .inl true => 1
  | .inl false => 0
  | .inr _ => 2
/-- names bound, what is asked -/
def KR (σ0 : Sg) (r : Res) (σ : Sg) : Prop := FrK σ0 σ ∧ (∀ i : Nat, i < 6 → σ 40 i = r.2.1 i) ∧ ∀ a, r.1 = .inr a → σ 37 5 = a.1 ∧ σ 37 6 = a.2.1 ∧ σ 37 7 = a.2.2
theorem setNext_c {σ : Sg} {a b c : Int} : F_X3_setNext a b c σ = up2 (up2 (up2 σ 37 5 a) 37 6 b) 37 7 c := by
  unfold F_X3_setNext; rw [bnd_eq, bnd_eq, bnd_eq]
theorem setNext_at {σ : Sg} {a b c : Int} : (up2 (up2 (up2 σ 37 5 a) 37 6 b) 37 7 c) 37 5 = a ∧ (up2 (up2 (up2 σ 37 5 a) 37 6 b) 37 7 c) 37 6 = b ∧ (up2 (up2 (up2 σ 37 5 a) 37 6 b) 37 7 c) 37 7 = c :=
  ⟨by rw [up2_idx (by omega), up2_idx (by omega), up2_at rfl rfl], by rw [up2_idx (by omega), up2_at rfl rfl], by rw [up2_at rfl rfl]⟩
theorem FrK.next {σ0 σ : Sg} {a b c : Int} (h : FrK σ0 σ) : FrK σ0 (up2 (up2 (up2 σ 37 5 a) 37 6 b) 37 7 c) :=
  ⟨fun r h1 h2 => by rw [← h.1 r h1 h2]; funext j; rw [up2_row h1, up2_row h1, up2_row h1], fun i h1 h2 h3 => by rw [up2_idx h3, up2_idx h2, up2_idx h1]; exact h.2 i h1 h2 h3⟩
/-- numbers that views gave -/
theorem mt_bare {τ : Sg} {P : Pth} (hW : WFP τ) : ∀ (n m p : Nat) (d : Int) (x : XS), (p : Int) < τ 0 9 → τ 17 p = 1 → 0 ≤ d → τ 14 p ≤ n → p < m → mt τ (envK P) n p (-1 - d) x = (.inl (bareM τ m p d), x)
  | 0, m, p, d, x, hp, hb, hd, hn, hm => by have := hW.ge hp; omega
  | n + 1, 0, p, d, x, hp, hb, hd, hn, hm => by omega
  | n + 1, m + 1, p, d, x, hp, hb, hd, hn, hm => by
    show mtG τ (envK P) (mt τ (envK P) n) p (-1 - d) x = _
    have hform := hW.form hp
    unfold mtG bareM
    by_cases c0 : τ 8 p = 0
    · rw [if_pos c0, if_pos c0]
    rw [if_neg c0, if_neg c0]
    have a1 : ¬ τ 8 p = 1 := fun q => by have := (hW.g1 hp q).2.2.2.2.2; omega
    have a3 : ¬ τ 8 p = 3 := fun q => by obtain ⟨_, _, _, _, _, _, z, _⟩ := hW.g3 hp q; omega
    have a5 : ¬ τ 8 p = 5 := fun q => by have := (hW.g5 hp q).2.2.2.2.2.1; omega
    have a6 : ¬ τ 8 p = 6 := fun q => by have := (hW.g6 hp q).2.2.2.1; omega
    rw [if_neg a1]
    by_cases c4 : τ 8 p = 4
    · have g := hW.g4 hp c4
      have g0 := g.1
      have g1 := g.2.1
      have bb := g.2.2.2.2.2.2.mp hb
      clear g
      have b0 := hW.pb hp (k := 0) (by omega)
      have b1 := hW.pb hp (k := 1) (by omega)
      obtain ⟨-, -, z0⟩ := sz_part hW hp (k := 0) (by omega) (by omega)
      obtain ⟨-, -, z1⟩ := sz_part hW hp (k := 1) (by omega) (by omega)
      rw [if_pos c4, if_neg (show ¬ τ 8 p = 2 by omega), if_pos c4, mt_bare hW n m (prt τ p 0).toNat d x (by omega) bb.1 hd (by omega) (by omega)]
      dsimp only
      cases hv : bareM τ m (prt τ p 0).toNat d with
      | true => rw [if_neg (by simp)]; rfl
      | false =>
        rw [if_pos rfl, mt_bare hW n m (prt τ p 1).toNat d x (by omega) bb.2 hd (by omega) (by omega)]
        rfl
    · have c2 : τ 8 p = 2 := by omega
      rw [if_neg c4, if_neg a5, if_pos c2]
      have hfe : factE (envK P) (-1 - d) = d := by unfold factE; rw [if_pos (by omega)]; omega
      obtain ⟨-, g0, g1, g2, -⟩ := hW.g2 hp c2
      have hL : partsL τ p (-1 - d) d = [] := by unfold partsL part1; rw [if_pos g0, if_pos g1, if_pos g2]; rfl
      rw [hfe, if_neg (by omega), hL]
      unfold isR
      rw [if_pos c2]
      by_cases q : τ 9 p ≤ d ∧ d ≤ τ 10 p
      · rw [if_pos (decide_eq_true q), decide_eq_true q]; rfl
      · rw [if_neg (by rw [decide_eq_false q]; simp), decide_eq_false q]; rfl
theorem admits_c {σ τ : Sg} {p : Nat} {d : Int} (h : RP σ τ) (hp : (p : Int) < τ 0 9) (hb : τ 17 p = 1) (hd : 0 ≤ d ∧ d ≤ 9) : F_X5_admits p d σ = bareM τ (p + 1) p d := by
  have hW := h.2.1
  have h60 := hW.2.1
  obtain ⟨-, -, -, -, -, -, -, -, -, -, r1, r2, r3⟩ := h.2.2.1 p hp
  have e := r3 hb d.toNat (by omega)
  rw [show ((d.toNat : Nat) : Int) = d by omega] at e
  have b := bit_c ⟨(σ 21 p).toNat, by omega⟩ ⟨d.toNat, by omega⟩
  dsimp only at b
  rw [show (((σ 21 p).toNat : Nat) : Int) = σ 21 p by omega, show ((d.toNat : Nat) : Int) = d by omega] at b
  unfold F_X5_admits
  rw [if_neg (by omega), if_neg (by omega), rdD_ok (by omega) (by omega), show ((p : Nat) : Int).toNat = p by omega, b]
  by_cases q : (σ 21 p).toNat.testBit d.toNat = true
  · rw [if_pos q, if_pos rfl, e.mp q]
  · rw [if_neg q, if_neg (by omega)]
    cases hv : bareM τ (p + 1) p d with
    | true => exact absurd (e.mpr hv) q
    | false => rfl
/-- a loop over parts or columns that a failure or a question ends -/
theorem loopK {f : Int × Sg → Option ((Int × Sg) ⊕ (Sg ⊕ (Int × Sg)))} {F : Nat → Int → XS → Res} {it : Nat → Nat × Int} {m : Nat} {Q : Res → Sg → Prop} (he : ∀ x σ, Q (.inl true, x) σ → f ((m : Int), σ) = some (.inr (.inl σ))) (hs : ∀ (k : Nat) (x : XS) (σ : Sg), k < m → Q (.inl true, x) σ → ∃ σ', f ((k : Int), σ) = some (if codeK (F (it k).1 (it k).2 x).1 = 1 then .inl ((k : Int) + 1, σ') else .inr (.inr (codeK (F (it k).1 (it k).2 x).1, σ'))) ∧ Q (F (it k).1 (it k).2 x) σ') : ∀ (d k n : Nat) (x : XS) (σ : Sg), k + d = m → d < n → Q (.inl true, x) σ → ∃ σ', iter f n ((k : Int), σ) = some (if codeK (seqM F (runL it d k) x).1 = 1 then .inl σ' else .inr (codeK (seqM F (runL it d k) x).1, σ')) ∧ Q (seqM F (runL it d k) x) σ'
  | 0, k, n, x, σ, hk, hn, hP => by
    obtain ⟨n, rfl⟩ : ∃ z, n = z + 1 := ⟨n - 1, by omega⟩
    refine ⟨σ, ?_, hP⟩
    have : k = m := by omega
    rw [this, iter_r (he x σ hP)]
    rfl
  | d + 1, k, n, x, σ, hk, hn, hP => by
    obtain ⟨n, rfl⟩ : ∃ z, n = z + 1 := ⟨n - 1, by omega⟩
    obtain ⟨σ', e1, e2⟩ := hs k x σ (by omega) hP
    unfold runL seqM
    by_cases g : (F (it k).1 (it k).2 x).1 = .inl true
    · have hc : codeK (F (it k).1 (it k).2 x).1 = 1 := by rw [g]; rfl
      rw [if_pos hc] at e1
      rw [iter_l e1, if_pos g, show (k : Int) + 1 = ((k + 1 : Nat) : Int) by omega]
      refine loopK he hs d (k + 1) n _ σ' (by omega) (by omega) ?_
      have : F (it k).1 (it k).2 x = (.inl true, (F (it k).1 (it k).2 x).2) := Prod.ext g rfl
      rw [← this]; exact e2
    · have hc : ¬ codeK (F (it k).1 (it k).2 x).1 = 1 := fun z => g (by
        generalize (F (it k).1 (it k).2 x).1 = r at z
        cases r with
        | inl b => cases b with
          | true => rfl
          | false => exact absurd z (by decide)
        | inr a => exact absurd z (by show ¬ (2 : Int) = 1; omega))
      rw [if_neg hc] at e1
      rw [iter_r e1, if_neg g]
      exact ⟨σ', by rw [if_neg hc], e2⟩
