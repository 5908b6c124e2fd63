/-! what views gave, four bits each -/
theorem g3_of {g : Int} (h : 0 ≤ g ∧ g < 4096) : ∃ a b c : Fin 16, g = g3 a b c ∧ ((a.val : Nat) : Int) = g % 16 ∧ ((b.val : Nat) : Int) = g / 16 % 16 ∧ ((c.val : Nat) : Int) = g / 256 % 16 := by
  refine ⟨⟨(g % 16).toNat, by omega⟩, ⟨(g / 16 % 16).toNat, by omega⟩, ⟨(g / 256 % 16).toNat, by omega⟩, ?_, ?_, ?_, ?_⟩
  · unfold g3; dsimp only; omega
  · dsimp only; omega
  · dsimp only; omega
  · dsimp only; omega
theorem nibA {g v : Int} (h : 0 ≤ g ∧ g < 4096) (hv : 0 ≤ v ∧ v ≤ 2) : jand (jshr g (4 * v)) 15 = nib g v := by
  obtain ⟨a, b, c, e, -⟩ := g3_of h
  have := nib_a ⟨v.toNat, by omega⟩ a b c
  dsimp only at this
  rw [show ((v.toNat : Nat) : Int) = v by omega] at this
  rw [e]; exact this
theorem nibB {g v : Int} (h : 0 ≤ g ∧ g < 4096) (hv : 0 ≤ v ∧ v ≤ 2) : jand g (jxor (jshl 15 (4 * v)) (-1)) = g - nib g v * p16 v := by
  obtain ⟨a, b, c, e, -⟩ := g3_of h
  have := nib_b ⟨v.toNat, by omega⟩ a b c
  dsimp only at this
  rw [show ((v.toNat : Nat) : Int) = v by omega] at this
  rw [e]; exact this
theorem nibC {g v w : Int} (h : 0 ≤ g ∧ g < 4096) (hv : 0 ≤ v ∧ v ≤ 2) (hw : 0 ≤ w ∧ w < 16) (hz : nib g v = 0) : jor g (jshl w (4 * v)) = g + w * p16 v := by
  obtain ⟨a, b, c, e, ea, eb, ec⟩ := g3_of h
  have ew : ((w.toNat : Nat) : Int) = w := by omega
  unfold nib p16 at hz
  unfold p16
  have : v = 0 ∨ v = 1 ∨ v = 2 := by omega
  rcases this with rfl | rfl | rfl
  · rw [if_pos rfl] at hz ⊢
    have := nib_c0 ⟨w.toNat, by omega⟩ b c
    dsimp only at this
    rw [ew] at this
    have ha : a = 0 := Fin.ext (by show a.val = 0; omega)
    rw [e, ha]
    show jor (g3 0 b c) (jshl w 0) = _
    rw [this]; omega
  · rw [if_neg (by omega), if_pos rfl] at hz ⊢
    have := nib_c1 ⟨w.toNat, by omega⟩ a c
    dsimp only at this
    rw [ew] at this
    have ha : b = 0 := Fin.ext (by show b.val = 0; omega)
    rw [e, ha]
    show jor (g3 a 0 c) (jshl w 4) = _
    rw [this]; omega
  · rw [if_neg (by omega), if_neg (by omega)] at hz ⊢
    have := nib_c2 ⟨w.toNat, by omega⟩ a b
    dsimp only at this
    rw [ew] at this
    have ha : c = 0 := Fin.ext (by show c.val = 0; omega)
    rw [e, ha]
    show jor (g3 a b 0) (jshl w 8) = _
    rw [this]; omega
/-- a cell with four bits put anew -/
def nput (g v w : Int) : Int := g - nib g v * p16 v + w * p16 v
theorem nput_c {g v w : Int} (h : 0 ≤ g ∧ g < 4096) (hv : 0 ≤ v ∧ v ≤ 2) (hw : 0 ≤ w ∧ w < 16) : (0 ≤ nput g v w ∧ nput g v w < 4096) ∧ nib (nput g v w) v = w ∧ (∀ u, 0 ≤ u → u ≤ 2 → ¬ u = v → nib (nput g v w) u = nib g u) ∧ (0 ≤ g - nib g v * p16 v ∧ g - nib g v * p16 v < 4096) ∧ nib (g - nib g v * p16 v) v = 0 := by
  unfold nput nib p16
  have : v = 0 ∨ v = 1 ∨ v = 2 := by omega
  rcases this with rfl | rfl | rfl
  · rw [if_pos rfl]
    refine ⟨by omega, by omega, fun u u0 u2 uv => ?_, by omega, by omega⟩
    rw [if_neg uv]
    split <;> omega
  · rw [if_neg (by omega), if_pos rfl]
    refine ⟨by omega, by omega, fun u u0 u2 uv => ?_, by omega, by omega⟩
    rw [if_neg uv]
    split <;> omega
  · rw [if_neg (by omega), if_neg (by omega)]
    refine ⟨by omega, by omega, fun u u0 u2 uv => ?_, by omega, by omega⟩
    split
    · omega
    · rw [if_pos (by omega)]; omega
theorem givenAt_c {σ : Sg} {t : Nat} {v pl : Int} (hv : 0 ≤ v ∧ v ≤ 2) (hp : 0 ≤ pl ∧ pl ≤ 468) (hg : 0 ≤ σ t pl.toNat ∧ σ t pl.toNat < 4096) : F_X10_givenAt t v pl σ = nib (σ t pl.toNat) v - 1 := by
  have : 0 ≤ nib (σ t pl.toNat) v ∧ nib (σ t pl.toNat) v < 16 := by unfold nib; omega
  unfold F_X10_givenAt
  rw [rdD_ok hp.1 (by omega), wrap_id (z := 4 * v) (by omega) (by omega), nibA hg hv, wrap_id (by omega) (by omega)]
theorem putGiven_c {σ : Sg} {t : Nat} {v pl d : Int} (hv : 0 ≤ v ∧ v ≤ 2) (hp : 0 ≤ pl ∧ pl ≤ 468) (hd : -1 ≤ d ∧ d ≤ 9) (hg : 0 ≤ σ t pl.toNat ∧ σ t pl.toNat < 4096) : F_X10_putGiven t v pl d σ = up2 σ t pl.toNat (nput (σ t pl.toNat) v (d + 1)) := by
  obtain ⟨-, -, -, n4, n5⟩ := nput_c (w := d + 1) hg hv (by omega)
  unfold F_X10_putGiven
  rw [rdD_ok hp.1 (by omega), wrap_id (z := 4 * v) (by omega) (by omega), bnd_eq, nibB hg hv, wrap_id (z := d + 1) (by omega) (by omega), nibC n4 hv (by omega) n5, wrD_ok hp.1 (by omega), bnd_eq]
  rfl
def un9 (x : Int) : Int := if x = -9 then -1 else x
def GN (σ : Sg) (t : Nat) (F : Int → Int → Int) : Prop := ∀ pl : Nat, 1 ≤ pl → pl ≤ 468 → (0 ≤ σ t pl ∧ σ t pl < 4096) ∧ ∀ v : Int, 0 ≤ v → v ≤ 2 → nib (σ t pl) v = un9 (F v pl) + 1
theorem GN.get {σ : Sg} {t : Nat} {F : Int → Int → Int} {v pl : Int} (h : GN σ t F) (hv : 0 ≤ v ∧ v ≤ 2) (hp : 1 ≤ pl ∧ pl ≤ 468) : F_X10_givenAt t v pl σ = un9 (F v pl) := by
  obtain ⟨h1, h2⟩ := h pl.toNat (by omega) (by omega)
  rw [givenAt_c hv ⟨by omega, hp.2⟩ h1, h2 v hv.1 hv.2, show ((pl.toNat : Nat) : Int) = pl by omega]
  omega
theorem GN.put {σ : Sg} {t : Nat} {F F' : Int → Int → Int} {v pl d : Int} (h : GN σ t F) (hv : 0 ≤ v ∧ v ≤ 2) (hp : 1 ≤ pl ∧ pl ≤ 468) (hd : -1 ≤ d ∧ d ≤ 9) (h1 : un9 (F' v pl) = d) (h2 : ∀ u q, ¬ (u = v ∧ q = pl) → F' u q = F u q) : F_X10_putGiven t v pl d σ = up2 σ t pl.toNat (nput (σ t pl.toNat) v (d + 1)) ∧ GN (F_X10_putGiven t v pl d σ) t F' := by
  obtain ⟨g1, g2⟩ := h pl.toNat (by omega) (by omega)
  have e := putGiven_c (σ := σ) (t := t) hv ⟨by omega, hp.2⟩ hd g1
  obtain ⟨n1, n2, n3, -⟩ := nput_c (w := d + 1) g1 hv (by omega)
  refine ⟨e, ?_⟩
  rw [e]
  intro q q1 q2
  by_cases c : q = pl.toNat
  · rw [up2_at rfl c]
    refine ⟨n1, fun u u0 u2 => ?_⟩
    by_cases cu : u = v
    · rw [cu, n2, show ((q : Nat) : Int) = pl by omega, h1]
    · rw [n3 u u0 u2 cu, h2 u q (fun z => cu z.1), g2 u u0 u2, c]
  · rw [up2_idx c]
    refine ⟨(h q q1 q2).1, fun u u0 u2 => ?_⟩
    rw [h2 u q (fun z => c (by omega)), (h q q1 q2).2 u u0 u2]
theorem GN.congr {σ σ' : Sg} {t : Nat} {F : Int → Int → Int} (h : GN σ t F) (hs : σ' t = σ t) : GN σ' t F := by
  intro q q1 q2
  rw [hs]; exact h q q1 q2
