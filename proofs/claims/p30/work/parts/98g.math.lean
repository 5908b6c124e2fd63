/-! the codes of a pattern -/
def cHold (τ : Sg) (op : Nat) (p depth : Nat) : Nat := pk op depth (lowOf τ p).toNat (highOf τ p).toNat
def cPart (τ : Sg) (p depth k : Nat) : Nat := if sortOf τ p = 7 then pk 3 depth ((pcOf τ p).toNat - k) 0 else pk 2 depth k 0
def sgN (τ σ : Sg) : Nat → Nat → Nat → Nat → List Nat → Prop
  | 0, _, _, _, _ => False
  | n + 1, p, a, b, L =>
    if τ 8 p = 0 then b = a ∧ L = []
    else if τ 8 p = 4 then ∃ (m : Nat) (L0 : List Nat), sgN τ σ n (prt τ p 0).toNat a m L0 ∧ (∀ x ∈ L0, σ 35 x = (m : Int) + 1) ∧ σ 34 m = (pk 8 0 0 0 : Nat) ∧ σ 35 m = (b : Int) ∧ sgN τ σ n (prt τ p 1).toNat (m + 1) b L
    else σ 34 a = (cHold τ 7 p 0 : Nat) ∧ b = a + 1 ∧ L = [a]
def sgL (S : Nat → Nat → Nat → List Nat → Prop) (σ : Sg) (cd : Nat → Nat) : Nat → Nat → Nat → Nat → List Nat → Prop
  | 0, _, a, b, L => b = a ∧ L = []
  | d + 1, k, a, b, L => σ 34 a = (cd k : Nat) ∧ ∃ (m : Nat) (L1 L2 : List Nat), S k (a + 1) m L1 ∧ sgL S σ cd d (k + 1) m b L2 ∧ L = L2 ++ L1
def sgP (τ σ : Sg) : Nat → Nat → Nat → Nat → Nat → List Nat → Prop
  | 0, _, _, _, _, _ => False
  | n + 1, p, dp, a, b, L =>
    if τ 8 p = 0 then b = a ∧ L = []
    else if τ 8 p = 1 then σ 34 a = (pk 4 dp (τ 9 p).toNat 0 : Nat) ∧ sgP τ σ n (prt τ p 0).toNat dp (a + 1) b L
    else if τ 8 p = 4 then ∃ (m : Nat) (L0 : List Nat), sgP τ σ n (prt τ p 0).toNat dp a m L0 ∧ (∀ x ∈ L0, σ 35 x = (m : Int) + 1) ∧ σ 34 m = (pk 8 0 0 0 : Nat) ∧ σ 35 m = (b : Int) ∧ sgP τ σ n (prt τ p 1).toNat dp (m + 1) b L
    else if τ 8 p = 5 then σ 34 a = (pk 6 dp (τ 9 p).toNat 0 : Nat) ∧ sgN τ σ n (prt τ p 0).toNat (a + 1) b L
    else σ 34 a = (cHold τ 5 p dp : Nat) ∧ ∃ L1, sgL (fun k => sgP τ σ n (prt τ p k).toNat (dp + 1)) σ (cPart τ p dp) (pcOf τ p).toNat 0 (a + 1) b L1 ∧ L = L1 ++ [a]
/-- codes from a to b, with those in L that fail -/
def Sok (a b : Nat) (L : List Nat) : Prop := a ≤ b ∧ (∀ x ∈ L, a ≤ x ∧ x < b) ∧ L.Nodup
theorem Sok.app {a m b : Nat} {L1 L2 : List Nat} (h1 : Sok a m L1) (h2 : Sok m b L2) : Sok a b (L2 ++ L1) := by
  obtain ⟨a1, a2, a3⟩ := h1
  obtain ⟨b1, b2, b3⟩ := h2
  refine ⟨by omega, fun x hx => ?_, ?_⟩
  · rcases List.mem_append.mp hx with z | z
    · have := b2 x z; omega
    · have := a2 x z; omega
  · rw [List.nodup_append]
    refine ⟨b3, a3, fun x hx y hy => ?_⟩
    have := b2 x hx
    have := a2 y hy
    omega
theorem sgN_ok {τ σ : Sg} : ∀ {n p a b : Nat} {L : List Nat}, sgN τ σ n p a b L → Sok a b L
  | 0, p, a, b, L, h => h.elim
  | n + 1, p, a, b, L, h => by
    unfold sgN at h
    by_cases c0 : τ 8 p = 0
    · rw [if_pos c0] at h
      rw [h.1, h.2]; exact ⟨Nat.le_refl _, (fun x hx => by cases hx), List.nodup_nil⟩
    rw [if_neg c0] at h
    by_cases c4 : τ 8 p = 4
    · rw [if_pos c4] at h
      obtain ⟨m, L0, h1, h2, h3, h4, h5⟩ := h
      have i1 := sgN_ok h1
      have i2 := sgN_ok h5
      exact ⟨by have := i1.1; have := i2.1; omega, fun x hx => by have := i2.2.1 x hx; have := i1.1; omega, i2.2.2⟩
    · rw [if_neg c4] at h
      rw [h.2.1, h.2.2]
      exact ⟨by omega, fun x hx => by simp at hx; omega, by simp⟩
theorem sgL_ok {S : Nat → Nat → Nat → List Nat → Prop} {σ : Sg} {cd : Nat → Nat} (hS : ∀ k a b L, S k a b L → Sok a b L) : ∀ {d k a b : Nat} {L : List Nat}, sgL S σ cd d k a b L → Sok a b L
  | 0, k, a, b, L, h => by rw [h.1, h.2]; exact ⟨Nat.le_refl _, (fun x hx => by cases hx), List.nodup_nil⟩
  | d + 1, k, a, b, L, h => by
    obtain ⟨h1, m, L1, L2, h2, h3, h4⟩ := h
    rw [h4]
    have i1 := hS _ _ _ _ h2
    have i2 := sgL_ok hS h3
    have i3 := i1.app i2
    exact ⟨by have := i3.1; omega, fun x hx => by have := i3.2.1 x hx; omega, i3.2.2⟩
theorem sgP_ok {τ σ : Sg} : ∀ {n p dp a b : Nat} {L : List Nat}, sgP τ σ n p dp a b L → Sok a b L
  | 0, p, dp, a, b, L, h => h.elim
  | n + 1, p, dp, a, b, L, h => by
    unfold sgP at h
    by_cases c0 : τ 8 p = 0
    · rw [if_pos c0] at h
      rw [h.1, h.2]; exact ⟨Nat.le_refl _, (fun x hx => by cases hx), List.nodup_nil⟩
    rw [if_neg c0] at h
    by_cases c1 : τ 8 p = 1
    · rw [if_pos c1] at h
      have i := sgP_ok h.2
      exact ⟨by have := i.1; omega, fun x hx => by have := i.2.1 x hx; omega, i.2.2⟩
    rw [if_neg c1] at h
    by_cases c4 : τ 8 p = 4
    · rw [if_pos c4] at h
      obtain ⟨m, L0, h1, h2, h3, h4, h5⟩ := h
      have i1 := sgP_ok h1
      have i2 := sgP_ok h5
      exact ⟨by have := i1.1; have := i2.1; omega, fun x hx => by have := i2.2.1 x hx; have := i1.1; omega, i2.2.2⟩
    rw [if_neg c4] at h
    by_cases c5 : τ 8 p = 5
    · rw [if_pos c5] at h
      have i := sgN_ok h.2
      exact ⟨by have := i.1; omega, fun x hx => by have := i.2.1 x hx; omega, i.2.2⟩
    · rw [if_neg c5] at h
      obtain ⟨h1, L1, h2, h3⟩ := h
      have i := sgL_ok (fun k a b L q => sgP_ok q) h2
      have ia : Sok a (a + 1) [a] := ⟨by omega, fun x hx => by simp at hx; omega, by simp⟩
      rw [h3]
      exact ia.app i
theorem sgN_congr {τ σ σ' : Sg} : ∀ {n p a b : Nat} {L : List Nat}, sgN τ σ n p a b L → (∀ i, a ≤ i → i < b → σ' 34 i = σ 34 i) → (∀ i, a ≤ i → i < b → i ∉ L → σ' 35 i = σ 35 i) → sgN τ σ' n p a b L
  | 0, p, a, b, L, h, _, _ => h.elim
  | n + 1, p, a, b, L, h, h34, h35 => by
    unfold sgN at h ⊢
    by_cases c0 : τ 8 p = 0
    · rw [if_pos c0] at h ⊢; exact h
    rw [if_neg c0] at h ⊢
    by_cases c4 : τ 8 p = 4
    · rw [if_pos c4] at h ⊢
      obtain ⟨m, L0, h1, h2, h3, h4, h5⟩ := h
      have i1 := sgN_ok h1
      have i2 := sgN_ok h5
      have l1 := i1.1
      have l2 := i2.1
      have out : ∀ i, i ≤ m → i ∉ L := fun i hi hL => by have := i2.2.1 i hL; omega
      refine ⟨m, L0, sgN_congr h1 (fun i i1 i2 => h34 i i1 (by omega)) (fun i i1 i2 _ => h35 i i1 (by omega) (out i (by omega))), fun x hx => ?_, by rw [h34 m (by omega) (by omega)]; exact h3, by rw [h35 m (by omega) (by omega) (out m (by omega))]; exact h4, sgN_congr h5 (fun i i1 i2 => h34 i (by omega) i2) (fun i i1 i2 hL => h35 i (by omega) i2 hL)⟩
      have := i1.2.1 x hx
      rw [h35 x (by omega) (by omega) (out x (by omega))]; exact h2 x hx
    · rw [if_neg c4] at h ⊢
      exact ⟨by rw [h34 a (Nat.le_refl _) (by omega)]; exact h.1, h.2⟩
theorem sgL_congr {S S' : Nat → Nat → Nat → List Nat → Prop} {σ σ' : Sg} {cd : Nat → Nat} (hok : ∀ k a b L, S k a b L → Sok a b L) : ∀ {d k a b : Nat} {L : List Nat}, sgL S σ cd d k a b L → (∀ k a' b' L', a ≤ a' → b' ≤ b → (∀ x ∈ L, a' ≤ x → x < b' → x ∈ L') → S k a' b' L' → S' k a' b' L') → (∀ i, a ≤ i → i < b → σ' 34 i = σ 34 i) → sgL S' σ' cd d k a b L
  | 0, k, a, b, L, h, _, _ => h
  | d + 1, k, a, b, L, h, hS, h34 => by
    obtain ⟨h1, m, L1, L2, h2, h3, h4⟩ := h
    have i1 := hok _ _ _ _ h2
    have i2 := sgL_ok hok h3
    have l1 := i1.1
    have l2 := i2.1
    refine ⟨by rw [h34 a (Nat.le_refl _) (by omega)]; exact h1, m, L1, L2, hS k (a + 1) m L1 (by omega) (by omega) (fun x hx x1 x2 => ?_) h2, sgL_congr hok h3 (fun k a' b' L' z1 z2 z3 z4 => hS k a' b' L' (by omega) z2 (fun x hx x1 x2 => ?_) z4) (fun i i1 i2 => h34 i (by omega) i2), h4⟩
    · rw [h4] at hx
      rcases List.mem_append.mp hx with z | z
      · have := i2.2.1 x z; omega
      · exact z
    · rw [h4] at hx
      rcases List.mem_append.mp hx with z | z
      · exact z3 x z x1 x2
      · have := i1.2.1 x z; omega
theorem sgP_congr {τ σ σ' : Sg} : ∀ {n p dp a b : Nat} {L : List Nat}, sgP τ σ n p dp a b L → (∀ i, a ≤ i → i < b → σ' 34 i = σ 34 i) → (∀ i, a ≤ i → i < b → i ∉ L → σ' 35 i = σ 35 i) → sgP τ σ' n p dp a b L
  | 0, p, dp, a, b, L, h, _, _ => h.elim
  | n + 1, p, dp, a, b, L, h, h34, h35 => by
    unfold sgP at h ⊢
    by_cases c0 : τ 8 p = 0
    · rw [if_pos c0] at h ⊢; exact h
    rw [if_neg c0] at h ⊢
    by_cases c1 : τ 8 p = 1
    · rw [if_pos c1] at h ⊢
      have i := sgP_ok h.2
      have := i.1
      exact ⟨by rw [h34 a (Nat.le_refl _) (by omega)]; exact h.1, sgP_congr h.2 (fun i i1 i2 => h34 i (by omega) i2) (fun i i1 i2 hL => h35 i (by omega) i2 hL)⟩
    rw [if_neg c1] at h ⊢
    by_cases c4 : τ 8 p = 4
    · rw [if_pos c4] at h ⊢
      obtain ⟨m, L0, h1, h2, h3, h4, h5⟩ := h
      have i1 := sgP_ok h1
      have i2 := sgP_ok h5
      have l1 := i1.1
      have l2 := i2.1
      have out : ∀ i, i ≤ m → i ∉ L := fun i hi hL => by have := i2.2.1 i hL; omega
      refine ⟨m, L0, sgP_congr h1 (fun i i1 i2 => h34 i i1 (by omega)) (fun i i1 i2 _ => h35 i i1 (by omega) (out i (by omega))), fun x hx => ?_, by rw [h34 m (by omega) (by omega)]; exact h3, by rw [h35 m (by omega) (by omega) (out m (by omega))]; exact h4, sgP_congr h5 (fun i i1 i2 => h34 i (by omega) i2) (fun i i1 i2 hL => h35 i (by omega) i2 hL)⟩
      have := i1.2.1 x hx
      rw [h35 x (by omega) (by omega) (out x (by omega))]; exact h2 x hx
    rw [if_neg c4] at h ⊢
    by_cases c5 : τ 8 p = 5
    · rw [if_pos c5] at h ⊢
      have i := sgN_ok h.2
      have := i.1
      exact ⟨by rw [h34 a (Nat.le_refl _) (by omega)]; exact h.1, sgN_congr h.2 (fun i i1 i2 => h34 i (by omega) i2) (fun i i1 i2 hL => h35 i (by omega) i2 hL)⟩
    · rw [if_neg c5] at h ⊢
      obtain ⟨h1, L1, h2, h3⟩ := h
      have i := sgL_ok (fun k a b L q => sgP_ok q) h2
      have := i.1
      refine ⟨by rw [h34 a (Nat.le_refl _) (by omega)]; exact h1, L1, sgL_congr (fun k a b L q => sgP_ok q) h2 (fun k a' b' L' z1 z2 z3 z4 => sgP_congr z4 (fun i i1 i2 => h34 i (by omega) (by omega)) (fun i i1 i2 hL => h35 i (by omega) (by omega) (fun hm => ?_))) (fun i i1 i2 => h34 i (by omega) i2), h3⟩
      rw [h3] at hm
      rcases List.mem_append.mp hm with z | z
      · exact hL (z3 i z i1 i2)
      · simp at z; omega
/-- what writing codes from a to b leaves as it was -/
def WF (a b : Nat) (σ σ' : Sg) : Prop := (∀ r, r ∉ [33, 34, 35] → σ' r = σ r) ∧ (∀ i, ¬ i = 4 → σ' 33 i = σ 33 i) ∧ (∀ i, ¬ (a ≤ i ∧ i < b) → σ' 34 i = σ 34 i ∧ σ' 35 i = σ 35 i)
theorem WF.rfl' {a b : Nat} {σ : Sg} : WF a b σ σ := ⟨fun _ _ => rfl, fun _ _ => rfl, fun _ _ => ⟨rfl, rfl⟩⟩
theorem WF.join {a b a1 b1 a2 b2 : Nat} {σ σ1 σ2 : Sg} (h : WF a1 b1 σ σ1) (h' : WF a2 b2 σ1 σ2) (h1 : a ≤ a1 ∧ b1 ≤ b) (h2 : a ≤ a2 ∧ b2 ≤ b) : WF a b σ σ2 :=
  ⟨fun r hr => by rw [h'.1 r hr, h.1 r hr], fun i hi => by rw [h'.2.1 i hi, h.2.1 i hi], fun i hi => by
    obtain ⟨x1, x2⟩ := h.2.2 i (by omega)
    obtain ⟨y1, y2⟩ := h'.2.2 i (by omega)
    exact ⟨by rw [y1, x1], by rw [y2, x2]⟩⟩
theorem WF.one {σ : Sg} {n : Nat} {v e : Int} : WF n (n + 1) σ (wrC σ n v e) := by
  refine ⟨fun r hr => ?_, fun i hi => ?_, fun i hi => ⟨by rw [wrC_34, if_neg (by omega)], by rw [wrC_35, if_neg (by omega)]⟩⟩
  · simp only [List.mem_cons, List.not_mem_nil, or_false, not_or] at hr
    unfold wrC; funext j; rw [up2_row (by omega), up2_row (by omega), up2_row (by omega)]
  · unfold wrC; rw [up2_row (by omega), up2_row (by omega), up2_idx hi]
theorem WF.ld {a b : Nat} {σ : Sg} {L : List Nat} (h : ∀ x ∈ L, a ≤ x ∧ x < b) : WF a b σ (ldC σ L) := by
  refine ⟨fun r hr => ldC_row (fun q => hr (by rw [q]; decide)), fun i hi => by rw [ldC_row (by omega)], fun i hi => ⟨by rw [ldC_row (by omega)], ?_⟩⟩
  rw [ldC_35, if_neg (fun q => hi (h i q))]
theorem WF.rp {a b : Nat} {σ σ' τ : Sg} (h : WF a b σ σ') (hP : RP σ τ) (hF : WFK (τ 1) (τ 2) (τ 3)) : RP σ' τ := RP.fr hP hF (fun r r1 r2 => h.1 r (by simp only [List.mem_cons, List.not_mem_nil, or_false, not_or]; omega)) (fun _ _ _ => rfl) rfl
