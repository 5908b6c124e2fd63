/-! the size, shared, of the reference's tree: two nodes -/
theorem for_fbs {f : Bool × Int → Option ((Bool × Int) ⊕ Bool)} {w : Nat} {P : Nat → Prop} (he : ∀ x, f (x, (w : Int)) = some (.inr x)) (hf : ∀ j : Nat, j < w → f (false, (j : Int)) = some (.inr false)) (hs : ∀ j : Nat, j < w → ∃ y, f (true, (j : Int)) = some (.inl (y, (j : Int) + 1)) ∧ (y = true ↔ P j)) : ∀ (d k n : Nat) (x : Bool), k + d = w → d < n → ∃ b, iter f n (x, (k : Int)) = some b ∧ (b = true ↔ x = true ∧ ∀ j, k ≤ j → j < w → P j)
  | 0, k, n, x, hk, hn => by
    obtain ⟨n, rfl⟩ : ∃ z, n = z + 1 := ⟨n - 1, by omega⟩
    have e : k = w := by omega
    refine ⟨x, by rw [e]; exact iter_r (he x), ⟨fun h => ⟨h, fun j j1 j2 => by omega⟩, fun h => h.1⟩⟩
  | d + 1, k, n, x, hk, hn => by
    obtain ⟨n, rfl⟩ : ∃ z, n = z + 1 := ⟨n - 1, by omega⟩
    cases x with
    | false => exact ⟨false, iter_r (hf k (by omega)), ⟨fun h => (by cases h), fun h => (by cases h.1)⟩⟩
    | true =>
      obtain ⟨y, y1, y2⟩ := hs k (by omega)
      obtain ⟨b, b1, b2⟩ := for_fbs he hf hs d (k + 1) n y (by omega) (by omega)
      refine ⟨b, ?_, b2.trans ⟨fun h => ⟨rfl, fun j j1 j2 => ?_⟩, fun h => ⟨y2.mpr (h.2 k (Nat.le_refl _) (by omega)), fun j j1 j2 => h.2 j (by omega) j2⟩⟩⟩
      · rw [iter_l y1, show (k : Int) + 1 = ((k + 1 : Nat) : Int) by omega]; exact b1
      · by_cases g : j = k
        · rw [g]; exact y2.mp h.1
        · exact h.2 j (by omega) j2
/-- the branch of a node leads to a node behind it -/
theorem BI.ch {τ s : Sg} {m : Bool} {pf : Nat → Pth} {N : Nat} (h : BI τ s m pf N N) {a : Nat} (ha : a < N) : ∃ f : Nat, s 44 a = f ∧ s 45 a = ((wid τ (qry τ m (pf a)) : Nat) : Int) ∧ (∀ i, i < wid τ (qry τ m (pf a)) → a < f + i ∧ f + i < N ∧ pf (f + i) = (qry τ m (pf a), i) :: pf a) := by
  obtain ⟨-, f2, f, f3, f4, f5⟩ := h.fin a ha
  refine ⟨f, f3, f2, fun i hi => ?_⟩
  obtain ⟨g1, g2⟩ := f5 i hi
  refine ⟨?_, g1, g2⟩
  have := f4 (by omega)
  obtain ⟨b, j, b1, b2, b3, b4, b5, b6⟩ := h.par (f + i) (by omega) g1
  rw [g2] at b6
  injection b6 with q1 q2
  have := h.inj _ a b (Nat.le_refl _) ha (by omega) q2
  omega
/-- the reference's cells while it numbers what is the same, nodes above k numbered -/
def R46 (τ s : Sg) (m : Bool) (pf : Nat → Pth) (N k : Nat) : Prop := (∀ r, 40 ≤ r → r ≤ 45 → s r = τ r) ∧ ∀ a b : Nat, k < a → k < b → a < N → b < N → (s 46 a = s 46 b ↔ cdP τ m (pf a) = cdP τ m (pf b))
set_option maxHeartbeats 4000000 in
theorem allsame_m {τ s : Sg} {m : Bool} {pf : Nat → Pth} {N k a : Nat} (hB : BI τ τ m pf N N) (h : R46 τ s m pf N k) (ha : a < N) (hk : k ≤ a) (hw : 0 < wid τ (qry τ m (pf a))) (hw10 : wid τ (qry τ m (pf a)) ≤ 10) : (∃ b, iter (fun z : (Bool × Int) => L_X11_isOwn_27 a s z.1 z.2) 3000 (true, 1) = some b ∧ (b = true ↔ ∀ i, i < wid τ (qry τ m (pf a)) → cdP τ m ((qry τ m (pf a), i) :: pf a) = cdP τ m ((qry τ m (pf a), 0) :: pf a))) ∧ ∃ b, iter (fun z : (Bool × Int) => L_X11_sharedSize_41 a s z.1 z.2) 3000 (true, 1) = some b ∧ (b = true ↔ ∀ i, i < wid τ (qry τ m (pf a)) → cdP τ m ((qry τ m (pf a), i) :: pf a) = cdP τ m ((qry τ m (pf a), 0) :: pf a)) := by
  obtain ⟨f, f1, f2, f3⟩ := hB.ch ha
  have h500 := hB.n500
  have r45 : rdn 512 s 45 (a : Int) = some ((wid τ (qry τ m (pf a)) : Nat) : Int) := by rw [rdn_ok (by omega) (by omega), show ((a : Int)).toNat = a by omega, h.1 45 (by omega) (by omega), f2]
  have r44 : rdn 512 s 44 (a : Int) = some (f : Int) := by rw [rdn_ok (by omega) (by omega), show ((a : Int)).toNat = a by omega, h.1 44 (by omega) (by omega), f1]
  have r46 : ∀ i, i < wid τ (qry τ m (pf a)) → rdn 512 s 46 (wrap ((f : Int) + (i : Int))) = some (s 46 (f + i)) := fun i hi => by
    obtain ⟨g1, g2, g3⟩ := f3 i hi
    rw [wrap_id (by omega) (by omega), rdn_ok (by omega) (by omega), show ((f : Int) + (i : Int)).toNat = f + i by omega]
  have r460 : rdn 512 s 46 (f : Int) = some (s 46 (f + 0)) := by
    obtain ⟨g1, g2, g3⟩ := f3 0 hw
    rw [rdn_ok (by omega) (by omega), show ((f : Int)).toNat = f + 0 by omega]
  have hcmp : ∀ i, i < wid τ (qry τ m (pf a)) → (s 46 (f + i) = s 46 (f + 0) ↔ cdP τ m ((qry τ m (pf a), i) :: pf a) = cdP τ m ((qry τ m (pf a), 0) :: pf a)) := fun i hi => by
    obtain ⟨g1, g2, g3⟩ := f3 i hi
    obtain ⟨k1, k2, k3⟩ := f3 0 hw
    have := h.2 (f + i) (f + 0) (by omega) (by omega) g2 k2
    rw [g3, k3] at this
    exact this
  have fin : ∀ b : Bool, (b = true ↔ true = true ∧ ∀ j, 1 ≤ j → j < wid τ (qry τ m (pf a)) → cdP τ m ((qry τ m (pf a), j) :: pf a) = cdP τ m ((qry τ m (pf a), 0) :: pf a)) → (b = true ↔ ∀ i, i < wid τ (qry τ m (pf a)) → cdP τ m ((qry τ m (pf a), i) :: pf a) = cdP τ m ((qry τ m (pf a), 0) :: pf a)) := fun b hb => by
    rw [hb]
    constructor
    · rintro ⟨-, z⟩ i hi
      by_cases g : i = 0
      · rw [g]
      · exact z i (by omega) hi
    · intro z
      exact ⟨rfl, fun j _ j2 => z j j2⟩
  constructor
  · obtain ⟨b, b1, b2⟩ := for_fbs (f := fun z : (Bool × Int) => L_X11_isOwn_27 a s z.1 z.2) (w := wid τ (qry τ m (pf a))) (P := fun j => cdP τ m ((qry τ m (pf a), j) :: pf a) = cdP τ m ((qry τ m (pf a), 0) :: pf a)) (fun x => by
      show L_X11_isOwn_27 a s x _ = _
      unfold L_X11_isOwn_27
      rw [r45, Option.bind_some, if_pos (Int.le_refl _)]) (fun j hj => by
      show L_X11_isOwn_27 a s false _ = _
      unfold L_X11_isOwn_27
      rw [r45, Option.bind_some, if_neg (by omega), if_neg (by decide)]) (fun j hj => by
      show ∃ y, L_X11_isOwn_27 a s true _ = _ ∧ _
      unfold L_X11_isOwn_27 B_X11_isOwn_73
      rw [r45, Option.bind_some, if_neg (by omega), if_pos rfl, r44, Option.bind_some, r46 j hj, Option.bind_some, Option.bind_some, r460, Option.bind_some, wrap_id (z := (j : Int) + 1) (by omega) (by omega)]
      by_cases g : s 46 (f + j) = s 46 (f + 0)
      · rw [if_pos g]; exact ⟨true, rfl, ⟨fun _ => (hcmp j hj).mp g, fun _ => rfl⟩⟩
      · rw [if_neg g]; exact ⟨false, rfl, ⟨fun z => (by cases z), fun z => absurd ((hcmp j hj).mpr z) g⟩⟩) (wid τ (qry τ m (pf a)) - 1) 1 3000 true (by omega) (by omega)
    exact ⟨b, b1, fin b b2⟩
  · obtain ⟨b, b1, b2⟩ := for_fbs (f := fun z : (Bool × Int) => L_X11_sharedSize_41 a s z.1 z.2) (w := wid τ (qry τ m (pf a))) (P := fun j => cdP τ m ((qry τ m (pf a), j) :: pf a) = cdP τ m ((qry τ m (pf a), 0) :: pf a)) (fun x => by
      show L_X11_sharedSize_41 a s x _ = _
      unfold L_X11_sharedSize_41
      rw [r45, Option.bind_some, if_pos (Int.le_refl _)]) (fun j hj => by
      show L_X11_sharedSize_41 a s false _ = _
      unfold L_X11_sharedSize_41
      rw [r45, Option.bind_some, if_neg (by omega), if_neg (by decide)]) (fun j hj => by
      show ∃ y, L_X11_sharedSize_41 a s true _ = _ ∧ _
      unfold L_X11_sharedSize_41 B_X11_sharedSize_89
      rw [r45, Option.bind_some, if_neg (by omega), if_pos rfl, r44, Option.bind_some, r46 j hj, Option.bind_some, Option.bind_some, r460, Option.bind_some, wrap_id (z := (j : Int) + 1) (by omega) (by omega)]
      by_cases g : s 46 (f + j) = s 46 (f + 0)
      · rw [if_pos g]; exact ⟨true, rfl, ⟨fun _ => (hcmp j hj).mp g, fun _ => rfl⟩⟩
      · rw [if_neg g]; exact ⟨false, rfl, ⟨fun z => (by cases z), fun z => absurd ((hcmp j hj).mpr z) g⟩⟩) (wid τ (qry τ m (pf a)) - 1) 1 3000 true (by omega) (by omega)
    exact ⟨b, b1, fin b b2⟩
/-- whether a node isn't replaced -/
theorem isOwn_m {τ s : Sg} {m : Bool} {pf : Nat → Pth} {N k a : Nat} (hB : BI τ τ m pf N N) (h : R46 τ s m pf N k) (ha : a < N) (hk : k ≤ a) (hok : okAs (qry τ m (pf a)) ∧ wid τ (qry τ m (pf a)) ≤ 10) : ∃ b, F_X11_isOwn a s = some b ∧ (b = true ↔ ¬ idl τ m (pf a)) := by
  have h500 := hB.n500
  obtain ⟨f, f1, f2, f3⟩ := hB.ch ha
  obtain ⟨g1, -, -⟩ := hB.fin a ha
  obtain ⟨c1, -, -, -, -, -, -, -, -, -⟩ := ask_cells g1 hok.1.1
  have r45 : rdn 512 s 45 (a : Int) = some ((wid τ (qry τ m (pf a)) : Nat) : Int) := by rw [rdn_ok (by omega) (by omega), show ((a : Int)).toNat = a by omega, h.1 45 (by omega) (by omega), f2]
  have r41 : rdn 512 s 41 (a : Int) = some (τ 41 a) := by rw [rdn_ok (by omega) (by omega), show ((a : Int)).toNat = a by omega, h.1 41 (by omega) (by omega)]
  have h23 : F_X11_isOwn a s = B_X11_isOwn_23 a s → ¬ idl τ m (pf a) → ∃ b, F_X11_isOwn a s = some b ∧ (b = true ↔ ¬ idl τ m (pf a)) := fun e hn => by
    have e2 : iter (fun z : (Bool × Int) => L_X11_isOwn_27 a s z.1 z.2) 3000 (false, 1) = some false := iter_r (f := fun z : (Bool × Int) => L_X11_isOwn_27 a s z.1 z.2) (n := 2999) (a := (false, 1)) (by
      show L_X11_isOwn_27 a s false 1 = _
      unfold L_X11_isOwn_27
      rw [r45, Option.bind_some, if_neg (show ¬ false = true by decide)]
      split <;> rfl)
    refine ⟨true, ?_, ⟨fun _ => hn, fun _ => rfl⟩⟩
    rw [e]
    unfold B_X11_isOwn_23 B_X11_isOwn_24
    rw [e2, Option.bind_some, if_neg (by decide)]
  by_cases c5 : τ 41 a = 5
  · by_cases cw : wid τ (qry τ m (pf a)) = 0
    · refine h23 ?_ (fun z => by have := z.2.1; omega)
      unfold F_X11_isOwn
      rw [r41, Option.bind_some, if_pos c5, r45, Option.bind_some, if_pos (by omega)]
    · obtain ⟨⟨b, b1, b2⟩, -⟩ := allsame_m hB h ha hk (by omega) hok.2
      have hid : b = true ↔ idl τ m (pf a) := b2.trans ⟨fun z => ⟨c1.mp c5, by omega, z⟩, fun z => z.2.2⟩
      unfold F_X11_isOwn B_X11_isOwn_24
      rw [r41, Option.bind_some, if_pos c5, r45, Option.bind_some, if_neg (by omega), b1, Option.bind_some]
      by_cases g : b = true
      · rw [if_pos g]; exact ⟨false, rfl, ⟨fun z => (by cases z), fun z => absurd (hid.mp g) z⟩⟩
      · rw [if_neg g]; exact ⟨true, rfl, ⟨fun _ z => g (hid.mpr z), fun _ => rfl⟩⟩
  · refine h23 ?_ (fun z => c5 (c1.mpr z.1))
    unfold F_X11_isOwn
    rw [r41, Option.bind_some, if_neg c5]
