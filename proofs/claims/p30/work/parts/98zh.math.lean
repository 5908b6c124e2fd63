/-! the places that are needed, as the given program marks them -/
def FrL (σ0 σ : Sg) : Prop := (∀ r, ¬ r = 37 → ¬ r = 40 → ¬ r = 41 → ¬ r = 42 → σ r = σ0 r) ∧ ∀ i, ¬ i = 5 → ¬ i = 6 → ¬ i = 7 → ¬ i = 8 → σ 37 i = σ0 37 i
theorem FrL.rfl' {σ : Sg} : FrL σ σ := ⟨fun _ _ _ _ _ => rfl, fun _ _ _ _ _ => rfl⟩
theorem FrL.trans {a b c : Sg} (h : FrL a b) (h' : FrL b c) : FrL a c := ⟨fun r h1 h2 h3 h4 => by rw [h'.1 r h1 h2 h3 h4, h.1 r h1 h2 h3 h4], fun i h1 h2 h3 h4 => by rw [h'.2 i h1 h2 h3 h4, h.2 i h1 h2 h3 h4]⟩
theorem FrK.l {a b : Sg} (h : FrK a b) : FrL a b := ⟨fun r h1 h2 _ _ => h.1 r h1 h2, fun i h1 h2 h3 _ => h.2 i h1 h2 h3⟩
theorem FrL.ctx {σ0 σ τ : Sg} {P : Pth} (h : FrL σ0 σ) (hC : CtxK σ0 τ P) : CtxK σ τ P := by
  obtain ⟨h1, h2, h3, h4, h5, a, b, c, d⟩ := hC
  refine ⟨RP.fr h1 h3 (fun r r1 r2 => h.1 r (by omega) (by omega) (by omega) (by omega)) (fun _ _ _ => rfl) rfl, h2.fr (fun r r1 r2 => h.1 r (by omega) (by omega) (by omega) (by omega)), h3, h4, h5, ?_, b.congr (h.1 39 (by omega) (by omega) (by omega) (by omega)), ?_, ?_⟩
  · rw [h.1 38 (by omega) (by omega) (by omega) (by omega)]; exact a
  · rw [h.2 4 (by omega) (by omega) (by omega) (by omega)]; exact c
  · rw [h.2 4 (by omega) (by omega) (by omega) (by omega)]; exact d
theorem FrL.mk {σ : Sg} {n x : Nat} {a b v : Int} : FrL σ (up2 (up2 (up2 σ 37 8 a) 41 n b) 42 x v) :=
  ⟨fun r h1 h2 h3 h4 => by funext j; rw [up2_row h4, up2_row h3, up2_row h1], fun i h1 h2 h3 h4 => by rw [up2_row (by omega), up2_row (by omega), up2_idx h4]⟩
theorem FrL.m1 {σ : Sg} {x : Nat} {v : Int} : FrL σ (up2 σ 42 x v) :=
  ⟨fun r h1 h2 h3 h4 => by funext j; rw [up2_row h4], fun i h1 h2 h3 h4 => by rw [up2_row (by omega)]⟩
/-- places of their own: at most 120 -/
theorem pls_len {f : Nat → Int} {n : Nat} (h1 : ∀ i j : Nat, i < j → j < n → ¬ f i = f j) (h2 : ∀ i : Nat, i < n → prP 3 (f i)) : n ≤ 120 := by
  have := sub_len (l := (List.range n).map (fun i => (f i).toNat)) (m := allPl) (by
    rw [List.nodup_iff_pairwise_ne, List.pairwise_map]
    have : List.Pairwise (fun a b => a < b ∧ b < n) (List.range n) := by
      rw [List.pairwise_iff_getElem]
      intro i j hi hj hij
      rw [List.length_range] at hi hj
      rw [List.getElem_range, List.getElem_range]
      exact ⟨hij, hj⟩
    refine this.imp (fun {a b} q => ?_)
    intro e
    have e' : (f a).toNat = (f b).toNat := e
    have := prP_468 (h2 a (by omega))
    have := prP_468 (h2 b q.2)
    exact h1 a b q.1 q.2 (by omega)) (by
    intro a ha
    rw [List.mem_map] at ha
    obtain ⟨i, hi, rfl⟩ := ha
    exact allPl_mem (h2 i (List.mem_range.mp hi)))
  rw [List.length_map, List.length_range, allPl_len] at this
  exact this
theorem bit_m0 : ∀ (k : Fin 6) (c : Fin 8), jor (jor 0 (jshl 1 ((c.val : Nat) : Int))) (jshl ((k.val : Nat) : Int) 8) = (((0 ||| 2 ^ c.val) + 256 * k.val : Nat) : Int) := by decide +kernel
theorem bit_m1 : ∀ (k : Fin 6) (c : Fin 8) (M : Fin 256), jor (jor ((M.val + 256 * k.val : Nat) : Int) (jshl 1 ((c.val : Nat) : Int))) (jshl ((k.val : Nat) : Int) 8) = (((M.val ||| 2 ^ c.val) + 256 * k.val : Nat) : Int) := by decide +kernel
theorem bit_m2 : ∀ (c : Fin 8) (M : Fin 256), (M.val ||| 2 ^ c.val) < 256 ∧ ∀ j : Fin 8, (M.val ||| 2 ^ c.val).testBit j.val = (M.val.testBit j.val || decide (j = c)) := by decide +kernel
/-- the list of the places, and a cell for each: which cases (g), which kind (K) -/
def cellN (v : Int) (g : Nat → Prop) (k : Int) : Prop := ((∀ c : Nat, c < 8 → ¬ g c) ∧ v = 0) ∨ ∃ M : Nat, M < 256 ∧ (∃ c : Nat, c < 8 ∧ g c) ∧ v = M + 256 * k ∧ ∀ c : Nat, c < 8 → (M.testBit c = true ↔ g c)
def NC (σ : Sg) (g : Int → Nat → Prop) (K : Int → Int) : Prop := ∃ n : Nat, σ 37 8 = n ∧ (∀ i j : Nat, i < j → j < n → ¬ σ 41 i = σ 41 j) ∧ (∀ i : Nat, i < n → prP 3 (σ 41 i)) ∧ (∀ x : Int, 1 ≤ x → x ≤ 468 → ((∃ i : Nat, i < n ∧ σ 41 i = x) ↔ ∃ c : Nat, c < 8 ∧ g x c)) ∧ ∀ x : Int, 1 ≤ x → x ≤ 468 → cellN (σ 42 x.toNat) (g x) (K x)
theorem cellN.iff {v k : Int} {g g' : Nat → Prop} (h : cellN v g k) (hg : ∀ c : Nat, c < 8 → (g c ↔ g' c)) : cellN v g' k := by
  rcases h with ⟨h1, h2⟩ | ⟨M, m1, ⟨c, c1, c2⟩, m3, m4⟩
  · exact Or.inl ⟨fun c hc q => h1 c hc ((hg c hc).mpr q), h2⟩
  · exact Or.inr ⟨M, m1, ⟨c, c1, (hg c c1).mp c2⟩, m3, fun c hc => (m4 c hc).trans (hg c hc)⟩
theorem NC.iff {σ : Sg} {g g' : Int → Nat → Prop} {K : Int → Int} (h : NC σ g K) (hg : ∀ x c, c < 8 → (g x c ↔ g' x c)) : NC σ g' K := by
  obtain ⟨n, a, b, c, d, e⟩ := h
  refine ⟨n, a, b, c, fun x x1 x2 => (d x x1 x2).trans ⟨fun ⟨c, c1, c2⟩ => ⟨c, c1, (hg x c c1).mp c2⟩, fun ⟨c, c1, c2⟩ => ⟨c, c1, (hg x c c1).mpr c2⟩⟩, fun x x1 x2 => (e x x1 x2).iff (fun c hc => hg x c hc)⟩
theorem NC.fr {σ σ' : Sg} {g : Int → Nat → Prop} {K : Int → Int} (h : NC σ g K) (h8 : σ' 37 8 = σ 37 8) (h1 : σ' 41 = σ 41) (h2 : σ' 42 = σ 42) : NC σ' g K := by
  unfold NC
  rw [h8, h1, h2]
  exact h
theorem NC.k {σ σ' : Sg} {g : Int → Nat → Prop} {K : Int → Int} (h : NC σ g K) (hs : FrK σ σ') (h8 : σ' 37 8 = σ 37 8) : NC σ' g K := h.fr h8 (hs.1 41 (by omega) (by omega)) (hs.1 42 (by omega) (by omega))
set_option maxHeartbeats 4000000 in
theorem mark_c {σ : Sg} {g : Int → Nat → Prop} {K : Int → Int} {x k : Int} {c : Nat} (hN : NC σ g K) (hp : prP 3 x) (hk : K x = k) (hk5 : 0 ≤ k ∧ k ≤ 5) (hc : c < 8) : FrL σ (F_X3_markNeed x k (jshl 1 (c : Int)) σ) ∧ NC (F_X3_markNeed x k (jshl 1 (c : Int)) σ) (fun y j => g y j ∨ (j = c ∧ y = x)) K := by
  obtain ⟨n, h8, hd, hpr, hin, hcell⟩ := hN
  have hx := prP_468 hp
  have hn := pls_len hd hpr
  have hM2 : ∀ M : Nat, M < 256 → (M ||| 2 ^ c) < 256 ∧ ∀ j : Nat, j < 8 → (M ||| 2 ^ c).testBit j = (M.testBit j || decide (j = c)) := fun M hM => by
    obtain ⟨a, b⟩ := bit_m2 ⟨c, hc⟩ ⟨M, hM⟩
    refine ⟨a, fun j hj => ?_⟩
    have := b ⟨j, hj⟩
    simp only [Fin.mk.injEq] at this
    exact this
  have hcx := hcell x hx.1 hx.2
  have hnew : ∀ M : Nat, M < 256 → (∀ j : Nat, j < 8 → (M.testBit j = true ↔ g x j)) → cellN (((M ||| 2 ^ c) + 256 * k.toNat : Nat) : Int) (fun j => g x j ∨ (j = c ∧ x = x)) (K x) := fun M hM hb => by
    obtain ⟨a, b⟩ := hM2 M hM
    refine Or.inr ⟨M ||| 2 ^ c, a, ⟨c, hc, Or.inr ⟨rfl, rfl⟩⟩, by rw [hk]; omega, fun j hj => ?_⟩
    rw [b j hj, Bool.or_eq_true, hb j hj, decide_eq_true_eq]
    constructor
    · rintro (z | z)
      · exact Or.inl z
      · exact Or.inr ⟨z, rfl⟩
    · rintro (z | ⟨z, -⟩)
      · exact Or.inl z
      · exact Or.inr z
  unfold F_X3_markNeed B_X3_markNeed_34
  rw [rdD_ok (by omega) (by omega), bnd_eq]
  rcases hcx with ⟨z1, z2⟩ | ⟨M, m1, ⟨c0, c1, c2⟩, m3, m4⟩
  · have hnx : ∀ i : Nat, i < n → ¬ σ 41 i = x := fun i hi q => by
      obtain ⟨j, j1, j2⟩ := (hin x hx.1 hx.2).mp ⟨i, hi, q⟩
      exact z1 j j1 j2
    have hn2 : n + 1 ≤ 120 := by
      refine pls_len (f := fun i => if i = n then x else σ 41 i) (fun i j hij hj => ?_) (fun i hi => ?_)
      · rw [if_neg (by omega)]
        by_cases q : j = n
        · rw [if_pos q]; exact hnx i (by omega)
        · rw [if_neg q]; exact hd i j hij (by omega)
      · by_cases q : i = n
        · rw [if_pos q]; exact hp
        · rw [if_neg q]; exact hpr i (by omega)
    have hv := bit_m0 ⟨k.toNat, by omega⟩ ⟨c, hc⟩
    simp only at hv
    rw [show ((k.toNat : Nat) : Int) = k by omega] at hv
    have hc0 := hnew 0 (by omega) (fun j hj => by
      rw [Nat.zero_testBit]
      exact ⟨fun q => (by cases q), fun q => absurd q (z1 j hj)⟩)
    rw [z2, if_pos rfl, h8, wrap_id (by omega) (by omega), bnd_eq, wrD_ok (by omega) (by omega), bnd_eq, bnd_eq, wrD_ok (by omega) (by omega), hv, show ((n : Int)).toNat = n by omega]
    have h41 : ∀ (v : Int) (i : Nat), up2 (up2 (up2 σ 37 8 ((n : Int) + 1)) 41 n x) 42 x.toNat v 41 i = if i = n then x else σ 41 i := fun v i => by
      rw [up2_row (by omega)]
      by_cases q : i = n
      · rw [up2_at rfl q, if_pos q]
      · rw [up2_idx q, up2_row (by omega), if_neg q]
    refine ⟨FrL.mk, n + 1, ?_, fun i j hij hj => ?_, fun i hi => ?_, fun y y1 y2 => ?_, fun y y1 y2 => ?_⟩
    · rw [up2_row (by omega), up2_row (by omega), up2_at rfl rfl]; omega
    · rw [h41, h41, if_neg (show ¬ i = n by omega)]
      by_cases q : j = n
      · rw [if_pos q]; exact hnx i (by omega)
      · rw [if_neg q]; exact hd i j hij (by omega)
    · rw [h41]
      by_cases q : i = n
      · rw [if_pos q]; exact hp
      · rw [if_neg q]; exact hpr i (by omega)
    · constructor
      · rintro ⟨i, i1, i2⟩
        rw [h41] at i2
        by_cases q : i = n
        · rw [if_pos q] at i2
          exact ⟨c, hc, Or.inr ⟨rfl, i2.symm⟩⟩
        · rw [if_neg q] at i2
          obtain ⟨j, j1, j2⟩ := (hin y y1 y2).mp ⟨i, by omega, i2⟩
          exact ⟨j, j1, Or.inl j2⟩
      · rintro ⟨j, j1, j2 | ⟨j2, j3⟩⟩
        · obtain ⟨i, i1, i2⟩ := (hin y y1 y2).mpr ⟨j, j1, j2⟩
          exact ⟨i, by omega, by rw [h41, if_neg (by omega)]; exact i2⟩
        · exact ⟨n, by omega, by rw [h41, if_pos rfl, j3]⟩
    · by_cases q : y = x
      · rw [up2_at rfl (by rw [q]), q]
        exact hc0
      · rw [up2_idx (by omega), up2_row (by omega), up2_row (by omega)]
        refine (hcell y y1 y2).iff (fun j hj => ⟨Or.inl, ?_⟩)
        rintro (z | ⟨-, z⟩)
        · exact z
        · exact absurd z q
  · have hMp : 0 < M := by
      rcases Nat.eq_zero_or_pos M with q | q
      · have := (m4 c0 c1).mpr c2
        rw [q, Nat.zero_testBit] at this
        cases this
      · exact q
    have hv := bit_m1 ⟨k.toNat, by omega⟩ ⟨c, hc⟩ ⟨M, m1⟩
    simp only at hv
    rw [show (((M + 256 * k.toNat : Nat)) : Int) = M + 256 * k by omega, show ((k.toNat : Nat) : Int) = k by omega] at hv
    have hc1 := hnew M m1 m4
    rw [hk] at m3
    rw [m3, if_neg (by omega), wrD_ok (by omega) (by omega), bnd_eq, hv]
    refine ⟨FrL.m1, n, ?_, fun i j hij hj => ?_, fun i hi => ?_, fun y y1 y2 => ?_, fun y y1 y2 => ?_⟩
    · rw [up2_row (by omega)]; exact h8
    · have h41 : ∀ (v : Int) (i : Nat), up2 σ 42 x.toNat v 41 i = σ 41 i := fun v i => up2_row (by omega)
      rw [h41, h41]; exact hd i j hij hj
    · rw [up2_row (by omega)]; exact hpr i hi
    · constructor
      · rintro ⟨i, i1, i2⟩
        rw [up2_row (by omega)] at i2
        obtain ⟨j, j1, j2⟩ := (hin y y1 y2).mp ⟨i, i1, i2⟩
        exact ⟨j, j1, Or.inl j2⟩
      · rintro ⟨j, j1, j2⟩
        have : ∃ i : Nat, i < n ∧ σ 41 i = y := by
          rcases j2 with j2 | ⟨j2, j3⟩
          · exact (hin y y1 y2).mpr ⟨j, j1, j2⟩
          · rw [j3]; exact (hin x hx.1 hx.2).mpr ⟨c0, c1, c2⟩
        obtain ⟨i, i1, i2⟩ := this
        exact ⟨i, i1, by rw [up2_row (by omega)]; exact i2⟩
    · by_cases q : y = x
      · rw [up2_at rfl (by rw [q]), q]
        exact hc1
      · rw [up2_idx (by omega)]
        refine (hcell y y1 y2).iff (fun j hj => ⟨Or.inl, ?_⟩)
        rintro (z | ⟨-, z⟩)
        · exact z
        · exact absurd z q
